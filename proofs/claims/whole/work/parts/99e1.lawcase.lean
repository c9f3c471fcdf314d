/-! the law's cases -/
set_option maxRecDepth 100000 in
set_option maxHeartbeats 4000000 in
theorem law_9 {base : Nat} {D : va_G} {cA : Nat → ClassId} {p : Program} {l : Launch} {e : Env} {s : State} {m : MethodId} {args : Array Value} {below : List Frame} {meth : Method} {c : Code} {Q : State → Prop} (C : GC base D cA p s m args meth c cL_law 4 RL) {b L : Nat} {xs : Nat → Int32} (hX : va_X b L xs s s.heap) (hbl : b < s.heap.size) (hbA : ¬ AA base b) {i : Nat} (hi : i + 6 ≤ L) (hL : L ≤ 3072) {h : Hp} {t : Nat} (ht : t ≤ 38000) (R : REL h t) {cells slots : Nat} (hc : cells + 3 ≤ 600000) (hs : slots + 131 ≤ 7302250) (K : ∀ h2, REL h2 (t + 60) → GW base D cA p l e room_1 s m args below meth c Q 4 h2 (cells + 3) (slots + 131) 858 (lvL base b i) []) : GW base D cA p l e room_1 s m args below meth c Q 4 h cells slots 397 (lvL base b i) [] := by
  obtain ⟨r, h1, h2, e1, e2, R2, S1⟩ := p_bail t (xs (i + 1)) h R
  refine g_aload_n C 1 dL_law_397 rfl rfl ?_
  refine g_aload_n C 0 dL_law_398 rfl rfl ?_
  refine g_iload_n C 3 dL_law_399 rfl rfl ?_
  refine g_iconst C 1 dL_law_400 rfl ?_
  refine g_iadd C dL_law_401 ?_
  refine g_sld C hX hbl hbA (j := i + 1) (nI_add i 1) (by omega) (by omega) dL_law_402 ?_
  refine g_call C (a := 1) (ci := 8) (q := (RX8, TX8, 7)) (rm := rm_X8_bail) [.int (xs (i + 1))] dL_law_403 cl_L_55 lc_X8_bail rfl (by decide) rfl rfl ⟨Nat.le_of_ble_eq_true rfl, Nat.le_of_ble_eq_true rfl⟩ (Nat.le_of_ble_eq_true rfl) ⟨by show cells + 0 ≤ 600000; omega, by show slots + 0 ≤ 7302250; omega⟩ rfl (fun r' h' E => o_X8_bail l base D cA 1 (xs (i + 1)) h r' h' E) e1 R.t1 ?_
  refine g_aload_n C 2 dL_law_406 rfl rfl ?_
  refine g_aload_n C 0 dL_law_407 rfl rfl ?_
  refine g_iload_n C 3 dL_law_408 rfl rfl ?_
  refine g_iconst C 1 dL_law_409 rfl ?_
  refine g_iadd C dL_law_410 ?_
  refine g_sld C hX hbl hbA (j := i + 1) (nI_add i 1) (by omega) (by omega) dL_law_411 ?_
  refine g_call C (a := 241) (ci := 9) (q := (RX9, TX9, 13)) (rm := rm_X9_bail) [.int (xs (i + 1))] dL_law_412 cl_L_58 lc_X9_bail rfl (by decide) rfl rfl ⟨Nat.le_of_ble_eq_true rfl, Nat.le_of_ble_eq_true rfl⟩ (Nat.le_of_ble_eq_true rfl) ⟨by show cells + 0 + 0 ≤ 600000; omega, by show slots + 0 + 0 ≤ 7302250; omega⟩ rfl (fun r' h' E => o_X9_bail l base D cA 241 (xs (i + 1)) h1 r' h' E) e2 (by rw [S1.m0]) ?_
  refine g_same C 858 dL_law_415 (by decide) ?_
  exact g_widen (cells + 3) (slots + 131) (by show cells + 0 + 0 ≤ cells + 3; omega) (by show slots + 0 + 0 ≤ slots + 131; omega) (K h2 R2)
set_option maxRecDepth 100000 in
set_option maxHeartbeats 4000000 in
theorem law_10 {base : Nat} {D : va_G} {cA : Nat → ClassId} {p : Program} {l : Launch} {e : Env} {s : State} {m : MethodId} {args : Array Value} {below : List Frame} {meth : Method} {c : Code} {Q : State → Prop} (C : GC base D cA p s m args meth c cL_law 4 RL) {b L : Nat} {xs : Nat → Int32} (hX : va_X b L xs s s.heap) (hbl : b < s.heap.size) (hbA : ¬ AA base b) {i : Nat} (hi : i + 6 ≤ L) (hL : L ≤ 3072) {h : Hp} {t : Nat} (ht : t ≤ 38000) (R : REL h t) {cells slots : Nat} (hc : cells + 3 ≤ 600000) (hs : slots + 131 ≤ 7302250) (K : ∀ h2, REL h2 (t + 60) → GW base D cA p l e room_1 s m args below meth c Q 4 h2 (cells + 3) (slots + 131) 858 (lvL base b i) []) : GW base D cA p l e room_1 s m args below meth c Q 4 h cells slots 420 (lvL base b i) [] := by
  obtain ⟨r, h1, h2, e1, e2, R2, S1⟩ := p_openDoor t ht (xs (i + 1)) h R
  refine g_aload_n C 1 dL_law_420 rfl rfl ?_
  refine g_aload_n C 0 dL_law_421 rfl rfl ?_
  refine g_iload_n C 3 dL_law_422 rfl rfl ?_
  refine g_iconst C 1 dL_law_423 rfl ?_
  refine g_iadd C dL_law_424 ?_
  refine g_sld C hX hbl hbA (j := i + 1) (nI_add i 1) (by omega) (by omega) dL_law_425 ?_
  refine g_call C (a := 1) (ci := 8) (q := (RX8, TX8, 7)) (rm := rm_X8_openDoor) [.int (xs (i + 1))] dL_law_426 cl_L_59 lc_X8_openDoor rfl (by decide) rfl rfl ⟨Nat.le_of_ble_eq_true rfl, Nat.le_of_ble_eq_true rfl⟩ (Nat.le_of_ble_eq_true rfl) ⟨by show cells + 0 ≤ 600000; omega, by show slots + 0 ≤ 7302250; omega⟩ rfl (fun r' h' E => o_X8_openDoor l base D cA 1 (xs (i + 1)) h r' h' E) e1 R.t1 ?_
  refine g_aload_n C 2 dL_law_429 rfl rfl ?_
  refine g_aload_n C 0 dL_law_430 rfl rfl ?_
  refine g_iload_n C 3 dL_law_431 rfl rfl ?_
  refine g_iconst C 1 dL_law_432 rfl ?_
  refine g_iadd C dL_law_433 ?_
  refine g_sld C hX hbl hbA (j := i + 1) (nI_add i 1) (by omega) (by omega) dL_law_434 ?_
  refine g_call C (a := 241) (ci := 9) (q := (RX9, TX9, 13)) (rm := rm_X9_openDoor) [.int (xs (i + 1))] dL_law_435 cl_L_62 lc_X9_openDoor rfl (by decide) rfl rfl ⟨Nat.le_of_ble_eq_true rfl, Nat.le_of_ble_eq_true rfl⟩ (Nat.le_of_ble_eq_true rfl) ⟨by show cells + 0 + 0 ≤ 600000; omega, by show slots + 0 + 0 ≤ 7302250; omega⟩ rfl (fun r' h' E => o_X9_openDoor l base D cA 241 (xs (i + 1)) h1 r' h' E) e2 (by rw [S1.m0]) ?_
  refine g_same C 858 dL_law_438 (by decide) ?_
  exact g_widen (cells + 3) (slots + 131) (by show cells + 0 + 0 ≤ cells + 3; omega) (by show slots + 0 + 0 ≤ slots + 131; omega) (K h2 R2)
set_option maxRecDepth 100000 in
set_option maxHeartbeats 4000000 in
theorem law_11 {base : Nat} {D : va_G} {cA : Nat → ClassId} {p : Program} {l : Launch} {e : Env} {s : State} {m : MethodId} {args : Array Value} {below : List Frame} {meth : Method} {c : Code} {Q : State → Prop} (C : GC base D cA p s m args meth c cL_law 4 RL) {b L : Nat} {xs : Nat → Int32} (hX : va_X b L xs s s.heap) (hbl : b < s.heap.size) (hbA : ¬ AA base b) {i : Nat} (hi : i + 6 ≤ L) (hL : L ≤ 3072) {h : Hp} {t : Nat} (ht : t ≤ 38000) (R : REL h t) {cells slots : Nat} (hc : cells + 3 ≤ 600000) (hs : slots + 131 ≤ 7302250) (K : ∀ h2, REL h2 (t + 60) → GW base D cA p l e room_1 s m args below meth c Q 4 h2 (cells + 3) (slots + 131) 858 (lvL base b i) []) : GW base D cA p l e room_1 s m args below meth c Q 4 h cells slots 443 (lvL base b i) [] := by
  obtain ⟨r, h1, h2, e1, e2, R2, S1⟩ := p_closeDoor t (xs (i + 1)) h R
  refine g_aload_n C 1 dL_law_443 rfl rfl ?_
  refine g_aload_n C 0 dL_law_444 rfl rfl ?_
  refine g_iload_n C 3 dL_law_445 rfl rfl ?_
  refine g_iconst C 1 dL_law_446 rfl ?_
  refine g_iadd C dL_law_447 ?_
  refine g_sld C hX hbl hbA (j := i + 1) (nI_add i 1) (by omega) (by omega) dL_law_448 ?_
  refine g_call C (a := 1) (ci := 8) (q := (RX8, TX8, 7)) (rm := rm_X8_closeDoor) [.int (xs (i + 1))] dL_law_449 cl_L_63 lc_X8_closeDoor rfl (by decide) rfl rfl ⟨Nat.le_of_ble_eq_true rfl, Nat.le_of_ble_eq_true rfl⟩ (Nat.le_of_ble_eq_true rfl) ⟨by show cells + 0 ≤ 600000; omega, by show slots + 0 ≤ 7302250; omega⟩ rfl (fun r' h' E => o_X8_closeDoor l base D cA 1 (xs (i + 1)) h r' h' E) e1 R.t1 ?_
  refine g_aload_n C 2 dL_law_452 rfl rfl ?_
  refine g_aload_n C 0 dL_law_453 rfl rfl ?_
  refine g_iload_n C 3 dL_law_454 rfl rfl ?_
  refine g_iconst C 1 dL_law_455 rfl ?_
  refine g_iadd C dL_law_456 ?_
  refine g_sld C hX hbl hbA (j := i + 1) (nI_add i 1) (by omega) (by omega) dL_law_457 ?_
  refine g_call C (a := 241) (ci := 9) (q := (RX9, TX9, 13)) (rm := rm_X9_closeDoor) [.int (xs (i + 1))] dL_law_458 cl_L_66 lc_X9_closeDoor rfl (by decide) rfl rfl ⟨Nat.le_of_ble_eq_true rfl, Nat.le_of_ble_eq_true rfl⟩ (Nat.le_of_ble_eq_true rfl) ⟨by show cells + 0 + 0 ≤ 600000; omega, by show slots + 0 + 0 ≤ 7302250; omega⟩ rfl (fun r' h' E => o_X9_closeDoor l base D cA 241 (xs (i + 1)) h1 r' h' E) e2 (by rw [S1.m0]) ?_
  refine g_same C 858 dL_law_461 (by decide) ?_
  exact g_widen (cells + 3) (slots + 131) (by show cells + 0 + 0 ≤ cells + 3; omega) (by show slots + 0 + 0 ≤ slots + 131; omega) (K h2 R2)
set_option maxRecDepth 100000 in
set_option maxHeartbeats 4000000 in
theorem law_12 {base : Nat} {D : va_G} {cA : Nat → ClassId} {p : Program} {l : Launch} {e : Env} {s : State} {m : MethodId} {args : Array Value} {below : List Frame} {meth : Method} {c : Code} {Q : State → Prop} (C : GC base D cA p s m args meth c cL_law 4 RL) {b L : Nat} {xs : Nat → Int32} (hX : va_X b L xs s s.heap) (hbl : b < s.heap.size) (hbA : ¬ AA base b) {i : Nat} (hi : i + 6 ≤ L) (hL : L ≤ 3072) {h : Hp} {t : Nat} (ht : t ≤ 38000) (R : REL h t) {cells slots : Nat} (hc : cells + 3 ≤ 600000) (hs : slots + 131 ≤ 7302250) (K : ∀ h2, REL h2 (t + 60) → GW base D cA p l e room_1 s m args below meth c Q 4 h2 (cells + 3) (slots + 131) 858 (lvL base b i) []) : GW base D cA p l e room_1 s m args below meth c Q 4 h cells slots 466 (lvL base b i) [] := by
  obtain ⟨r, h1, h2, e1, e2, R2, S1⟩ := p_haggle t (xs (i + 1)) (xs (i + 2)) (xs (i + 3)) (xs (i + 4)) (xs (i + 5)) h R
  refine g_aload_n C 1 dL_law_466 rfl rfl ?_
  refine g_aload_n C 0 dL_law_467 rfl rfl ?_
  refine g_iload_n C 3 dL_law_468 rfl rfl ?_
  refine g_iconst C 1 dL_law_469 rfl ?_
  refine g_iadd C dL_law_470 ?_
  refine g_sld C hX hbl hbA (j := i + 1) (nI_add i 1) (by omega) (by omega) dL_law_471 ?_
  refine g_aload_n C 0 dL_law_472 rfl rfl ?_
  refine g_iload_n C 3 dL_law_473 rfl rfl ?_
  refine g_iconst C 2 dL_law_474 rfl ?_
  refine g_iadd C dL_law_475 ?_
  refine g_sld C hX hbl hbA (j := i + 2) (nI_add i 2) (by omega) (by omega) dL_law_476 ?_
  refine g_aload_n C 0 dL_law_477 rfl rfl ?_
  refine g_iload_n C 3 dL_law_478 rfl rfl ?_
  refine g_iconst C 3 dL_law_479 rfl ?_
  refine g_iadd C dL_law_480 ?_
  refine g_sld C hX hbl hbA (j := i + 3) (nI_add i 3) (by omega) (by omega) dL_law_481 ?_
  refine g_aload_n C 0 dL_law_482 rfl rfl ?_
  refine g_iload_n C 3 dL_law_483 rfl rfl ?_
  refine g_iconst C 4 dL_law_484 rfl ?_
  refine g_iadd C dL_law_485 ?_
  refine g_sld C hX hbl hbA (j := i + 4) (nI_add i 4) (by omega) (by omega) dL_law_486 ?_
  refine g_aload_n C 0 dL_law_487 rfl rfl ?_
  refine g_iload_n C 3 dL_law_488 rfl rfl ?_
  refine g_iconst C 5 dL_law_489 rfl ?_
  refine g_iadd C dL_law_490 ?_
  refine g_sld C hX hbl hbA (j := i + 5) (nI_add i 5) (by omega) (by omega) dL_law_491 ?_
  refine g_call C (a := 1) (ci := 8) (q := (RX8, TX8, 7)) (rm := rm_X8_haggle) [.int (xs (i + 1)), .int (xs (i + 2)), .int (xs (i + 3)), .int (xs (i + 4)), .int (xs (i + 5))] dL_law_492 cl_L_67 lc_X8_haggle rfl (by decide) rfl rfl ⟨Nat.le_of_ble_eq_true rfl, Nat.le_of_ble_eq_true rfl⟩ (Nat.le_of_ble_eq_true rfl) ⟨by show cells + 0 ≤ 600000; omega, by show slots + 0 ≤ 7302250; omega⟩ rfl (fun r' h' E => o_X8_haggle l base D cA 1 (xs (i + 1)) (xs (i + 2)) (xs (i + 3)) (xs (i + 4)) (xs (i + 5)) h r' h' E) e1 R.t1 ?_
  refine g_aload_n C 2 dL_law_495 rfl rfl ?_
  refine g_aload_n C 0 dL_law_496 rfl rfl ?_
  refine g_iload_n C 3 dL_law_497 rfl rfl ?_
  refine g_iconst C 1 dL_law_498 rfl ?_
  refine g_iadd C dL_law_499 ?_
  refine g_sld C hX hbl hbA (j := i + 1) (nI_add i 1) (by omega) (by omega) dL_law_500 ?_
  refine g_aload_n C 0 dL_law_501 rfl rfl ?_
  refine g_iload_n C 3 dL_law_502 rfl rfl ?_
  refine g_iconst C 2 dL_law_503 rfl ?_
  refine g_iadd C dL_law_504 ?_
  refine g_sld C hX hbl hbA (j := i + 2) (nI_add i 2) (by omega) (by omega) dL_law_505 ?_
  refine g_aload_n C 0 dL_law_506 rfl rfl ?_
  refine g_iload_n C 3 dL_law_507 rfl rfl ?_
  refine g_iconst C 3 dL_law_508 rfl ?_
  refine g_iadd C dL_law_509 ?_
  refine g_sld C hX hbl hbA (j := i + 3) (nI_add i 3) (by omega) (by omega) dL_law_510 ?_
  refine g_aload_n C 0 dL_law_511 rfl rfl ?_
  refine g_iload_n C 3 dL_law_512 rfl rfl ?_
  refine g_iconst C 4 dL_law_513 rfl ?_
  refine g_iadd C dL_law_514 ?_
  refine g_sld C hX hbl hbA (j := i + 4) (nI_add i 4) (by omega) (by omega) dL_law_515 ?_
  refine g_aload_n C 0 dL_law_516 rfl rfl ?_
  refine g_iload_n C 3 dL_law_517 rfl rfl ?_
  refine g_iconst C 5 dL_law_518 rfl ?_
  refine g_iadd C dL_law_519 ?_
  refine g_sld C hX hbl hbA (j := i + 5) (nI_add i 5) (by omega) (by omega) dL_law_520 ?_
  refine g_call C (a := 241) (ci := 9) (q := (RX9, TX9, 13)) (rm := rm_X9_haggle) [.int (xs (i + 1)), .int (xs (i + 2)), .int (xs (i + 3)), .int (xs (i + 4)), .int (xs (i + 5))] dL_law_521 cl_L_71 lc_X9_haggle rfl (by decide) rfl rfl ⟨Nat.le_of_ble_eq_true rfl, Nat.le_of_ble_eq_true rfl⟩ (Nat.le_of_ble_eq_true rfl) ⟨by show cells + 0 + 0 ≤ 600000; omega, by show slots + 0 + 0 ≤ 7302250; omega⟩ rfl (fun r' h' E => o_X9_haggle l base D cA 241 (xs (i + 1)) (xs (i + 2)) (xs (i + 3)) (xs (i + 4)) (xs (i + 5)) h1 r' h' E) e2 (by rw [S1.m0]) ?_
  refine g_same C 858 dL_law_524 (by decide) ?_
  exact g_widen (cells + 3) (slots + 131) (by show cells + 0 + 0 ≤ cells + 3; omega) (by show slots + 0 + 0 ≤ slots + 131; omega) (K h2 R2)
set_option maxRecDepth 100000 in
set_option maxHeartbeats 4000000 in
theorem law_13 {base : Nat} {D : va_G} {cA : Nat → ClassId} {p : Program} {l : Launch} {e : Env} {s : State} {m : MethodId} {args : Array Value} {below : List Frame} {meth : Method} {c : Code} {Q : State → Prop} (C : GC base D cA p s m args meth c cL_law 4 RL) {b L : Nat} {xs : Nat → Int32} (hX : va_X b L xs s s.heap) (hbl : b < s.heap.size) (hbA : ¬ AA base b) {i : Nat} (hi : i + 6 ≤ L) (hL : L ≤ 3072) {h : Hp} {t : Nat} (ht : t ≤ 38000) (R : REL h t) {cells slots : Nat} (hc : cells + 3 ≤ 600000) (hs : slots + 131 ≤ 7302250) (K : ∀ h2, REL h2 (t + 60) → GW base D cA p l e room_1 s m args below meth c Q 4 h2 (cells + 3) (slots + 131) 858 (lvL base b i) []) : GW base D cA p l e room_1 s m args below meth c Q 4 h cells slots 529 (lvL base b i) [] := by
  obtain ⟨r, h1, h2, e1, e2, R2, S1⟩ := p_undo t h R
  refine g_aload_n C 1 dL_law_529 rfl rfl ?_
  refine g_call C (a := 1) (ci := 8) (q := (RX8, TX8, 7)) (rm := rm_X8_undo) [] dL_law_530 cl_L_72 lc_X8_undo rfl (by decide) rfl rfl ⟨Nat.le_of_ble_eq_true rfl, Nat.le_of_ble_eq_true rfl⟩ (Nat.le_of_ble_eq_true rfl) ⟨by show cells + 0 ≤ 600000; omega, by show slots + 0 ≤ 7302250; omega⟩ rfl (fun r' h' E => o_X8_undo l base D cA 1  h r' h' E) e1 R.t1 ?_
  refine g_aload_n C 2 dL_law_533 rfl rfl ?_
  refine g_call C (a := 241) (ci := 9) (q := (RX9, TX9, 13)) (rm := rm_X9_undo) [] dL_law_534 cl_L_75 lc_X9_undo rfl (by decide) rfl rfl ⟨Nat.le_of_ble_eq_true rfl, Nat.le_of_ble_eq_true rfl⟩ (Nat.le_of_ble_eq_true rfl) ⟨by show cells + 0 + 0 ≤ 600000; omega, by show slots + 0 + 0 ≤ 7302250; omega⟩ rfl (fun r' h' E => o_X9_undo l base D cA 241  h1 r' h' E) e2 (by rw [S1.m0]) ?_
  refine g_same C 858 dL_law_537 (by decide) ?_
  exact g_widen (cells + 3) (slots + 131) (by show cells + 0 + 0 ≤ cells + 3; omega) (by show slots + 0 + 0 ≤ slots + 131; omega) (K h2 R2)
set_option maxRecDepth 100000 in
set_option maxHeartbeats 4000000 in
theorem law_14 {base : Nat} {D : va_G} {cA : Nat → ClassId} {p : Program} {l : Launch} {e : Env} {s : State} {m : MethodId} {args : Array Value} {below : List Frame} {meth : Method} {c : Code} {Q : State → Prop} (C : GC base D cA p s m args meth c cL_law 4 RL) {b L : Nat} {xs : Nat → Int32} (hX : va_X b L xs s s.heap) (hbl : b < s.heap.size) (hbA : ¬ AA base b) {i : Nat} (hi : i + 6 ≤ L) (hL : L ≤ 3072) {h : Hp} {t : Nat} (ht : t ≤ 38000) (R : REL h t) {cells slots : Nat} (hc : cells + 3 ≤ 600000) (hs : slots + 131 ≤ 7302250) (K : ∀ h2, REL h2 (t + 60) → GW base D cA p l e room_1 s m args below meth c Q 4 h2 (cells + 3) (slots + 131) 858 (lvL base b i) []) : GW base D cA p l e room_1 s m args below meth c Q 4 h cells slots 542 (lvL base b i) [] := by
  obtain ⟨r, h1, h2, e1, e2, R2, S1⟩ := p_keep t h R
  refine g_aload_n C 1 dL_law_542 rfl rfl ?_
  refine g_call C (a := 1) (ci := 8) (q := (RX8, TX8, 7)) (rm := rm_X8_keep) [] dL_law_543 cl_L_76 lc_X8_keep rfl (by decide) rfl rfl ⟨Nat.le_of_ble_eq_true rfl, Nat.le_of_ble_eq_true rfl⟩ (Nat.le_of_ble_eq_true rfl) ⟨by show cells + 0 ≤ 600000; omega, by show slots + 0 ≤ 7302250; omega⟩ rfl (fun r' h' E => o_X8_keep l base D cA 1  h r' h' E) e1 R.t1 ?_
  refine g_aload_n C 2 dL_law_546 rfl rfl ?_
  refine g_call C (a := 241) (ci := 9) (q := (RX9, TX9, 13)) (rm := rm_X9_keep) [] dL_law_547 cl_L_79 lc_X9_keep rfl (by decide) rfl rfl ⟨Nat.le_of_ble_eq_true rfl, Nat.le_of_ble_eq_true rfl⟩ (Nat.le_of_ble_eq_true rfl) ⟨by show cells + 0 + 0 ≤ 600000; omega, by show slots + 0 + 0 ≤ 7302250; omega⟩ rfl (fun r' h' E => o_X9_keep l base D cA 241  h1 r' h' E) e2 (by rw [S1.m0]) ?_
  refine g_same C 858 dL_law_550 (by decide) ?_
  exact g_widen (cells + 3) (slots + 131) (by show cells + 0 + 0 ≤ cells + 3; omega) (by show slots + 0 + 0 ≤ slots + 131; omega) (K h2 R2)
set_option maxRecDepth 100000 in
set_option maxHeartbeats 4000000 in
theorem law_15 {base : Nat} {D : va_G} {cA : Nat → ClassId} {p : Program} {l : Launch} {e : Env} {s : State} {m : MethodId} {args : Array Value} {below : List Frame} {meth : Method} {c : Code} {Q : State → Prop} (C : GC base D cA p s m args meth c cL_law 4 RL) {b L : Nat} {xs : Nat → Int32} (hX : va_X b L xs s s.heap) (hbl : b < s.heap.size) (hbA : ¬ AA base b) {i : Nat} (hi : i + 6 ≤ L) (hL : L ≤ 3072) {h : Hp} {t : Nat} (ht : t ≤ 38000) (R : REL h t) {cells slots : Nat} (hc : cells + 3 ≤ 600000) (hs : slots + 131 ≤ 7302250) (K : ∀ h2, REL h2 (t + 60) → GW base D cA p l e room_1 s m args below meth c Q 4 h2 (cells + 3) (slots + 131) 858 (lvL base b i) []) : GW base D cA p l e room_1 s m args below meth c Q 4 h cells slots 555 (lvL base b i) [] := by
  obtain ⟨r, h1, h2, e1, e2, R2, S1⟩ := p_restore t h R
  refine g_aload_n C 1 dL_law_555 rfl rfl ?_
  refine g_call C (a := 1) (ci := 8) (q := (RX8, TX8, 7)) (rm := rm_X8_restore) [] dL_law_556 cl_L_80 lc_X8_restore rfl (by decide) rfl rfl ⟨Nat.le_of_ble_eq_true rfl, Nat.le_of_ble_eq_true rfl⟩ (Nat.le_of_ble_eq_true rfl) ⟨by show cells + 0 ≤ 600000; omega, by show slots + 0 ≤ 7302250; omega⟩ rfl (fun r' h' E => o_X8_restore l base D cA 1  h r' h' E) e1 R.t1 ?_
  refine g_aload_n C 2 dL_law_559 rfl rfl ?_
  refine g_call C (a := 241) (ci := 9) (q := (RX9, TX9, 13)) (rm := rm_X9_restore) [] dL_law_560 cl_L_83 lc_X9_restore rfl (by decide) rfl rfl ⟨Nat.le_of_ble_eq_true rfl, Nat.le_of_ble_eq_true rfl⟩ (Nat.le_of_ble_eq_true rfl) ⟨by show cells + 0 + 0 ≤ 600000; omega, by show slots + 0 + 0 ≤ 7302250; omega⟩ rfl (fun r' h' E => o_X9_restore l base D cA 241  h1 r' h' E) e2 (by rw [S1.m0]) ?_
  refine g_same C 858 dL_law_563 (by decide) ?_
  exact g_widen (cells + 3) (slots + 131) (by show cells + 0 + 0 ≤ cells + 3; omega) (by show slots + 0 + 0 ≤ slots + 131; omega) (K h2 R2)
set_option maxRecDepth 100000 in
set_option maxHeartbeats 4000000 in
theorem law_16 {base : Nat} {D : va_G} {cA : Nat → ClassId} {p : Program} {l : Launch} {e : Env} {s : State} {m : MethodId} {args : Array Value} {below : List Frame} {meth : Method} {c : Code} {Q : State → Prop} (C : GC base D cA p s m args meth c cL_law 4 RL) {b L : Nat} {xs : Nat → Int32} (hX : va_X b L xs s s.heap) (hbl : b < s.heap.size) (hbA : ¬ AA base b) {i : Nat} (hi : i + 6 ≤ L) (hL : L ≤ 3072) {h : Hp} {t : Nat} (ht : t ≤ 38000) (R : REL h t) {cells slots : Nat} (hc : cells + 3 ≤ 600000) (hs : slots + 131 ≤ 7302250) (K : ∀ h2, REL h2 (t + 60) → GW base D cA p l e room_1 s m args below meth c Q 4 h2 (cells + 3) (slots + 131) 858 (lvL base b i) []) : GW base D cA p l e room_1 s m args below meth c Q 4 h cells slots 568 (lvL base b i) [] := by
  obtain ⟨r, h1, h2, e1, e2, R2, S1⟩ := p_house t (xs (i + 1)) (xs (i + 2)) h R
  refine g_aload_n C 1 dL_law_568 rfl rfl ?_
  refine g_aload_n C 0 dL_law_569 rfl rfl ?_
  refine g_iload_n C 3 dL_law_570 rfl rfl ?_
  refine g_iconst C 1 dL_law_571 rfl ?_
  refine g_iadd C dL_law_572 ?_
  refine g_sld C hX hbl hbA (j := i + 1) (nI_add i 1) (by omega) (by omega) dL_law_573 ?_
  refine g_aload_n C 0 dL_law_574 rfl rfl ?_
  refine g_iload_n C 3 dL_law_575 rfl rfl ?_
  refine g_iconst C 2 dL_law_576 rfl ?_
  refine g_iadd C dL_law_577 ?_
  refine g_sld C hX hbl hbA (j := i + 2) (nI_add i 2) (by omega) (by omega) dL_law_578 ?_
  refine g_call C (a := 1) (ci := 8) (q := (RX8, TX8, 7)) (rm := rm_X8_house) [.int (xs (i + 1)), .int (xs (i + 2))] dL_law_579 cl_L_84 lc_X8_house rfl (by decide) rfl rfl ⟨Nat.le_of_ble_eq_true rfl, Nat.le_of_ble_eq_true rfl⟩ (Nat.le_of_ble_eq_true rfl) ⟨by show cells + 0 ≤ 600000; omega, by show slots + 0 ≤ 7302250; omega⟩ rfl (fun r' h' E => o_X8_house l base D cA 1 (xs (i + 1)) (xs (i + 2)) h r' h' E) e1 R.t1 ?_
  refine g_aload_n C 2 dL_law_582 rfl rfl ?_
  refine g_aload_n C 0 dL_law_583 rfl rfl ?_
  refine g_iload_n C 3 dL_law_584 rfl rfl ?_
  refine g_iconst C 1 dL_law_585 rfl ?_
  refine g_iadd C dL_law_586 ?_
  refine g_sld C hX hbl hbA (j := i + 1) (nI_add i 1) (by omega) (by omega) dL_law_587 ?_
  refine g_aload_n C 0 dL_law_588 rfl rfl ?_
  refine g_iload_n C 3 dL_law_589 rfl rfl ?_
  refine g_iconst C 2 dL_law_590 rfl ?_
  refine g_iadd C dL_law_591 ?_
  refine g_sld C hX hbl hbA (j := i + 2) (nI_add i 2) (by omega) (by omega) dL_law_592 ?_
  refine g_call C (a := 241) (ci := 9) (q := (RX9, TX9, 13)) (rm := rm_X9_house) [.int (xs (i + 1)), .int (xs (i + 2))] dL_law_593 cl_L_87 lc_X9_house rfl (by decide) rfl rfl ⟨Nat.le_of_ble_eq_true rfl, Nat.le_of_ble_eq_true rfl⟩ (Nat.le_of_ble_eq_true rfl) ⟨by show cells + 0 + 0 ≤ 600000; omega, by show slots + 0 + 0 ≤ 7302250; omega⟩ rfl (fun r' h' E => o_X9_house l base D cA 241 (xs (i + 1)) (xs (i + 2)) h1 r' h' E) e2 (by rw [S1.m0]) ?_
  refine g_same C 858 dL_law_596 (by decide) ?_
  exact g_widen (cells + 3) (slots + 131) (by show cells + 0 + 0 ≤ cells + 3; omega) (by show slots + 0 + 0 ≤ slots + 131; omega) (K h2 R2)
set_option maxRecDepth 100000 in
set_option maxHeartbeats 4000000 in
theorem law_17 {base : Nat} {D : va_G} {cA : Nat → ClassId} {p : Program} {l : Launch} {e : Env} {s : State} {m : MethodId} {args : Array Value} {below : List Frame} {meth : Method} {c : Code} {Q : State → Prop} (C : GC base D cA p s m args meth c cL_law 4 RL) {b L : Nat} {xs : Nat → Int32} (hX : va_X b L xs s s.heap) (hbl : b < s.heap.size) (hbA : ¬ AA base b) {i : Nat} (hi : i + 6 ≤ L) (hL : L ≤ 3072) {h : Hp} {t : Nat} (ht : t ≤ 38000) (R : REL h t) {cells slots : Nat} (hc : cells + 3 ≤ 600000) (hs : slots + 131 ≤ 7302250) (K : ∀ h2, REL h2 (t + 60) → GW base D cA p l e room_1 s m args below meth c Q 4 h2 (cells + 3) (slots + 131) 858 (lvL base b i) []) : GW base D cA p l e room_1 s m args below meth c Q 4 h cells slots 601 (lvL base b i) [] := by
  obtain ⟨r, h1, h2, e1, e2, R2, S1⟩ := p_washer t ht (xs (i + 1)) (xs (i + 2)) h R
  refine g_aload_n C 1 dL_law_601 rfl rfl ?_
  refine g_aload_n C 0 dL_law_602 rfl rfl ?_
  refine g_iload_n C 3 dL_law_603 rfl rfl ?_
  refine g_iconst C 1 dL_law_604 rfl ?_
  refine g_iadd C dL_law_605 ?_
  refine g_sld C hX hbl hbA (j := i + 1) (nI_add i 1) (by omega) (by omega) dL_law_606 ?_
  refine g_aload_n C 0 dL_law_607 rfl rfl ?_
  refine g_iload_n C 3 dL_law_608 rfl rfl ?_
  refine g_iconst C 2 dL_law_609 rfl ?_
  refine g_iadd C dL_law_610 ?_
  refine g_sld C hX hbl hbA (j := i + 2) (nI_add i 2) (by omega) (by omega) dL_law_611 ?_
  refine g_call C (a := 1) (ci := 8) (q := (RX8, TX8, 7)) (rm := rm_X8_washer) [.int (xs (i + 1)), .int (xs (i + 2))] dL_law_612 cl_L_88 lc_X8_washer rfl (by decide) rfl rfl ⟨Nat.le_of_ble_eq_true rfl, Nat.le_of_ble_eq_true rfl⟩ (Nat.le_of_ble_eq_true rfl) ⟨by show cells + 0 ≤ 600000; omega, by show slots + 0 ≤ 7302250; omega⟩ rfl (fun r' h' E => o_X8_washer l base D cA 1 (xs (i + 1)) (xs (i + 2)) h r' h' E) e1 R.t1 ?_
  refine g_aload_n C 2 dL_law_615 rfl rfl ?_
  refine g_aload_n C 0 dL_law_616 rfl rfl ?_
  refine g_iload_n C 3 dL_law_617 rfl rfl ?_
  refine g_iconst C 1 dL_law_618 rfl ?_
  refine g_iadd C dL_law_619 ?_
  refine g_sld C hX hbl hbA (j := i + 1) (nI_add i 1) (by omega) (by omega) dL_law_620 ?_
  refine g_aload_n C 0 dL_law_621 rfl rfl ?_
  refine g_iload_n C 3 dL_law_622 rfl rfl ?_
  refine g_iconst C 2 dL_law_623 rfl ?_
  refine g_iadd C dL_law_624 ?_
  refine g_sld C hX hbl hbA (j := i + 2) (nI_add i 2) (by omega) (by omega) dL_law_625 ?_
  refine g_call C (a := 241) (ci := 9) (q := (RX9, TX9, 13)) (rm := rm_X9_washer) [.int (xs (i + 1)), .int (xs (i + 2))] dL_law_626 cl_L_91 lc_X9_washer rfl (by decide) rfl rfl ⟨Nat.le_of_ble_eq_true rfl, Nat.le_of_ble_eq_true rfl⟩ (Nat.le_of_ble_eq_true rfl) ⟨by show cells + 0 + 0 ≤ 600000; omega, by show slots + 0 + 0 ≤ 7302250; omega⟩ rfl (fun r' h' E => o_X9_washer l base D cA 241 (xs (i + 1)) (xs (i + 2)) h1 r' h' E) e2 (by rw [S1.m0]) ?_
  refine g_same C 858 dL_law_629 (by decide) ?_
  exact g_widen (cells + 3) (slots + 131) (by show cells + 0 + 0 ≤ cells + 3; omega) (by show slots + 0 + 0 ≤ slots + 131; omega) (K h2 R2)
