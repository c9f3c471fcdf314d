/-! the law's cases -/
set_option maxRecDepth 100000 in
set_option maxHeartbeats 4000000 in
theorem law_18 {base : Nat} {D : va_G} {cA : Nat → ClassId} {p : Program} {l : Launch} {e : Env} {s : State} {m : MethodId} {args : Array Value} {below : List Frame} {meth : Method} {c : Code} {Q : State → Prop} (C : GC base D cA p s m args meth c cL_law 4 RL) {b L : Nat} {xs : Nat → Int32} (hX : va_X b L xs s s.heap) (hbl : b < s.heap.size) (hbA : ¬ AA base b) {i : Nat} (hi : i + 6 ≤ L) (hL : L ≤ 3072) {h : Hp} {t : Nat} (ht : t ≤ 38000) (R : REL h t) {cells slots : Nat} (hc : cells + 3 ≤ 600000) (hs : slots + 131 ≤ 7302250) (K : ∀ h2, REL h2 (t + 60) → GW base D cA p l e room_1 s m args below meth c Q 4 h2 (cells + 3) (slots + 131) 858 (lvL base b i) []) : GW base D cA p l e room_1 s m args below meth c Q 4 h cells slots 634 (lvL base b i) [] := by
  obtain ⟨r, h1, h2, e1, e2, R2, S1⟩ := p_phase t (xs (i + 1)) (xs (i + 2)) (xs (i + 3)) h R
  refine g_aload_n C 1 dL_law_634 rfl rfl ?_
  refine g_aload_n C 0 dL_law_635 rfl rfl ?_
  refine g_iload_n C 3 dL_law_636 rfl rfl ?_
  refine g_iconst C 1 dL_law_637 rfl ?_
  refine g_iadd C dL_law_638 ?_
  refine g_sld C hX hbl hbA (j := i + 1) (nI_add i 1) (by omega) (by omega) dL_law_639 ?_
  refine g_aload_n C 0 dL_law_640 rfl rfl ?_
  refine g_iload_n C 3 dL_law_641 rfl rfl ?_
  refine g_iconst C 2 dL_law_642 rfl ?_
  refine g_iadd C dL_law_643 ?_
  refine g_sld C hX hbl hbA (j := i + 2) (nI_add i 2) (by omega) (by omega) dL_law_644 ?_
  refine g_aload_n C 0 dL_law_645 rfl rfl ?_
  refine g_iload_n C 3 dL_law_646 rfl rfl ?_
  refine g_iconst C 3 dL_law_647 rfl ?_
  refine g_iadd C dL_law_648 ?_
  refine g_sld C hX hbl hbA (j := i + 3) (nI_add i 3) (by omega) (by omega) dL_law_649 ?_
  refine g_call C (a := 1) (ci := 8) (q := (RX8, TX8, 7)) (rm := rm_X8_phase) [.int (xs (i + 1)), .int (xs (i + 2)), .int (xs (i + 3))] dL_law_650 cl_L_92 lc_X8_phase rfl (by decide) rfl rfl ⟨Nat.le_of_ble_eq_true rfl, Nat.le_of_ble_eq_true rfl⟩ (Nat.le_of_ble_eq_true rfl) ⟨by show cells + 0 ≤ 600000; omega, by show slots + 0 ≤ 7302250; omega⟩ rfl (fun r' h' E => o_X8_phase l base D cA 1 (xs (i + 1)) (xs (i + 2)) (xs (i + 3)) h r' h' E) e1 R.t1 ?_
  refine g_aload_n C 2 dL_law_653 rfl rfl ?_
  refine g_aload_n C 0 dL_law_654 rfl rfl ?_
  refine g_iload_n C 3 dL_law_655 rfl rfl ?_
  refine g_iconst C 1 dL_law_656 rfl ?_
  refine g_iadd C dL_law_657 ?_
  refine g_sld C hX hbl hbA (j := i + 1) (nI_add i 1) (by omega) (by omega) dL_law_658 ?_
  refine g_aload_n C 0 dL_law_659 rfl rfl ?_
  refine g_iload_n C 3 dL_law_660 rfl rfl ?_
  refine g_iconst C 2 dL_law_661 rfl ?_
  refine g_iadd C dL_law_662 ?_
  refine g_sld C hX hbl hbA (j := i + 2) (nI_add i 2) (by omega) (by omega) dL_law_663 ?_
  refine g_aload_n C 0 dL_law_664 rfl rfl ?_
  refine g_iload_n C 3 dL_law_665 rfl rfl ?_
  refine g_iconst C 3 dL_law_666 rfl ?_
  refine g_iadd C dL_law_667 ?_
  refine g_sld C hX hbl hbA (j := i + 3) (nI_add i 3) (by omega) (by omega) dL_law_668 ?_
  refine g_call C (a := 241) (ci := 9) (q := (RX9, TX9, 13)) (rm := rm_X9_phase) [.int (xs (i + 1)), .int (xs (i + 2)), .int (xs (i + 3))] dL_law_669 cl_L_95 lc_X9_phase rfl (by decide) rfl rfl ⟨Nat.le_of_ble_eq_true rfl, Nat.le_of_ble_eq_true rfl⟩ (Nat.le_of_ble_eq_true rfl) ⟨by show cells + 0 + 0 ≤ 600000; omega, by show slots + 0 + 0 ≤ 7302250; omega⟩ rfl (fun r' h' E => o_X9_phase l base D cA 241 (xs (i + 1)) (xs (i + 2)) (xs (i + 3)) h1 r' h' E) e2 (by rw [S1.m0]) ?_
  refine g_same C 858 dL_law_672 (by decide) ?_
  exact g_widen (cells + 3) (slots + 131) (by show cells + 0 + 0 ≤ cells + 3; omega) (by show slots + 0 + 0 ≤ slots + 131; omega) (K h2 R2)
set_option maxRecDepth 100000 in
set_option maxHeartbeats 4000000 in
theorem law_19 {base : Nat} {D : va_G} {cA : Nat → ClassId} {p : Program} {l : Launch} {e : Env} {s : State} {m : MethodId} {args : Array Value} {below : List Frame} {meth : Method} {c : Code} {Q : State → Prop} (C : GC base D cA p s m args meth c cL_law 4 RL) {b L : Nat} {xs : Nat → Int32} (hX : va_X b L xs s s.heap) (hbl : b < s.heap.size) (hbA : ¬ AA base b) {i : Nat} (hi : i + 6 ≤ L) (hL : L ≤ 3072) {h : Hp} {t : Nat} (ht : t ≤ 38000) (R : REL h t) {cells slots : Nat} (hc : cells + 3 ≤ 600000) (hs : slots + 131 ≤ 7302250) (K : ∀ h2, REL h2 (t + 60) → GW base D cA p l e room_1 s m args below meth c Q 4 h2 (cells + 3) (slots + 131) 858 (lvL base b i) []) : GW base D cA p l e room_1 s m args below meth c Q 4 h cells slots 677 (lvL base b i) [] := by
  obtain ⟨r, h1, h2, e1, e2, R2, S1⟩ := p_boiler t ht (xs (i + 1)) h R
  refine g_aload_n C 1 dL_law_677 rfl rfl ?_
  refine g_aload_n C 0 dL_law_678 rfl rfl ?_
  refine g_iload_n C 3 dL_law_679 rfl rfl ?_
  refine g_iconst C 1 dL_law_680 rfl ?_
  refine g_iadd C dL_law_681 ?_
  refine g_sld C hX hbl hbA (j := i + 1) (nI_add i 1) (by omega) (by omega) dL_law_682 ?_
  refine g_call C (a := 1) (ci := 8) (q := (RX8, TX8, 7)) (rm := rm_X8_boiler) [.int (xs (i + 1))] dL_law_683 cl_L_96 lc_X8_boiler rfl (by decide) rfl rfl ⟨Nat.le_of_ble_eq_true rfl, Nat.le_of_ble_eq_true rfl⟩ (Nat.le_of_ble_eq_true rfl) ⟨by show cells + 0 ≤ 600000; omega, by show slots + 0 ≤ 7302250; omega⟩ rfl (fun r' h' E => o_X8_boiler l base D cA 1 (xs (i + 1)) h r' h' E) e1 R.t1 ?_
  refine g_aload_n C 2 dL_law_686 rfl rfl ?_
  refine g_aload_n C 0 dL_law_687 rfl rfl ?_
  refine g_iload_n C 3 dL_law_688 rfl rfl ?_
  refine g_iconst C 1 dL_law_689 rfl ?_
  refine g_iadd C dL_law_690 ?_
  refine g_sld C hX hbl hbA (j := i + 1) (nI_add i 1) (by omega) (by omega) dL_law_691 ?_
  refine g_call C (a := 241) (ci := 9) (q := (RX9, TX9, 13)) (rm := rm_X9_boiler) [.int (xs (i + 1))] dL_law_692 cl_L_99 lc_X9_boiler rfl (by decide) rfl rfl ⟨Nat.le_of_ble_eq_true rfl, Nat.le_of_ble_eq_true rfl⟩ (Nat.le_of_ble_eq_true rfl) ⟨by show cells + 0 + 0 ≤ 600000; omega, by show slots + 0 + 0 ≤ 7302250; omega⟩ rfl (fun r' h' E => o_X9_boiler l base D cA 241 (xs (i + 1)) h1 r' h' E) e2 (by rw [S1.m0]) ?_
  refine g_same C 858 dL_law_695 (by decide) ?_
  exact g_widen (cells + 3) (slots + 131) (by show cells + 0 + 0 ≤ cells + 3; omega) (by show slots + 0 + 0 ≤ slots + 131; omega) (K h2 R2)
set_option maxRecDepth 100000 in
set_option maxHeartbeats 4000000 in
theorem law_20 {base : Nat} {D : va_G} {cA : Nat → ClassId} {p : Program} {l : Launch} {e : Env} {s : State} {m : MethodId} {args : Array Value} {below : List Frame} {meth : Method} {c : Code} {Q : State → Prop} (C : GC base D cA p s m args meth c cL_law 4 RL) {b L : Nat} {xs : Nat → Int32} (hX : va_X b L xs s s.heap) (hbl : b < s.heap.size) (hbA : ¬ AA base b) {i : Nat} (hi : i + 6 ≤ L) (hL : L ≤ 3072) {h : Hp} {t : Nat} (ht : t ≤ 38000) (R : REL h t) {cells slots : Nat} (hc : cells + 3 ≤ 600000) (hs : slots + 131 ≤ 7302250) (K : ∀ h2, REL h2 (t + 60) → GW base D cA p l e room_1 s m args below meth c Q 4 h2 (cells + 3) (slots + 131) 858 (lvL base b i) []) : GW base D cA p l e room_1 s m args below meth c Q 4 h cells slots 700 (lvL base b i) [] := by
  obtain ⟨r, h1, h2, e1, e2, R2, S1⟩ := p_heatNext t ht (xs (i + 1)) h R
  refine g_aload_n C 1 dL_law_700 rfl rfl ?_
  refine g_aload_n C 0 dL_law_701 rfl rfl ?_
  refine g_iload_n C 3 dL_law_702 rfl rfl ?_
  refine g_iconst C 1 dL_law_703 rfl ?_
  refine g_iadd C dL_law_704 ?_
  refine g_sld C hX hbl hbA (j := i + 1) (nI_add i 1) (by omega) (by omega) dL_law_705 ?_
  refine g_call C (a := 1) (ci := 8) (q := (RX8, TX8, 7)) (rm := rm_X8_heatNext) [.int (xs (i + 1))] dL_law_706 cl_L_100 lc_X8_heatNext rfl (by decide) rfl rfl ⟨Nat.le_of_ble_eq_true rfl, Nat.le_of_ble_eq_true rfl⟩ (Nat.le_of_ble_eq_true rfl) ⟨by show cells + 0 ≤ 600000; omega, by show slots + 0 ≤ 7302250; omega⟩ rfl (fun r' h' E => o_X8_heatNext l base D cA 1 (xs (i + 1)) h r' h' E) e1 R.t1 ?_
  refine g_aload_n C 2 dL_law_709 rfl rfl ?_
  refine g_aload_n C 0 dL_law_710 rfl rfl ?_
  refine g_iload_n C 3 dL_law_711 rfl rfl ?_
  refine g_iconst C 1 dL_law_712 rfl ?_
  refine g_iadd C dL_law_713 ?_
  refine g_sld C hX hbl hbA (j := i + 1) (nI_add i 1) (by omega) (by omega) dL_law_714 ?_
  refine g_call C (a := 241) (ci := 9) (q := (RX9, TX9, 13)) (rm := rm_X9_heatNext) [.int (xs (i + 1))] dL_law_715 cl_L_103 lc_X9_heatNext rfl (by decide) rfl rfl ⟨Nat.le_of_ble_eq_true rfl, Nat.le_of_ble_eq_true rfl⟩ (Nat.le_of_ble_eq_true rfl) ⟨by show cells + 0 + 0 ≤ 600000; omega, by show slots + 0 + 0 ≤ 7302250; omega⟩ rfl (fun r' h' E => o_X9_heatNext l base D cA 241 (xs (i + 1)) h1 r' h' E) e2 (by rw [S1.m0]) ?_
  refine g_same C 858 dL_law_718 (by decide) ?_
  exact g_widen (cells + 3) (slots + 131) (by show cells + 0 + 0 ≤ cells + 3; omega) (by show slots + 0 + 0 ≤ slots + 131; omega) (K h2 R2)
set_option maxRecDepth 100000 in
set_option maxHeartbeats 4000000 in
theorem law_21 {base : Nat} {D : va_G} {cA : Nat → ClassId} {p : Program} {l : Launch} {e : Env} {s : State} {m : MethodId} {args : Array Value} {below : List Frame} {meth : Method} {c : Code} {Q : State → Prop} (C : GC base D cA p s m args meth c cL_law 4 RL) {b L : Nat} {xs : Nat → Int32} (hX : va_X b L xs s s.heap) (hbl : b < s.heap.size) (hbA : ¬ AA base b) {i : Nat} (hi : i + 6 ≤ L) (hL : L ≤ 3072) {h : Hp} {t : Nat} (ht : t ≤ 38000) (R : REL h t) {cells slots : Nat} (hc : cells + 3 ≤ 600000) (hs : slots + 131 ≤ 7302250) (K : ∀ h2, REL h2 (t + 60) → GW base D cA p l e room_1 s m args below meth c Q 4 h2 (cells + 3) (slots + 131) 858 (lvL base b i) []) : GW base D cA p l e room_1 s m args below meth c Q 4 h cells slots 723 (lvL base b i) [] := by
  obtain ⟨r, h1, h2, e1, e2, R2, S1⟩ := p_lease t (xs (i + 1)) (xs (i + 2)) h R
  refine g_aload_n C 1 dL_law_723 rfl rfl ?_
  refine g_aload_n C 0 dL_law_724 rfl rfl ?_
  refine g_iload_n C 3 dL_law_725 rfl rfl ?_
  refine g_iconst C 1 dL_law_726 rfl ?_
  refine g_iadd C dL_law_727 ?_
  refine g_sld C hX hbl hbA (j := i + 1) (nI_add i 1) (by omega) (by omega) dL_law_728 ?_
  refine g_aload_n C 0 dL_law_729 rfl rfl ?_
  refine g_iload_n C 3 dL_law_730 rfl rfl ?_
  refine g_iconst C 2 dL_law_731 rfl ?_
  refine g_iadd C dL_law_732 ?_
  refine g_sld C hX hbl hbA (j := i + 2) (nI_add i 2) (by omega) (by omega) dL_law_733 ?_
  refine g_call C (a := 1) (ci := 8) (q := (RX8, TX8, 7)) (rm := rm_X8_lease) [.int (xs (i + 1)), .int (xs (i + 2))] dL_law_734 cl_L_104 lc_X8_lease rfl (by decide) rfl rfl ⟨Nat.le_of_ble_eq_true rfl, Nat.le_of_ble_eq_true rfl⟩ (Nat.le_of_ble_eq_true rfl) ⟨by show cells + 0 ≤ 600000; omega, by show slots + 0 ≤ 7302250; omega⟩ rfl (fun r' h' E => o_X8_lease l base D cA 1 (xs (i + 1)) (xs (i + 2)) h r' h' E) e1 R.t1 ?_
  refine g_aload_n C 2 dL_law_737 rfl rfl ?_
  refine g_aload_n C 0 dL_law_738 rfl rfl ?_
  refine g_iload_n C 3 dL_law_739 rfl rfl ?_
  refine g_iconst C 1 dL_law_740 rfl ?_
  refine g_iadd C dL_law_741 ?_
  refine g_sld C hX hbl hbA (j := i + 1) (nI_add i 1) (by omega) (by omega) dL_law_742 ?_
  refine g_aload_n C 0 dL_law_743 rfl rfl ?_
  refine g_iload_n C 3 dL_law_744 rfl rfl ?_
  refine g_iconst C 2 dL_law_745 rfl ?_
  refine g_iadd C dL_law_746 ?_
  refine g_sld C hX hbl hbA (j := i + 2) (nI_add i 2) (by omega) (by omega) dL_law_747 ?_
  refine g_call C (a := 241) (ci := 9) (q := (RX9, TX9, 13)) (rm := rm_X9_lease) [.int (xs (i + 1)), .int (xs (i + 2))] dL_law_748 cl_L_107 lc_X9_lease rfl (by decide) rfl rfl ⟨Nat.le_of_ble_eq_true rfl, Nat.le_of_ble_eq_true rfl⟩ (Nat.le_of_ble_eq_true rfl) ⟨by show cells + 0 + 0 ≤ 600000; omega, by show slots + 0 + 0 ≤ 7302250; omega⟩ rfl (fun r' h' E => o_X9_lease l base D cA 241 (xs (i + 1)) (xs (i + 2)) h1 r' h' E) e2 (by rw [S1.m0]) ?_
  refine g_same C 858 dL_law_751 (by decide) ?_
  exact g_widen (cells + 3) (slots + 131) (by show cells + 0 + 0 ≤ cells + 3; omega) (by show slots + 0 + 0 ≤ slots + 131; omega) (K h2 R2)
set_option maxRecDepth 100000 in
set_option maxHeartbeats 4000000 in
theorem law_22 {base : Nat} {D : va_G} {cA : Nat → ClassId} {p : Program} {l : Launch} {e : Env} {s : State} {m : MethodId} {args : Array Value} {below : List Frame} {meth : Method} {c : Code} {Q : State → Prop} (C : GC base D cA p s m args meth c cL_law 4 RL) {b L : Nat} {xs : Nat → Int32} (hX : va_X b L xs s s.heap) (hbl : b < s.heap.size) (hbA : ¬ AA base b) {i : Nat} (hi : i + 6 ≤ L) (hL : L ≤ 3072) {h : Hp} {t : Nat} (ht : t ≤ 38000) (R : REL h t) {cells slots : Nat} (hc : cells + 3 ≤ 600000) (hs : slots + 131 ≤ 7302250) (K : ∀ h2, REL h2 (t + 60) → GW base D cA p l e room_1 s m args below meth c Q 4 h2 (cells + 3) (slots + 131) 858 (lvL base b i) []) : GW base D cA p l e room_1 s m args below meth c Q 4 h cells slots 756 (lvL base b i) [] := by
  obtain ⟨r, h1, h2, e1, e2, R2, S1⟩ := p_ask t (xs (i + 1)) (xs (i + 2)) h R
  refine g_aload_n C 1 dL_law_756 rfl rfl ?_
  refine g_aload_n C 0 dL_law_757 rfl rfl ?_
  refine g_iload_n C 3 dL_law_758 rfl rfl ?_
  refine g_iconst C 1 dL_law_759 rfl ?_
  refine g_iadd C dL_law_760 ?_
  refine g_sld C hX hbl hbA (j := i + 1) (nI_add i 1) (by omega) (by omega) dL_law_761 ?_
  refine g_aload_n C 0 dL_law_762 rfl rfl ?_
  refine g_iload_n C 3 dL_law_763 rfl rfl ?_
  refine g_iconst C 2 dL_law_764 rfl ?_
  refine g_iadd C dL_law_765 ?_
  refine g_sld C hX hbl hbA (j := i + 2) (nI_add i 2) (by omega) (by omega) dL_law_766 ?_
  refine g_call C (a := 1) (ci := 8) (q := (RX8, TX8, 7)) (rm := rm_X8_ask) [.int (xs (i + 1)), .int (xs (i + 2))] dL_law_767 cl_L_108 lc_X8_ask rfl (by decide) rfl rfl ⟨Nat.le_of_ble_eq_true rfl, Nat.le_of_ble_eq_true rfl⟩ (Nat.le_of_ble_eq_true rfl) ⟨by show cells + 0 ≤ 600000; omega, by show slots + 0 ≤ 7302250; omega⟩ rfl (fun r' h' E => o_X8_ask l base D cA 1 (xs (i + 1)) (xs (i + 2)) h r' h' E) e1 R.t1 ?_
  refine g_aload_n C 2 dL_law_770 rfl rfl ?_
  refine g_aload_n C 0 dL_law_771 rfl rfl ?_
  refine g_iload_n C 3 dL_law_772 rfl rfl ?_
  refine g_iconst C 1 dL_law_773 rfl ?_
  refine g_iadd C dL_law_774 ?_
  refine g_sld C hX hbl hbA (j := i + 1) (nI_add i 1) (by omega) (by omega) dL_law_775 ?_
  refine g_aload_n C 0 dL_law_776 rfl rfl ?_
  refine g_iload_n C 3 dL_law_777 rfl rfl ?_
  refine g_iconst C 2 dL_law_778 rfl ?_
  refine g_iadd C dL_law_779 ?_
  refine g_sld C hX hbl hbA (j := i + 2) (nI_add i 2) (by omega) (by omega) dL_law_780 ?_
  refine g_call C (a := 241) (ci := 9) (q := (RX9, TX9, 13)) (rm := rm_X9_ask) [.int (xs (i + 1)), .int (xs (i + 2))] dL_law_781 cl_L_111 lc_X9_ask rfl (by decide) rfl rfl ⟨Nat.le_of_ble_eq_true rfl, Nat.le_of_ble_eq_true rfl⟩ (Nat.le_of_ble_eq_true rfl) ⟨by show cells + 0 + 0 ≤ 600000; omega, by show slots + 0 + 0 ≤ 7302250; omega⟩ rfl (fun r' h' E => o_X9_ask l base D cA 241 (xs (i + 1)) (xs (i + 2)) h1 r' h' E) e2 (by rw [S1.m0]) ?_
  refine g_same C 858 dL_law_784 (by decide) ?_
  exact g_widen (cells + 3) (slots + 131) (by show cells + 0 + 0 ≤ cells + 3; omega) (by show slots + 0 + 0 ≤ slots + 131; omega) (K h2 R2)
set_option maxRecDepth 100000 in
set_option maxHeartbeats 4000000 in
theorem law_23 {base : Nat} {D : va_G} {cA : Nat → ClassId} {p : Program} {l : Launch} {e : Env} {s : State} {m : MethodId} {args : Array Value} {below : List Frame} {meth : Method} {c : Code} {Q : State → Prop} (C : GC base D cA p s m args meth c cL_law 4 RL) {b L : Nat} {xs : Nat → Int32} (hX : va_X b L xs s s.heap) (hbl : b < s.heap.size) (hbA : ¬ AA base b) {i : Nat} (hi : i + 6 ≤ L) (hL : L ≤ 3072) {h : Hp} {t : Nat} (ht : t ≤ 38000) (R : REL h t) {cells slots : Nat} (hc : cells + 3 ≤ 600000) (hs : slots + 131 ≤ 7302250) (K : ∀ h2, REL h2 (t + 60) → GW base D cA p l e room_1 s m args below meth c Q 4 h2 (cells + 3) (slots + 131) 858 (lvL base b i) []) : GW base D cA p l e room_1 s m args below meth c Q 4 h cells slots 789 (lvL base b i) [] := by
  obtain ⟨r, h1, h2, e1, e2, R2, S1⟩ := p_overIn t ht (xs (i + 1)) h R
  refine g_aload_n C 1 dL_law_789 rfl rfl ?_
  refine g_aload_n C 0 dL_law_790 rfl rfl ?_
  refine g_iload_n C 3 dL_law_791 rfl rfl ?_
  refine g_iconst C 1 dL_law_792 rfl ?_
  refine g_iadd C dL_law_793 ?_
  refine g_sld C hX hbl hbA (j := i + 1) (nI_add i 1) (by omega) (by omega) dL_law_794 ?_
  refine g_call C (a := 1) (ci := 8) (q := (RX8, TX8, 7)) (rm := rm_X8_overIn) [.int (xs (i + 1))] dL_law_795 cl_L_112 lc_X8_overIn rfl (by decide) rfl rfl ⟨Nat.le_of_ble_eq_true rfl, Nat.le_of_ble_eq_true rfl⟩ (Nat.le_of_ble_eq_true rfl) ⟨by show cells + 0 ≤ 600000; omega, by show slots + 0 ≤ 7302250; omega⟩ rfl (fun r' h' E => o_X8_overIn l base D cA 1 (xs (i + 1)) h r' h' E) e1 R.t1 ?_
  refine g_aload_n C 2 dL_law_798 rfl rfl ?_
  refine g_aload_n C 0 dL_law_799 rfl rfl ?_
  refine g_iload_n C 3 dL_law_800 rfl rfl ?_
  refine g_iconst C 1 dL_law_801 rfl ?_
  refine g_iadd C dL_law_802 ?_
  refine g_sld C hX hbl hbA (j := i + 1) (nI_add i 1) (by omega) (by omega) dL_law_803 ?_
  refine g_call C (a := 241) (ci := 9) (q := (RX9, TX9, 13)) (rm := rm_X9_overIn) [.int (xs (i + 1))] dL_law_804 cl_L_115 lc_X9_overIn rfl (by decide) rfl rfl ⟨Nat.le_of_ble_eq_true rfl, Nat.le_of_ble_eq_true rfl⟩ (Nat.le_of_ble_eq_true rfl) ⟨by show cells + 0 + 0 ≤ 600000; omega, by show slots + 0 + 0 ≤ 7302250; omega⟩ rfl (fun r' h' E => o_X9_overIn l base D cA 241 (xs (i + 1)) h1 r' h' E) e2 (by rw [S1.m0]) ?_
  refine g_same C 858 dL_law_807 (by decide) ?_
  exact g_widen (cells + 3) (slots + 131) (by show cells + 0 + 0 ≤ cells + 3; omega) (by show slots + 0 + 0 ≤ slots + 131; omega) (K h2 R2)
set_option maxRecDepth 100000 in
set_option maxHeartbeats 4000000 in
theorem law_24 {base : Nat} {D : va_G} {cA : Nat → ClassId} {p : Program} {l : Launch} {e : Env} {s : State} {m : MethodId} {args : Array Value} {below : List Frame} {meth : Method} {c : Code} {Q : State → Prop} (C : GC base D cA p s m args meth c cL_law 4 RL) {b L : Nat} {xs : Nat → Int32} (hX : va_X b L xs s s.heap) (hbl : b < s.heap.size) (hbA : ¬ AA base b) {i : Nat} (hi : i + 6 ≤ L) (hL : L ≤ 3072) {h : Hp} {t : Nat} (ht : t ≤ 38000) (R : REL h t) {cells slots : Nat} (hc : cells + 3 ≤ 600000) (hs : slots + 131 ≤ 7302250) (K : ∀ h2, REL h2 (t + 60) → GW base D cA p l e room_1 s m args below meth c Q 4 h2 (cells + 3) (slots + 131) 858 (lvL base b i) []) : GW base D cA p l e room_1 s m args below meth c Q 4 h cells slots 812 (lvL base b i) [] := by
  obtain ⟨r, h1, h2, e1, e2, R2, S1⟩ := p_freeIn t ht (xs (i + 1)) h R
  refine g_aload_n C 1 dL_law_812 rfl rfl ?_
  refine g_aload_n C 0 dL_law_813 rfl rfl ?_
  refine g_iload_n C 3 dL_law_814 rfl rfl ?_
  refine g_iconst C 1 dL_law_815 rfl ?_
  refine g_iadd C dL_law_816 ?_
  refine g_sld C hX hbl hbA (j := i + 1) (nI_add i 1) (by omega) (by omega) dL_law_817 ?_
  refine g_call C (a := 1) (ci := 8) (q := (RX8, TX8, 7)) (rm := rm_X8_freeIn) [.int (xs (i + 1))] dL_law_818 cl_L_116 lc_X8_freeIn rfl (by decide) rfl rfl ⟨Nat.le_of_ble_eq_true rfl, Nat.le_of_ble_eq_true rfl⟩ (Nat.le_of_ble_eq_true rfl) ⟨by show cells + 0 ≤ 600000; omega, by show slots + 0 ≤ 7302250; omega⟩ rfl (fun r' h' E => o_X8_freeIn l base D cA 1 (xs (i + 1)) h r' h' E) e1 R.t1 ?_
  refine g_aload_n C 2 dL_law_821 rfl rfl ?_
  refine g_aload_n C 0 dL_law_822 rfl rfl ?_
  refine g_iload_n C 3 dL_law_823 rfl rfl ?_
  refine g_iconst C 1 dL_law_824 rfl ?_
  refine g_iadd C dL_law_825 ?_
  refine g_sld C hX hbl hbA (j := i + 1) (nI_add i 1) (by omega) (by omega) dL_law_826 ?_
  refine g_call C (a := 241) (ci := 9) (q := (RX9, TX9, 13)) (rm := rm_X9_freeIn) [.int (xs (i + 1))] dL_law_827 cl_L_119 lc_X9_freeIn rfl (by decide) rfl rfl ⟨Nat.le_of_ble_eq_true rfl, Nat.le_of_ble_eq_true rfl⟩ (Nat.le_of_ble_eq_true rfl) ⟨by show cells + 0 + 0 ≤ 600000; omega, by show slots + 0 + 0 ≤ 7302250; omega⟩ rfl (fun r' h' E => o_X9_freeIn l base D cA 241 (xs (i + 1)) h1 r' h' E) e2 (by rw [S1.m0]) ?_
  refine g_same C 858 dL_law_830 (by decide) ?_
  exact g_widen (cells + 3) (slots + 131) (by show cells + 0 + 0 ≤ cells + 3; omega) (by show slots + 0 + 0 ≤ slots + 131; omega) (K h2 R2)
set_option maxRecDepth 100000 in
set_option maxHeartbeats 4000000 in
theorem law_25 {base : Nat} {D : va_G} {cA : Nat → ClassId} {p : Program} {l : Launch} {e : Env} {s : State} {m : MethodId} {args : Array Value} {below : List Frame} {meth : Method} {c : Code} {Q : State → Prop} (C : GC base D cA p s m args meth c cL_law 4 RL) {b L : Nat} {xs : Nat → Int32} (hX : va_X b L xs s s.heap) (hbl : b < s.heap.size) (hbA : ¬ AA base b) {i : Nat} (hi : i + 6 ≤ L) (hL : L ≤ 3072) {h : Hp} {t : Nat} (ht : t ≤ 38000) (R : REL h t) {cells slots : Nat} (hc : cells + 3 ≤ 600000) (hs : slots + 131 ≤ 7302250) (K : ∀ h2, REL h2 (t + 60) → GW base D cA p l e room_1 s m args below meth c Q 4 h2 (cells + 3) (slots + 131) 858 (lvL base b i) []) : GW base D cA p l e room_1 s m args below meth c Q 4 h cells slots 835 (lvL base b i) [] := by
  obtain ⟨r, h1, h2, e1, e2, R2, S1⟩ := p_count t (xs (i + 1)) h R
  refine g_aload_n C 1 dL_law_835 rfl rfl ?_
  refine g_aload_n C 0 dL_law_836 rfl rfl ?_
  refine g_iload_n C 3 dL_law_837 rfl rfl ?_
  refine g_iconst C 1 dL_law_838 rfl ?_
  refine g_iadd C dL_law_839 ?_
  refine g_sld C hX hbl hbA (j := i + 1) (nI_add i 1) (by omega) (by omega) dL_law_840 ?_
  refine g_call C (a := 1) (ci := 8) (q := (RX8, TX8, 7)) (rm := rm_X8_count) [.int (xs (i + 1))] dL_law_841 cl_L_120 lc_X8_count rfl (by decide) rfl rfl ⟨Nat.le_of_ble_eq_true rfl, Nat.le_of_ble_eq_true rfl⟩ (Nat.le_of_ble_eq_true rfl) ⟨by show cells + 0 ≤ 600000; omega, by show slots + 0 ≤ 7302250; omega⟩ rfl (fun r' h' E => o_X8_count l base D cA 1 (xs (i + 1)) h r' h' E) e1 R.t1 ?_
  refine g_aload_n C 2 dL_law_844 rfl rfl ?_
  refine g_aload_n C 0 dL_law_845 rfl rfl ?_
  refine g_iload_n C 3 dL_law_846 rfl rfl ?_
  refine g_iconst C 1 dL_law_847 rfl ?_
  refine g_iadd C dL_law_848 ?_
  refine g_sld C hX hbl hbA (j := i + 1) (nI_add i 1) (by omega) (by omega) dL_law_849 ?_
  refine g_call C (a := 241) (ci := 9) (q := (RX9, TX9, 13)) (rm := rm_X9_count) [.int (xs (i + 1))] dL_law_850 cl_L_123 lc_X9_count rfl (by decide) rfl rfl ⟨Nat.le_of_ble_eq_true rfl, Nat.le_of_ble_eq_true rfl⟩ (Nat.le_of_ble_eq_true rfl) ⟨by show cells + 0 + 0 ≤ 600000; omega, by show slots + 0 + 0 ≤ 7302250; omega⟩ rfl (fun r' h' E => o_X9_count l base D cA 241 (xs (i + 1)) h1 r' h' E) e2 (by rw [S1.m0]) ?_
  refine g_same C 858 dL_law_853 (by decide) ?_
  exact g_widen (cells + 3) (slots + 131) (by show cells + 0 + 0 ≤ cells + 3; omega) (by show slots + 0 + 0 ≤ slots + 131; omega) (K h2 R2)
