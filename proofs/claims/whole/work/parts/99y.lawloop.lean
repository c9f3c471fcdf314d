/-! the law's loop and its start -/
theorem g_lend {base : Nat} {D : va_G} {cA : Nat → ClassId} {p : Program} {l : Launch} {e : Env} {s : State} {m : MethodId} {b : Nat} {below : List Frame} {meth : Method} {c : Code} (C : GC base D cA p s m #[Value.ref b] meth c cL_law 4 RL) (hr : meth.sig.returnType = ret) (hb : base + 1 = s.heap.size) {h : Hp} {cells slots pc : Nat} {lv : List (Nat × Value)} (hc : cells ≤ 600000) (hs : slots ≤ 7302250) (d : decode cL_law pc = .ok (.ireturn, 1)) : GW base D cA p l e room_1 s m #[Value.ref b] below meth c (lw_Z below #[Value.ref b] s) 4 h cells slots pc lv [.int 1] := by
  intro H locs ls hRp hS hl
  refine va_forget (fun q hq => ?_) (W.widen hc hs (lw_ret C.1 C.2.1 hr C.2.2.2.2.2.2.1 d))
  have : base + 1 ≤ q.base := hS.2.2 q hq
  omega
theorem g_clp {base : Nat} {D : va_G} {cA : Nat → ClassId} {p : Program} {l : Launch} {e : Env} {R : Room} {s : State} {m : MethodId} {args : Array Value} {below : List Frame} {meth : Method} {c : Code} {Q : State → Prop} {nL : Nat} {h : Hp} {cells slots pc : Nat} {lv : List (Nat × Value)} {st : List Value} (t1 : hT h 238 = (20, 8)) (t2 : hT h 248 = (20, 8)) (kk : GW base D cA p l e R s m args below meth c Q nL (clp h) cells slots pc lv st) : GW base D cA p l e R s m args below meth c Q nL h cells slots pc lv st :=
  fun H locs ls hRp hS hl => kk H locs ls (Rp_clp t1 t2 hRp) hS hl
set_option maxRecDepth 100000 in
set_option maxHeartbeats 4000000 in
theorem law_loop {base : Nat} {D : va_G} {cA : Nat → ClassId} {p : Program} {l : Launch} {e : Env} {s : State} {m : MethodId} {b : Nat} {below : List Frame} {meth : Method} {c : Code} (C : GC base D cA p s m #[Value.ref b] meth c cL_law 4 RL) (hr : meth.sig.returnType = ret) (hb : base + 1 = s.heap.size) {L : Nat} {xs : Nat → Int32} (hX : va_X b L xs s s.heap) (hbl : b < s.heap.size) (hbA : ¬ AA base b) (hL : L ≤ 3072) :
    ∀ (d k : Nat), k + d = 512 → 6 * k ≤ L → ∀ h, REL h (60 * k) → GW base D cA p l e room_1 s m #[Value.ref b] below meth c (lw_Z below #[Value.ref b] s) 4 h (307 + 3 * k) (6106 + 131 * k) 18 (lvL base b (6 * k)) [] := by
  intro d
  induction d with
  | zero =>
    intro k hk hkL h R
    refine g_iload_n C 3 dL_law_18 rfl rfl ?_
    refine g_aload_n C 0 dL_law_19 rfl rfl ?_
    refine g_slen C hX hbl hbA dL_law_20 ?_
    refine g_bipush C 6 dL_law_21 rfl ?_
    refine g_isub C dL_law_23 ?_
    refine g_igt C 864 dL_law_24 (by decide) (fun q => ?_) (fun q => ?_)
    · refine g_iconst C 1 dL_law_864 rfl ?_
      exact g_lend C hr hb (by omega) (by omega) dL_law_865
    · refine absurd ?_ q
      rw [Int32.lt_iff_toInt_lt, show (6 : Int32) = nI 6 from rfl, nI_subT (by omega) (by omega), nI_toInt (by omega)]
      omega
  | succ d ih =>
    intro k hk hkL h R
    refine g_iload_n C 3 dL_law_18 rfl rfl ?_
    refine g_aload_n C 0 dL_law_19 rfl rfl ?_
    refine g_slen C hX hbl hbA dL_law_20 ?_
    refine g_bipush C 6 dL_law_21 rfl ?_
    refine g_isub C dL_law_23 ?_
    refine g_igt C 864 dL_law_24 (by decide) (fun q => ?_) (fun q => ?_)
    · refine g_iconst C 1 dL_law_864 rfl ?_
      exact g_lend C hr hb (by omega) (by omega) dL_law_865
    · have hi : 6 * k + 6 ≤ L := by
        refine Nat.not_lt.mp (fun z => q ?_)
        rw [Int32.lt_iff_toInt_lt, show (6 : Int32) = nI 6 from rfl, nI_subT (by omega) (by omega), nI_toInt (by omega)]
        omega
      have ht : 60 * k ≤ 38000 := by omega
      have hc : 307 + 3 * k + 3 ≤ 600000 := by omega
      have hs : 6106 + 131 * k + 131 ≤ 7302250 := by omega
      have K : ∀ h2, REL h2 (60 * k + 60) → GW base D cA p l e room_1 s m #[Value.ref b] below meth c (lw_Z below #[Value.ref b] s) 4 h2 (307 + 3 * k + 3) (6106 + 131 * k + 131) 858 (lvL base b (6 * k)) [] := fun h2 R2 => by
        have e6 : nI (6 * k) + 6 = nI (6 * (k + 1)) := by
          rw [show (6 : Int32) = nI 6 from rfl, nI_add, show 6 * k + 6 = 6 * (k + 1) by omega]
        refine g_iinc C (lv' := [(3, .int (nI (6 * (k + 1)))), (0, .ref b), (1, .ref (base + 1)), (2, .ref (base + 241))]) 3 6 dL_law_858 rfl rfl (by decide) (by rw [e6]; rfl) ?_
        refine g_sub (lv' := lvL base b (6 * (k + 1))) [1, 2, 3, 0] rfl ?_
        refine g_goto C 18 dL_law_861 (by decide) ?_
        have r := ih (k + 1) (by omega) (by omega) h2 (by rw [show 60 * (k + 1) = 60 * k + 60 by omega]; exact R2)
        rw [show 307 + 3 * (k + 1) = 307 + 3 * k + 3 by omega, show 6106 + 131 * (k + 1) = 6106 + 131 * k + 131 by omega] at r
        exact r
      refine g_aload_n C 0 dL_law_27 rfl rfl ?_
      refine g_iload_n C 3 dL_law_28 rfl rfl ?_
      refine g_sld C hX hbl hbA (j := 6 * k) rfl (by omega) (by omega) dL_law_29 ?_
      refine g_bipush C 31 dL_law_30 rfl ?_
      refine g_iand C dL_law_32 ?_
      refine g_tsw C (top := 25) 858 dL_law_33 (by decide) (fun n hn _ => ?_) (g_widen _ _ (by omega) (by omega) (K h (R.up (by omega))))
      match n, hn with
      | 0, _ => exact ⟨119, 152, rfl, by decide, law_0 C hX hbl hbA hi hL ht R hc hs K⟩
      | 1, _ => exact ⟨162, 195, rfl, by decide, law_1 C hX hbl hbA hi hL ht R hc hs K⟩
      | 2, _ => exact ⟨195, 228, rfl, by decide, law_2 C hX hbl hbA hi hL ht R hc hs K⟩
      | 3, _ => exact ⟨234, 267, rfl, by decide, law_3 C hX hbl hbA hi hL ht R hc hs K⟩
      | 4, _ => exact ⟨257, 290, rfl, by decide, law_4 C hX hbl hbA hi hL ht R hc hs K⟩
      | 5, _ => exact ⟨282, 315, rfl, by decide, law_5 C hX hbl hbA hi hL ht R hc hs K⟩
      | 6, _ => exact ⟨295, 328, rfl, by decide, law_6 C hX hbl hbA hi hL ht R hc hs K⟩
      | 7, _ => exact ⟨318, 351, rfl, by decide, law_7 C hX hbl hbA hi hL ht R hc hs K⟩
      | 8, _ => exact ⟨341, 374, rfl, by decide, law_8 C hX hbl hbA hi hL ht R hc hs K⟩
      | 9, _ => exact ⟨364, 397, rfl, by decide, law_9 C hX hbl hbA hi hL ht R hc hs K⟩
      | 10, _ => exact ⟨387, 420, rfl, by decide, law_10 C hX hbl hbA hi hL ht R hc hs K⟩
      | 11, _ => exact ⟨410, 443, rfl, by decide, law_11 C hX hbl hbA hi hL ht R hc hs K⟩
      | 12, _ => exact ⟨433, 466, rfl, by decide, law_12 C hX hbl hbA hi hL ht R hc hs K⟩
      | 13, _ => exact ⟨496, 529, rfl, by decide, law_13 C hX hbl hbA hi hL ht R hc hs K⟩
      | 14, _ => exact ⟨509, 542, rfl, by decide, law_14 C hX hbl hbA hi hL ht R hc hs K⟩
      | 15, _ => exact ⟨522, 555, rfl, by decide, law_15 C hX hbl hbA hi hL ht R hc hs K⟩
      | 16, _ => exact ⟨535, 568, rfl, by decide, law_16 C hX hbl hbA hi hL ht R hc hs K⟩
      | 17, _ => exact ⟨568, 601, rfl, by decide, law_17 C hX hbl hbA hi hL ht R hc hs K⟩
      | 18, _ => exact ⟨601, 634, rfl, by decide, law_18 C hX hbl hbA hi hL ht R hc hs K⟩
      | 19, _ => exact ⟨644, 677, rfl, by decide, law_19 C hX hbl hbA hi hL ht R hc hs K⟩
      | 20, _ => exact ⟨667, 700, rfl, by decide, law_20 C hX hbl hbA hi hL ht R hc hs K⟩
      | 21, _ => exact ⟨690, 723, rfl, by decide, law_21 C hX hbl hbA hi hL ht R hc hs K⟩
      | 22, _ => exact ⟨723, 756, rfl, by decide, law_22 C hX hbl hbA hi hL ht R hc hs K⟩
      | 23, _ => exact ⟨756, 789, rfl, by decide, law_23 C hX hbl hbA hi hL ht R hc hs K⟩
      | 24, _ => exact ⟨779, 812, rfl, by decide, law_24 C hX hbl hbA hi hL ht R hc hs K⟩
      | 25, _ => exact ⟨802, 835, rfl, by decide, law_25 C hX hbl hbA hi hL ht R hc hs K⟩
      | n + 26, hn => exact absurd hn (by omega)
theorem init_n : (match s_X8_init 1 (nO h00 8 0) with | some (_, h) => decide (hN h = 240) | none => false) = true := by decide +kernel
set_option maxRecDepth 100000 in
set_option maxHeartbeats 4000000 in
/-- from the entry, for every script of at most 3072 ints, the law comes to its end with true -/
theorem whole_start {p : Program} {e : Env} {s : State} {m : MethodId} {below : List Frame} {meth : Method} {c : Code} (l : Launch) (hflags : l.flags = flags0) {b L : Nat} {xs : Nat → Int32} (hL : L ≤ 3072) (C0 : lw_At p s m meth c b L xs) : W p l e room_1 s m #[Value.ref b] below meth c s.heap [] 0 0 (lw_Z below #[Value.ref b] s) (entryFrame m ([Value.ref b] : List Value).toArray 4) := by
  obtain ⟨hx, hcb, hr, hml, hown, hts, hX, hbl, hlocks, hgv⟩ := id C0
  obtain ⟨base, hb⟩ : ∃ base, base + 1 = s.heap.size := ⟨s.heap.size - 1, by omega⟩
  obtain ⟨D, cA, hK⟩ := law_K hts
  have hlow := law_low hb hts hgv
  have C : GC base D cA p s m #[Value.ref b] meth c cL_law 4 RL := ⟨hx, hcb, hml, hown, fun w hw => hts w (List.mem_filter.mp hw).1, hK, hlocks, by omega, hlow⟩
  have hbA : ¬ AA base b := fun z => by
    have : base + 1 ≤ b := z
    omega
  obtain ⟨h0, e0⟩ := init_ok
  have R0 := REL_start e0
  have T1 : hT h0 238 = (20, 8) := (of_decide_eq_true (chk_get e0 init_c)).2.2.1.2.2.2.2.2.2
  have T2 : hT h0 248 = (20, 8) := (of_decide_eq_true (chk_get e0 init_d)).2.1.2.2.2.2.2.2.1
  have E1 : (bnd (s_X8_init 1 (nO h00 8 0)) fun _ h => newO h 9 fun m h => bnd (s_X9_init m h) fun _ h => some h) = some h0 := e0
  obtain ⟨u1, hB, eB, E2⟩ := bnd_some E1
  have nB : hN hB = 240 := by
    have := init_n
    rw [eB] at this
    exact of_decide_eq_true this
  have E3 : (bnd (s_X9_init (hN hB + 1) (nO hB 9 0)) fun _ h => some h) = some h0 := E2
  rw [nB] at E3
  obtain ⟨u2, hC, eC, E4⟩ := bnd_some E3
  cases E4
  have key : GW base D cA p l e room_1 s m #[Value.ref b] below meth c (lw_Z below #[Value.ref b] s) 4 h00 0 0 0 [(0, .ref b)] [] := by
    refine g_new C (ci := 8) (f := fun x h => if x = 1 then some h else none) (X := nO h00 8 0) tyX8 tyX8_ok rfl (by decide) rfl inX8 lo_X8.1 lo_X8.2.1 lo_X8.2.2 (df_X8 base) (Nat.le_of_ble_eq_true rfl) (Nat.le_of_ble_eq_true rfl) dL_law_0 rfl (fun x h1 e1 => ?_)
    obtain ⟨rfl, e1⟩ := ite_some e1
    cases e1
    refine g_dup C dL_law_3 rfl ?_
    refine g_ini C (a := 1) (o := s_X8_init 1 (nO h00 8 0)) (f := fun _ h => some h) (X := hB) [] dL_law_4 cl_L_9 li_X8 rfl rfl ⟨Nat.le_of_ble_eq_true rfl, Nat.le_of_ble_eq_true rfl⟩ (Nat.le_of_ble_eq_true rfl) ⟨Nat.le_of_ble_eq_true rfl, Nat.le_of_ble_eq_true rfl⟩ rfl (fun r' h' E => o_X8_init l base D cA 1 (nO h00 8 0) r' h' E) (by rw [eB]; rfl) (fun r' h' e2 => ?_)
    cases e2
    refine g_astore_n C (lv' := [(1, .ref (base + 1)), (0, .ref b)]) dL_law_7 rfl (by decide) rfl ?_
    refine g_new C (ci := 9) (f := fun x h => if x = 241 then some h else none) (X := nO hB 9 0) tyX9 tyX9_ok rfl (by decide) rfl inX9 lo_X9.1 lo_X9.2.1 lo_X9.2.2 (df_X9 base) (Nat.le_of_ble_eq_true rfl) (Nat.le_of_ble_eq_true rfl) dL_law_8 (by unfold newO; rw [nB]; rfl) (fun x h1 e1 => ?_)
    obtain ⟨rfl, e1⟩ := ite_some e1
    cases e1
    refine g_dup C dL_law_11 rfl ?_
    refine g_ini C (a := 241) (o := s_X9_init 241 (nO hB 9 0)) (f := fun _ h => some h) (X := h0) [] dL_law_12 cl_L_12 li_X9 rfl rfl ⟨Nat.le_of_ble_eq_true rfl, Nat.le_of_ble_eq_true rfl⟩ (Nat.le_of_ble_eq_true rfl) ⟨Nat.le_of_ble_eq_true rfl, Nat.le_of_ble_eq_true rfl⟩ rfl (fun r' h' E => o_X9_init l base D cA 241 (nO hB 9 0) r' h' E) (by rw [eC]; rfl) (fun r' h' e2 => ?_)
    cases e2
    refine g_astore_n C (lv' := [(2, .ref (base + 241)), (1, .ref (base + 1)), (0, .ref b)]) dL_law_15 rfl (by decide) rfl ?_
    refine g_iconst C 0 dL_law_16 rfl ?_
    refine g_istore_n C (lv' := [(3, .int 0), (2, .ref (base + 241)), (1, .ref (base + 1)), (0, .ref b)]) dL_law_17 rfl (by decide) rfl ?_
    refine g_sub (lv' := lvL base b (6 * 0)) [3, 2, 1, 0] rfl ?_
    refine g_clp T1 T2 ?_
    exact law_loop C hr hb hX hbl hbA hL 512 0 (by omega) (by omega) (clp h0) R0
  have hl := lv_entry ([.ref b]) (n := 4) (Nat.le_of_ble_eq_true rfl)
  rw [lg_entry_eq]
  generalize (lg_sl ([.ref b]) ++ List.replicate (4 - (lg_sl ([.ref b])).length) Slot.unset).toArray = ls at hl ⊢
  have hl : lv_has ls 4 [(0, .ref b)] := hl
  refine key s.heap [] ls ⟨hb.symm, fun k q hk => ?_, fun a ha => absurd ha (by show ¬ (99 : Nat) < 99; omega)⟩ va_S.rf hl
  rw [wld_at, if_neg (by show ¬ k < 0; omega)] at hk
  cases hk
