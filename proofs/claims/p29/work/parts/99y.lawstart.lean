/-! the law's start -/
theorem g_lend {base : Nat} {D : va_G} {cA : Nat → ClassId} {p : Program} {l : Launch} {e : Env} {s : State} {m : MethodId} {b : Nat} {below : List Frame} {meth : Method} {c : Code} (C : GC base D cA p s m #[Value.ref b] meth c cX10_law 16 RX10) (hr : meth.sig.returnType = ret) (hb : base + 1 = s.heap.size) {h : Hp} {cells slots pc : Nat} {lv : List (Nat × Value)} (hc : cells ≤ 744374) (hs : slots ≤ 6869126) (d : decode cX10_law pc = .ok (.ireturn, 1)) : GW base D cA p l e room_1 s m #[Value.ref b] below meth c (lw_Z below #[Value.ref b] s) 16 h cells slots pc lv [.int 1] := by
  intro H locs ls hRp hS hl
  refine va_forget (fun q hq => ?_) (W.widen hc hs (lw_ret C.1 C.2.1 hr C.2.2.2.2.2.2.1 d))
  have : base + 1 ≤ q.base := hS.2.2 q hq
  omega
theorem g_clp {base : Nat} {D : va_G} {cA : Nat → ClassId} {p : Program} {l : Launch} {e : Env} {R : Room} {s : State} {m : MethodId} {args : Array Value} {below : List Frame} {meth : Method} {c : Code} {Q : State → Prop} {nL : Nat} {h : Hp} {cells slots pc : Nat} {lv : List (Nat × Value)} {st : List Value} (t1 : hT h 238 = (20, 8)) (kk : GW base D cA p l e R s m args below meth c Q nL (clp h) cells slots pc lv st) : GW base D cA p l e R s m args below meth c Q nL h cells slots pc lv st :=
  fun H locs ls hRp hS hl => kk H locs ls (Rp_clp t1 hRp) hS hl
theorem init_n : (match s_X8_init 1 (nO h00 8 0) with | some (_, h) => decide (hN h = 240) | none => false) = true := by decide +kernel
theorem newA_is {h : Hp} {n : Int32} {cap v : Nat} (q : 0 ≤ n ∧ n.toNatClampNeg ≤ cap) (e : hN h + 1 = v) : newA h 20 n cap (fun x h2 => if x = v then some h2 else none) = some (nO h 20 n.toNatClampNeg) := by
  unfold newA
  rw [if_pos q]
  exact if_pos e
theorem newA_g {α : Type} {h : Hp} {n : Int32} {cap : Nat} (q : 0 ≤ n ∧ n.toNatClampNeg ≤ cap) (f : Nat → Hp → Option α) : newA h 20 n cap f = f (hN h + 1) (nO h 20 n.toNatClampNeg) := if_pos q
set_option maxRecDepth 100000 in
set_option maxHeartbeats 4000000 in
/-- from the entry, for every script of at most 260 ints, the law comes to its end with true -/
theorem whole_start {p : Program} {e : Env} {s : State} {m : MethodId} {below : List Frame} {meth : Method} {c : Code} (l : Launch) (hflags : l.flags = flags0) {b L : Nat} {xs : Nat → Int32} (hL : L ≤ 260) (C0 : lw_At p s m meth c b L xs) : W p l e room_1 s m #[Value.ref b] below meth c s.heap [] 0 0 (lw_Z below #[Value.ref b] s) (entryFrame m ([Value.ref b] : List Value).toArray 16) := by
  obtain ⟨hx, hcb, hr, hml, hown, hts, hX, hbl, hlocks, hgv⟩ := id C0
  obtain ⟨base, hb⟩ : ∃ base, base + 1 = s.heap.size := ⟨s.heap.size - 1, by omega⟩
  obtain ⟨D, cA, hK⟩ := law_K hts
  have hlow := law_low hb hts hgv
  have C : GC base D cA p s m #[Value.ref b] meth c cX10_law 16 RX10 := ⟨hx, hcb, hml, hown, fun w hw => hts w (List.mem_filter.mp hw).1, hK, hlocks, by omega, hlow⟩
  have hbA : ¬ AA base b := fun z => by
    have : base + 1 ≤ b := z
    omega
  obtain ⟨h0, e0⟩ := init_ok
  obtain ⟨H', eJ⟩ := start_ok (L := L) (xs := xs) (by omega) e0
  have T1 : hT h0 238 = (20, 8) := (of_decide_eq_true (chk_get e0 init_c)).2.2.1.2.2.2.2.2.2
  have E1 : (bnd (s_X8_init 1 (nO h00 8 0)) fun _ h => newA h 20 16 16 fun _ h => newA h 20 48 48 fun _ h => newA h 20 32 32 fun _ h => newA h 20 20 20 fun _ h => newA h 20 4 4 fun _ h => some h) = some h0 := e0
  obtain ⟨u1, hB, eB, E2⟩ := bnd_some E1
  have nB : hN hB = 240 := by
    have := init_n
    rw [eB] at this
    exact of_decide_eq_true this
  have q1 : (0 : Int32) ≤ 16 ∧ (16 : Int32).toNatClampNeg ≤ 16 := by decide
  have q2 : (0 : Int32) ≤ 48 ∧ (48 : Int32).toNatClampNeg ≤ 48 := by decide
  have q3 : (0 : Int32) ≤ 32 ∧ (32 : Int32).toNatClampNeg ≤ 32 := by decide
  have q4 : (0 : Int32) ≤ 20 ∧ (20 : Int32).toNatClampNeg ≤ 20 := by decide
  have q5 : (0 : Int32) ≤ 4 ∧ (4 : Int32).toNatClampNeg ≤ 4 := by decide
  rw [newA_g q1, newA_g q2, newA_g q3, newA_g q4, newA_g q5] at E2
  have hnO : ∀ (h : Hp) (c k : Nat), hN (nO h c k) = hN h + 1 := fun _ _ _ => rfl
  have n1 : hN (nO hB 20 (16 : Int32).toNatClampNeg) = 241 := by rw [hnO, nB]
  have n2 : hN (nO (nO hB 20 (16 : Int32).toNatClampNeg) 20 (48 : Int32).toNatClampNeg) = 242 := by rw [hnO, n1]
  have n3 : hN (nO (nO (nO hB 20 (16 : Int32).toNatClampNeg) 20 (48 : Int32).toNatClampNeg) 20 (32 : Int32).toNatClampNeg) = 243 := by rw [hnO, n2]
  have n4 : hN (nO (nO (nO (nO hB 20 (16 : Int32).toNatClampNeg) 20 (48 : Int32).toNatClampNeg) 20 (32 : Int32).toNatClampNeg) 20 (20 : Int32).toNatClampNeg) = 244 := by rw [hnO, n3]
  have E5 := Option.some.inj E2
  have key : GW base D cA p l e room_1 s m #[Value.ref b] below meth c (lw_Z below #[Value.ref b] s) 16 h00 0 0 0 [(0, .ref b)] [] := by
    refine g_new C (ci := 8) (f := fun x h => if x = 1 then some h else none) (X := nO h00 8 0) tyX8 tyX8_ok rfl (by decide) rfl inX8 lo_X8.1 lo_X8.2.1 lo_X8.2.2 (df_X8 base) (Nat.le_of_ble_eq_true rfl) (Nat.le_of_ble_eq_true rfl) dX10_law_0 rfl (fun x h1 e1 => ?_)
    obtain ⟨rfl, e1⟩ := ite_some e1
    cases e1
    refine g_dup C dX10_law_3 rfl ?_
    refine g_ini C (a := 1) (rm := rm_X8_init) (o := s_X8_init 1 (nO h00 8 0)) (f := fun _ h => some h) (X := hB) [] dX10_law_4 cl_X10_78 li_X8 rfl rfl ⟨Nat.le_of_ble_eq_true rfl, Nat.le_of_ble_eq_true rfl⟩ (Nat.le_of_ble_eq_true rfl) ⟨Nat.le_of_ble_eq_true rfl, Nat.le_of_ble_eq_true rfl⟩ rfl (fun r' h' E => o_X8_init l base D cA 1 (nO h00 8 0) r' h' E) (by rw [eB]; rfl) (fun r' h' e2 => ?_)
    cases e2
    refine g_astore_n C (lv' := [(1, .ref (base + 1)), (0, .ref b)]) dX10_law_7 rfl (by decide) rfl ?_
    refine g_bipush C 16 dX10_law_8 rfl ?_
    refine g_newa C (ty := .int) (cap := 16) 0 (by decide) (by decide) rfl rfl (fun _ _ => rfl) rfl (in_wsA 57 (by decide +kernel) rfl) (by decide) (Nat.le_of_ble_eq_true rfl) (Nat.le_of_ble_eq_true rfl) dX10_law_10 (newA_is (v := 241) q1 (by rw [nB])) (fun x h2 e3 => ?_)
    obtain ⟨rfl, e3⟩ := ite_some e3
    cases e3
    refine g_astore_n C (lv' := [(2, .ref (base + 241)), (1, .ref (base + 1)), (0, .ref b)]) dX10_law_12 rfl (by decide) rfl ?_
    refine g_bipush C 48 dX10_law_13 rfl ?_
    refine g_newa C (ty := .int) (cap := 48) 0 (by decide) (by decide) rfl rfl (fun _ _ => rfl) rfl (in_wsA 57 (by decide +kernel) rfl) (by decide) (Nat.le_of_ble_eq_true rfl) (Nat.le_of_ble_eq_true rfl) dX10_law_15 (newA_is (v := 242) q2 (by rw [n1])) (fun x h2 e3 => ?_)
    obtain ⟨rfl, e3⟩ := ite_some e3
    cases e3
    refine g_astore_n C (lv' := [(3, .ref (base + 242)), (2, .ref (base + 241)), (1, .ref (base + 1)), (0, .ref b)]) dX10_law_17 rfl (by decide) rfl ?_
    refine g_bipush C 32 dX10_law_18 rfl ?_
    refine g_newa C (ty := .int) (cap := 32) 0 (by decide) (by decide) rfl rfl (fun _ _ => rfl) rfl (in_wsA 57 (by decide +kernel) rfl) (by decide) (Nat.le_of_ble_eq_true rfl) (Nat.le_of_ble_eq_true rfl) dX10_law_20 (newA_is (v := 243) q3 (by rw [n2])) (fun x h2 e3 => ?_)
    obtain ⟨rfl, e3⟩ := ite_some e3
    cases e3
    refine g_astore C (lv' := [(4, .ref (base + 243)), (3, .ref (base + 242)), (2, .ref (base + 241)), (1, .ref (base + 1)), (0, .ref b)]) dX10_law_22 (by decide) rfl ?_
    refine g_bipush C 20 dX10_law_24 rfl ?_
    refine g_newa C (ty := .int) (cap := 20) 0 (by decide) (by decide) rfl rfl (fun _ _ => rfl) rfl (in_wsA 57 (by decide +kernel) rfl) (by decide) (Nat.le_of_ble_eq_true rfl) (Nat.le_of_ble_eq_true rfl) dX10_law_26 (newA_is (v := 244) q4 (by rw [n3])) (fun x h2 e3 => ?_)
    obtain ⟨rfl, e3⟩ := ite_some e3
    cases e3
    refine g_astore C (lv' := [(5, .ref (base + 244)), (4, .ref (base + 243)), (3, .ref (base + 242)), (2, .ref (base + 241)), (1, .ref (base + 1)), (0, .ref b)]) dX10_law_28 (by decide) rfl ?_
    refine g_iconst C 4 dX10_law_30 rfl ?_
    refine g_newa C (ty := .int) (cap := 4) 0 (by decide) (by decide) rfl rfl (fun _ _ => rfl) rfl (in_wsA 57 (by decide +kernel) rfl) (by decide) (Nat.le_of_ble_eq_true rfl) (Nat.le_of_ble_eq_true rfl) dX10_law_31 (newA_is (v := 245) q5 (by rw [n4])) (fun x h2 e3 => ?_)
    obtain ⟨rfl, e3⟩ := ite_some e3
    cases e3
    refine g_astore C (lv' := [(6, .ref (base + 245)), (5, .ref (base + 244)), (4, .ref (base + 243)), (3, .ref (base + 242)), (2, .ref (base + 241)), (1, .ref (base + 1)), (0, .ref b)]) dX10_law_33 (by decide) rfl ?_
    refine g_sub (lv' := [(0, .ref b), (1, .ref (base + 1)), (2, .ref (base + 241)), (3, .ref (base + 242)), (4, .ref (base + 243)), (5, .ref (base + 244)), (6, .ref (base + 245))]) [6, 5, 4, 3, 2, 1, 0] rfl ?_
    rw [E5]
    refine g_clp T1 ?_
    refine g_widen (302 + 3 * min 0 400) (3270 + 131 * min 0 400) (Nat.le_of_ble_eq_true rfl) (Nat.le_of_ble_eq_true rfl) ?_
    exact o_X10_law_J35 C hr hX hbl hbA (X := (1, H')) rfl (fun h lv => g_lend C hr hb (Nat.le_refl _) (Nat.le_refl _) dX10_law_992) 1 241 242 243 244 245 0 (clp h0) eJ
  have hl := lv_entry ([.ref b]) (n := 16) (Nat.le_of_ble_eq_true rfl)
  rw [lg_entry_eq]
  generalize (lg_sl ([.ref b]) ++ List.replicate (16 - (lg_sl ([.ref b])).length) Slot.unset).toArray = ls at hl ⊢
  have hl : lv_has ls 16 [(0, .ref b)] := hl
  refine key s.heap [] ls ⟨hb.symm, fun k q hk => ?_, fun a ha => absurd ha (by show ¬ (99 : Nat) < 99; omega)⟩ va_S.rf hl
  rw [wld_at, if_neg (by show ¬ k < 0; omega)] at hk
  cases hk
