/-! the words of the start -/
theorem lw_len {args : Array Value} {first s : State} {o : Option Outcome} {idx : List Nat} {t : Term} {v : Value} (h : (Term.length t).eval args first o idx s = some v) :
    ∃ b cell, t.eval args first o idx s = some (.ref b) ∧ s.arrayAt? b = some cell ∧ cell.slots.size < 2 ^ 31 ∧ v = .int cell.slots.size.toInt32 := by
  simp only [Term.eval, Option.bind_eq_bind] at h
  cases ht : t.eval args first o idx s with
  | none => simp [ht] at h
  | some x =>
    cases x <;> simp only [ht, Option.bind_some] at h <;> try cases h
    rename_i b
    cases ha : s.arrayAt? b with
    | none => simp [ha] at h
    | some cell =>
      simp only [ha, Option.bind_some] at h
      by_cases hs : cell.slots.size < 2 ^ 31
      · rw [if_pos hs] at h; cases h; exact ⟨b, cell, rfl, ha, hs, rfl⟩
      · rw [if_neg hs] at h; cases h
theorem law_tab {A : Array Value} {s : State} {base : Nat} {nm : String} {tb : Nat → Int32} (hb : base + 1 = s.heap.size) (harr : (Cond.arrayOf (.static RX8 nm "[I") .int).before A s = true) (hlen : (Cond.eq (.length (.static RX8 nm "[I")) (.int 4)).before A s = true) (hel : ∀ j : Nat, j < 4 → (Cond.eq (.elem (.static RX8 nm "[I") (.int (Int32.ofNat j))) (.int (tb j))).before A s = true) (hl : (Cond.laysStatic RX8 nm "[I").before A s = true) (hini : (Cond.initialized RX8).before A s = true) :
    ∃ t : Nat, t ≤ base ∧ va_Z RX8 nm "[I" (.ref t) (AA base) s s.heap ∧ va_X t 4 tb s s.heap := by
  have nA : ∀ a : Nat, a < s.heap.size → ¬ AA base a := fun a ha z => by
    have : base + 1 ≤ a := z
    omega
  have ev := va_eqt hlen
  obtain ⟨t, cell, ht, hat, hsz, hv⟩ := lw_len ev
  obtain ⟨hcell, hkn, -, -⟩ := State.arrayAt?_spec hat
  obtain ⟨t', ht', cell', h1, h2, h3, h4, h5, h6, h7⟩ := va_Tof (A := AA base) (N := 4) (f := fun j => .int (tb j)) (by omega) harr ev (fun j hj => va_eqt (hel j hj)) nA
  cases ht.symm.trans ht'
  cases hcell.symm.trans h1
  have hsize : cell.slots.size = 4 := by
    have e : (4 : Int32) = nI cell.slots.size := Value.int.inj hv
    exact ((nI_eq (a := 4) (by omega) hsz).mp e).symm
  have hlt := (Array.getElem?_eq_some_iff.mp h1).1
  exact ⟨t, by omega, va_Zref hl hini ht nA, cell, h1, h2, h3, hsize, h6⟩
theorem law_low {s : State} {b base : Nat} (hb : base + 1 = s.heap.size) (hts : ∀ w ∈ lw_tbl, w.before #[Value.ref b] s = true) (hgv : (Jvm.Cond.and given_1 narrow_1).before #[Value.ref b] s = true) : LowS base s s.heap := by
  have hs := flat_of_before _ hgv
  have n1 : va_Nw (.methodLinkNest RX8 31 yX0_init RX8) s := va_Nw.of rfl (hts _ (List.mem_of_getElem? (i := 231) (by decide +kernel)))
  have n2 : va_Nw (.methodLinkNest RX8 38 yX5_init RX8) s := va_Nw.of rfl (hts _ (List.mem_of_getElem? (i := 251) (by decide +kernel)))
  have n3 : va_Nw (.methodLinkNest RX6 61 yX3_init RX8) s := va_Nw.of rfl (hts _ (List.mem_of_getElem? (i := 144) (by decide +kernel)))
  have n4 : va_Nw (.methodLinkNest RX6 69 yX8_isWithin RX8) s := va_Nw.of rfl (hts _ (List.mem_of_getElem? (i := 493) (by decide +kernel)))
  have n5 : va_Nw (.methodLinkNest RX4 37 yX8_isWithin RX8) s := va_Nw.of rfl (hts _ (List.mem_of_getElem? (i := 698) (by decide +kernel)))
  have o1 : va_AO RX2 s := va_AO.of (hts (.arrayOver (.object RX2)) (List.mem_of_getElem? (i := 33) (by decide +kernel)))
  have o2 : va_AO RX3 s := va_AO.of (hts (.arrayOver (.object RX3)) (List.mem_of_getElem? (i := 35) (by decide +kernel)))
  have o3 : va_AO RX6 s := va_AO.of (hts (.arrayOver (.object RX6)) (List.mem_of_getElem? (i := 219) (by decide +kernel)))
  obtain ⟨b1, l1, z1, x1⟩ := law_tab (A := #[Value.ref b]) (nm := "LEAST_SETTING") (tb := leastS) hb (hs _ (by decide +kernel)) (hs _ (by decide +kernel)) (fun j hj => by
    rcases (show j = 0 ∨ j = 1 ∨ j = 2 ∨ j = 3 by omega) with rfl | rfl | rfl | rfl
    · exact hs (.eq (.elem (.static RX8 "LEAST_SETTING" "[I") (.int 0)) (.int 1000)) (by decide +kernel)
    · exact hs (.eq (.elem (.static RX8 "LEAST_SETTING" "[I") (.int 1)) (.int 0)) (by decide +kernel)
    · exact hs (.eq (.elem (.static RX8 "LEAST_SETTING" "[I") (.int 2)) (.int 10)) (by decide +kernel)
    · exact hs (.eq (.elem (.static RX8 "LEAST_SETTING" "[I") (.int 3)) (.int 20)) (by decide +kernel)) (hts _ (List.mem_of_getElem? (i := 325) (by decide +kernel))) (hts _ (List.mem_of_getElem? (i := 8) (by decide +kernel)))
  obtain ⟨b2, l2, z2, x2⟩ := law_tab (A := #[Value.ref b]) (nm := "MOST_SETTING") (tb := mostS) hb (hs _ (by decide +kernel)) (hs _ (by decide +kernel)) (fun j hj => by
    rcases (show j = 0 ∨ j = 1 ∨ j = 2 ∨ j = 3 by omega) with rfl | rfl | rfl | rfl
    · exact hs (.eq (.elem (.static RX8 "MOST_SETTING" "[I") (.int 0)) (.int 60000)) (by decide +kernel)
    · exact hs (.eq (.elem (.static RX8 "MOST_SETTING" "[I") (.int 1)) (.int 900)) (by decide +kernel)
    · exact hs (.eq (.elem (.static RX8 "MOST_SETTING" "[I") (.int 2)) (.int 2000)) (by decide +kernel)
    · exact hs (.eq (.elem (.static RX8 "MOST_SETTING" "[I") (.int 3)) (.int 60)) (by decide +kernel)) (hts _ (List.mem_of_getElem? (i := 327) (by decide +kernel))) (hts _ (List.mem_of_getElem? (i := 8) (by decide +kernel)))
  exact ⟨n1, n2, n3, n4, n5, o1, o2, o3, b1, b2, l1, l2, z1, z2, x1, x2⟩

theorem law_K {args : Array Value} {s : State} (hts : ∀ w ∈ lw_tbl, w.before args s = true) : ∃ (D : va_G) (cA : Nat → ClassId), va_K D vwCl (tyL cA) s := by
  obtain ⟨c0, i0, k0⟩ := u_known (C := RX0) (T := TX0) (N := 3) (n := 3) hts inX0 (hts (.instantiable RX0 3) (List.mem_of_getElem? (i := 230) (by decide +kernel)))
  obtain ⟨c1, i1, k1⟩ := u_known (C := RX1) (T := TX1) (N := 2) (n := 2) hts inX1 (hts (.instantiable RX1 2) (List.mem_of_getElem? (i := 213) (by decide +kernel)))
  obtain ⟨c2, i2, k2⟩ := u_known (C := RX2) (T := TX2) (N := 10) (n := 10) hts inX2 (hts (.instantiable RX2 10) (List.mem_of_getElem? (i := 59) (by decide +kernel)))
  obtain ⟨c3, i3, k3⟩ := u_known (C := RX3) (T := TX3) (N := 5) (n := 5) hts inX3 (hts (.instantiable RX3 5) (List.mem_of_getElem? (i := 143) (by decide +kernel)))
  obtain ⟨c4, i4, k4⟩ := u_known (C := RX4) (T := TX4) (N := 3) (n := 3) hts inX4 (hts (.instantiable RX4 3) (List.mem_of_getElem? (i := 37) (by decide +kernel)))
  obtain ⟨c5, i5, k5⟩ := u_known (C := RX5) (T := TX5) (N := 2) (n := 2) hts inX5 (hts (.instantiable RX5 2) (List.mem_of_getElem? (i := 250) (by decide +kernel)))
  obtain ⟨c6, i6, k6⟩ := u_known (C := RX6) (T := TX6) (N := 11) (n := 11) hts inX6 (hts (.instantiable RX6 11) (List.mem_of_getElem? (i := 27) (by decide +kernel)))
  obtain ⟨c7, i7, k7⟩ := u_known (C := RX7) (T := TX7) (N := 8) (n := 8) hts inX7 (hts (.instantiable RX7 8) (List.mem_of_getElem? (i := 65) (by decide +kernel)))
  obtain ⟨c8, i8, k8⟩ := u_known (C := RX8) (T := TX8) (N := 7) (n := 7) hts inX8 (hts (.instantiable RX8 7) (List.mem_of_getElem? (i := 19) (by decide +kernel)))
  obtain ⟨a20, q20, p20, u20, v20, w20⟩ := Cond.arrayClass_spec (hts (.arrayClass .int) (List.mem_of_getElem? (i := 57) (by decide +kernel)))
  obtain ⟨a21, q21, p21, u21, v21, w21⟩ := Cond.arrayClass_spec (hts (.arrayClass .char) (List.mem_of_getElem? (i := 58) (by decide +kernel)))
  obtain ⟨p22, a22, q22, x22, -, v22, w22, u22⟩ := Cond.arrayOver_spec (hts (.arrayOver (.object RX2)) (List.mem_of_getElem? (i := 33) (by decide +kernel)))
  obtain ⟨p23, a23, q23, x23, -, v23, w23, u23⟩ := Cond.arrayOver_spec (hts (.arrayOver (.object RX3)) (List.mem_of_getElem? (i := 35) (by decide +kernel)))
  obtain ⟨p24, a24, q24, x24, -, v24, w24, u24⟩ := Cond.arrayOver_spec (hts (.arrayOver (.object RX6)) (List.mem_of_getElem? (i := 219) (by decide +kernel)))
  refine ⟨(fun k => match k with | 0 => c0 | 1 => c1 | 2 => c2 | 3 => c3 | 4 => c4 | 5 => c5 | 6 => c6 | 7 => c7 | _ => c8, fun k => match k with | 0 => i0 | 1 => i1 | 2 => i2 | 3 => i3 | 4 => i4 | 5 => i5 | 6 => i6 | 7 => i7 | _ => i8), fun k => match k with | 20 => a20 | 21 => a21 | 22 => a22 | 23 => a23 | _ => a24, fun k q hk => ?_, fun k q hk => ?_⟩
  · match k, hk with
    | 0, hk => cases hk; exact k0
    | 1, hk => cases hk; exact k1
    | 2, hk => cases hk; exact k2
    | 3, hk => cases hk; exact k3
    | 4, hk => cases hk; exact k4
    | 5, hk => cases hk; exact k5
    | 6, hk => cases hk; exact k6
    | 7, hk => cases hk; exact k7
    | 8, hk => cases hk; exact k8
    | k + 9, hk => simp [vwCl] at hk
  · match k, hk with
    | 0, hk => cases hk; exact ⟨fun N z => ⟨fun k h => (by cases h), q20, v20, p20, w20⟩, u20⟩
    | 1, hk => cases hk; exact ⟨fun N z => ⟨fun k h => (by cases h), q21, v21, p21, w21⟩, u21⟩
    | 2, hk => cases hk; exact ⟨fun N z => ⟨fun k h => (by cases h), q22, v22, p22, w22⟩, q22, p22, v22, w22, x22, u22⟩
    | 3, hk => cases hk; exact ⟨fun N z => ⟨fun k h => (by cases h), q23, v23, p23, w23⟩, q23, p23, v23, w23, x23, u23⟩
    | 4, hk => cases hk; exact ⟨fun N z => ⟨fun k h => (by cases h), q24, v24, p24, w24⟩, q24, p24, v24, w24, x24, u24⟩
    | k + 5, hk => simp [tyL] at hk

