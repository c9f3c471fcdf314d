/-! start -/
def begF (w : Row) (i : Nat) : Row := sp (sp (sp (sp (sp w i 9 1) i 13 2) i 10 0) i 14 0) i 16 0
theorem begF_pt (w : Row) (i : Nat) {k : Nat} (h9 : k ≠ 9) (h13 : k ≠ 13) (h10 : k ≠ 10) (h14 : k ≠ 14) (h16 : k ≠ 16) : pt (begF w i) i k = pt w i k := by
  unfold begF
  rw [pt_sp, if_neg h16, pt_sp, if_neg h14, pt_sp, if_neg h10, pt_sp, if_neg h13, pt_sp, if_neg h9]
theorem begF_9 (w : Row) (i : Nat) : pt (begF w i) i 9 = 1 ∧ pt (begF w i) i 13 = 2 ∧ pt (begF w i) i 10 = 0 ∧ pt (begF w i) i 14 = 0 ∧ pt (begF w i) i 16 = 0 := by
  unfold begF
  simp only [pt_sp]
  simp
theorem begF_off (w : Row) (i j : Nat) (hj : j < 15 + 42 * i ∨ 15 + 42 * i + 42 ≤ j) : begF w i j = w j := by
  unfold begF
  rw [sp_off _ _ _ _ _ (by omega) hj, sp_off _ _ _ _ _ (by omega) hj, sp_off _ _ _ _ _ (by omega) hj, sp_off _ _ _ _ _ (by omega) hj, sp_off _ _ _ _ _ (by omega) hj]
theorem WH.begin' {w : Row} {i t : Nat} (q : WH w i t) (h15 : pt w i 15 ≠ 0) : WH (begF w i) i t := by
  obtain ⟨q1, q2, ⟨wt', wm', w1, w2, w3, w4, w5⟩, np, n3, n4, n5, n6⟩ := q
  obtain ⟨b1, b2, b3, b4, b5⟩ := begF_9 w i
  have hnp : 0 < np := by
    rcases Nat.eq_zero_or_pos np with z | z
    · rw [z] at n3
      exact absurd n3 h15
    · exact z
  have f : ∀ k, 17 ≤ k → pt (begF w i) i k = pt w i k := fun k hk => begF_pt w i (by omega) (by omega) (by omega) (by omega) (by omega)
  refine ⟨by rw [begF_pt w i (by omega) (by omega) (by omega) (by omega) (by omega)]; exact q1, Or.inr (Or.inl b1), ⟨wt', wm', by rw [begF_pt w i (by omega) (by omega) (by omega) (by omega) (by omega)]; exact w1, by rw [begF_pt w i (by omega) (by omega) (by omega) (by omega) (by omega)]; exact w2, w3, w4, w5⟩, np, by rw [begF_pt w i (by omega) (by omega) (by omega) (by omega) (by omega)]; exact n3, n4, fun k hk => by rw [f _ (by omega), f _ (by omega)]; exact n5 k hk, fun _ => ⟨0, hnp, b3, fun y => ?_⟩⟩
  rw [f _ (by omega)] at y
  obtain ⟨-, x, x1, x2, x3⟩ := n5 0 hnp
  have := x3 y
  exact ⟨0, x, b4, b5, by rw [f _ (by omega)]; exact x1, by omega, x2⟩
theorem WR.begin' {g : Hp} {i : Nat} {w : Row} (hi8 : i < 8) (R : WR g (2 + 8 + 2 * i) w i) : Fr (fun x => x = 2 + 8 + 2 * i) g (sI (sI (sI (sI g (2 + 8 + 2 * i) 1 1) (2 + 8 + 2 * i) 2 2) (2 + 8 + 2 * i) 3 0) (2 + 8 + 2 * i) 4 0) ∧ WR (sI (sI (sI (sI g (2 + 8 + 2 * i) 1 1) (2 + 8 + 2 * i) 2 2) (2 + 8 + 2 * i) 3 0) (2 + 8 + 2 * i) 4 0) (2 + 8 + 2 * i) (begF w i) i := by
  obtain ⟨⟨a1, a2, a3, a4, a5, a6⟩, a7⟩ := R
  obtain ⟨b1, b2, b3, b4, b5⟩ := begF_9 w i
  have F : Fr (fun x => x = 2 + 8 + 2 * i) g (sI (sI (sI (sI g (2 + 8 + 2 * i) 1 1) (2 + 8 + 2 * i) 2 2) (2 + 8 + 2 * i) 3 0) (2 + 8 + 2 * i) 4 0) := ((((Fr.rfl' (P := fun x => x = 2 + 8 + 2 * i)).sI _ 1 _ rfl).sI _ 2 _ rfl).sI _ 3 _ rfl).sI _ 4 _ rfl
  refine ⟨F, ⟨?_, fun z => ?_, ?_, ?_, ?_, ?_⟩, ?_⟩
  · rw [b1]; simp [hI_sI]
  · rw [b3, b4]; simp [hI_sI]
  · rw [begF_pt w i (by omega) (by omega) (by omega) (by omega) (by omega), ← a3]; simp [hI_sI]
  · rw [begF_pt w i (by omega) (by omega) (by omega) (by omega) (by omega), ← a4]; rfl
  · rw [b2]; simp [hI_sI]
  · rw [begF_pt w i (by omega) (by omega) (by omega) (by omega) (by omega), ← a6]; simp [hI_sI]
  · exact a7.ch F.ch (fun x hx => by rw [hx]; exact Mut_W (Or.inl rfl) hi8) (fun k k1 k2 k3 k4 => begF_pt w i (k := k) (by omega) (by omega) (by omega) (by omega) (by omega))
/-- how many phases a washer's program has -/
theorem WR.len {g : Hp} {i : Nat} {w : Row} (S : Sh g) (hi8 : i < 8) (R : WR g (2 + 8 + 2 * i) w i) {α : Type} (f : Int32 → Option α) : (getR g (2 + 8 + 2 * i) 7 0 fun x1 => getI g x1 4 0 f) = f (pt w i 15) := by
  obtain ⟨p1, p2, np, q1, q2, q3, q4⟩ := R.2
  have h0 : hR g (2 + 8 + 2 * i) 0 ≠ 0 := by
    rcases p1 with z | ⟨T, z, z2⟩ <;> omega
  simp only [getR, getI, S.tW (show isSt 2 from Or.inl rfl) hi8, q3.1, h0, true_and, ne_eq, not_false_eq_true, if_true, q3.2.2.2.1]
  rw [← q2]
  rfl
theorem p_start (t : Nat) (a1 : Int32) : Pair (s_X8_start 1 a1) (s_X9_start 241 a1) t := by
  intro h R
  have R' := R
  obtain ⟨e, c, u, sn, v, C, Q, W, X⟩ := R
  have S := C.1
  have n8 : e.2.1 ≤ 8 := W.1.1.1
  have e2 : e.1 2 = nI e.2.1 := W.1.1.2.2.1
  have st2 : isSt 2 := Or.inl rfl
  have hh2 : hI h 242 2 = nI e.2.1 := by rw [Q.1]; exact e2
  have h7 : hI h 2 7 = e.1 1 := C.2.1.2.1.2.2.2.2.1
  by_cases q : inH a1 e.2.1
  · obtain ⟨i, rfl, hi⟩ := inH_of n8 q
    have hi8 : i < 8 := by omega
    have WRi := (C.2.1.hr hi).w
    have r1 : hI h (2 + 8 + 2 * i) 1 = pt e.1 i 9 := WRi.1.1
    have r2 : hI h (2 + 8 + 2 * i) 2 = pt e.1 i 13 := WRi.1.2.2.2.2.1
    have hw0 := W.1.2.2.2.2.1 i hi
    obtain ⟨np, n3, n4, -⟩ := hw0.2.2.2
    have hle : (pt e.1 i 15 ≤ 0) = (pt e.1 i 15 = 0) := by
      rw [n3, show (0 : Int32) = nI 0 from rfl, nI_leE (by omega) (by omega), nI_eqE (by omega) (by omega)]
      exact propext Nat.le_zero
    have pp : ∀ (g : Hp), Sh g → hI g 242 = e.1 → s_X9_part 241 (nI i) 15 g = some (pt e.1 i 15, g) ∧ s_X9_part 241 (nI i) 9 g = some (pt e.1 i 9, g) ∧ s_X9_part 241 (nI i) 13 g = some (pt e.1 i 13, g) := fun g Sg eg => by
      rw [← eg]
      exact ⟨r_partH Sg (k := 15) hi8 (by omega), r_partH Sg (k := 9) hi8 (by omega), r_partH Sg (k := 13) hi8 (by omega)⟩
    have getp : ∀ (g : Hp), Sh g → hI g 242 = e.1 → ∀ {α : Type} (f : Int32 → Option α), (getR g 241 9 0 fun x2 => ldI g x2 20 1 f) = f (e.1 1) := fun g Sg eg α f => by
      rw [sQ_of eg]
      simp only [qg Sg, ql_1 Sg]
    obtain ⟨y15, y9, y13⟩ := pp h S Q.1
    have cs : s_X7_canStart (2 + 8 + 2 * i) h = some (if pt e.1 i 15 = 0 then 0 else if pt e.1 i 9 = 0 then (if pt e.1 i 13 = 0 then 0 else 1) else 0, h) := by
      unfold s_X7_canStart
      rw [WRi.len S hi8]
      simp only [hle, getW S hi8, r1, r2, retZ]
      by_cases z1 : pt e.1 i 15 = 0
      · simp [z1]
      · by_cases z2 : pt e.1 i 9 = 0
        · by_cases z3 : pt e.1 i 13 = 0
          · simp [z1, z2, z3]
          · simp [z1, z2, z3]
        · simp [z1, z2]
    by_cases ok : e.1 1 ≠ 0 ∧ pt e.1 i 15 ≠ 0 ∧ pt e.1 i 9 = 0 ∧ pt e.1 i 13 ≠ 0
    · obtain ⟨k1, k2, k3, k4⟩ := ok
      obtain ⟨h1, h2, p1, p2, p3, S1, p5⟩ := house_pair C Q W X hi (begF e.1 i) (pt e.1 i 15) (bc := fun h => inv h (2 + 8 + 2 * i) 7 (s_X7_begin (2 + 8 + 2 * i) h) fun _ h => getR h (2 + 8 + 2 * i) 7 0 fun x10 => getI h x10 4 0 fun x11 => retI x11 h) (br := fun h => inv h 241 9 (s_X9_setPart 241 (nI i) 9 1 h) fun _ h => inv h 241 9 (s_X9_setPart 241 (nI i) 13 2 h) fun _ h => inv h 241 9 (s_X9_beginPhase 241 (nI i) 0 h) fun _ h => inv h 241 9 (s_X9_part 241 (nI i) 15 h) fun x7 h => retI x7 h) (fun j hj => begF_off _ _ _ hj) (fun k hk => begF_pt _ _ (by omega) (by omega) (by omega) (by omega) (by omega)) ((hw0.mono (by omega)).begin' k2) (fun g Sg Rg => by
          obtain ⟨f1, f2⟩ := Rg.begin' hi8
          refine ⟨_, ?_, f1, rfl, f2⟩
          have Sg' : Sh (sI (sI (sI (sI g (2 + 8 + 2 * i) 1 1) (2 + 8 + 2 * i) 2 2) (2 + 8 + 2 * i) 3 0) (2 + 8 + 2 * i) 4 0) := Sg
          have ln := f2.len Sg' hi8 (fun x11 => retI x11 (sI (sI (sI (sI g (2 + 8 + 2 * i) 1 1) (2 + 8 + 2 * i) 2 2) (2 + 8 + 2 * i) 3 0) (2 + 8 + 2 * i) 4 0))
          unfold s_X7_begin
          simp only [invW Sg hi8, putW Sg hi8, putW (Sg.sI _ _ _) hi8, putW ((Sg.sI _ _ _).sI _ _ _) hi8, putW (((Sg.sI _ _ _).sI _ _ _).sI _ _ _) hi8, retU, bnd]
          refine ln.trans ?_
          rw [begF_pt _ _ (by omega) (by omega) (by omega) (by omega) (by omega)]
          rfl) (fun g Sg a b => by
          simp only [q_inv Sg, rs_9 Sg hi8, rs_13 Sg hi8, r_beginPhase Sg hi8, rp_15 Sg hi8, bnd, retI]
          rw [show sp (sp (sp (sp (sp e.1 i 9 1) i 13 2) i 10 0) i 14 0) i 16 0 = begF e.1 i from rfl, begF_pt _ _ (by omega) (by omega) (by omega) (by omega) (by omega)])
      obtain ⟨z15, z9, z13⟩ := pp h1 S1 p5
      refine ⟨pt e.1 i 15, h1, h2, ?_, ?_, p3, S1⟩
      · unfold s_X8_start
        simp only [S.x0, S.x3, inv6 S, invW S hi8, get6 S, c_has S C.2.1, hasI_1 q, bnd, if_true, if_false, show ((1 : Int32) = 0) = False from eq_false (by decide), c_washerOf S st2 hi8, h7, k1, cs, k2, k3, k4]
        exact p1
      · unfold s_X9_start
        simp only [inv9 S1, r_has S1 (show hI h1 242 2 = nI e.2.1 by rw [p5]; exact e2), hasI_1 q, bnd, if_true, if_false, show ((1 : Int32) = 0) = False from eq_false (by decide), getp h1 S1 p5, z15, z9, z13, k1, k2, k3, k4]
        exact p2
    · have cs0 : e.1 1 ≠ 0 → s_X7_canStart (2 + 8 + 2 * i) h = some (0, h) := fun k1 => by
        rw [cs]
        by_cases z1 : pt e.1 i 15 = 0
        · rw [if_pos z1]
        · rw [if_neg z1]
          by_cases z2 : pt e.1 i 9 = 0
          · rw [if_pos z2]
            by_cases z3 : pt e.1 i 13 = 0
            · rw [if_pos z3]
            · exact absurd ⟨k1, z1, z2, z3⟩ ok
          · rw [if_neg z2]
      refine Pair.same (x := fun h => _) (m := fun h => _) R' (-4) ?_ ?_
      · unfold s_X8_start
        simp only [S.x0, inv6 S, invW S hi8, get6 S, c_has S C.2.1, hasI_1 q, bnd, if_true, if_false, show ((1 : Int32) = 0) = False from eq_false (by decide), c_washerOf S st2 hi8, h7]
        by_cases k1 : e.1 1 = 0
        · rw [if_pos k1]
          rfl
        · rw [if_neg k1, cs0 k1]
          rfl
      · unfold s_X9_start
        simp only [inv9 S, r_has S hh2, hasI_1 q, bnd, if_true, if_false, show ((1 : Int32) = 0) = False from eq_false (by decide), getp h S Q.1, y15, y9, y13]
        by_cases k1 : e.1 1 = 0
        · rw [if_pos k1]
          rfl
        · rw [if_neg k1]
          by_cases z1 : pt e.1 i 15 = 0
          · rw [if_pos z1]
            rfl
          · rw [if_neg z1]
            by_cases z2 : pt e.1 i 9 = 0
            · rw [if_pos z2]
              by_cases z3 : pt e.1 i 13 = 0
              · rw [if_pos z3]
                rfl
              · exact absurd ⟨k1, z1, z2, z3⟩ ok
            · rw [if_neg z2]
              rfl
  · refine Pair.same (x := fun h => _) (m := fun h => _) R' (-1) ?_ ?_
    · unfold s_X8_start
      simp only [S.x0, inv6 S, c_has S C.2.1, hasI_0 q, bnd, if_true, if_false]
      rfl
    · unfold s_X9_start
      simp only [inv9 S, r_has S hh2, hasI_0 q, bnd, if_true, if_false]
      rfl
