/-! questions: phase -/
theorem p_phase (t : Nat) (a1 a2 a3 : Int32) : Pair (s_X8_phase 1 a1 a2 a3) (s_X9_phase 241 a1 a2 a3) t := by
  intro h R
  have R' := R
  obtain ⟨e, c, u, sn, v, C, Q, W, X⟩ := R
  have S := C.1
  have n8 : e.2.1 ≤ 8 := W.1.1.1
  have e2 : e.1 2 = nI e.2.1 := W.1.1.2.2.1
  have st2 : isSt 2 := Or.inl rfl
  have hh2 : hI h 242 2 = nI e.2.1 := by rw [Q.1]; exact e2
  by_cases q : inH a1 e.2.1
  · obtain ⟨i, rfl, hi⟩ := inH_of n8 q
    have hi8 : i < 8 := by omega
    obtain ⟨p1, p2, np, q1, q2, q3, q4⟩ := (C.2.1.hr hi).w.2
    have hz : hR h (2 + 8 + 2 * i) 0 ≠ 0 := by
      rcases p1 with z | ⟨T, z, z2⟩ <;> omega
    have pp : ∀ k, k < 42 → s_X9_part 241 (nI i) (nI k) h = some (pt e.1 i k, h) := fun k hk => by
      have := r_partH S hi8 hk
      rwa [Q.1] at this
    have y15 : s_X9_part 241 (nI i) 15 h = some (nI np, h) := by
      rw [← q2]
      exact pp 15 (by omega)
    obtain ⟨np', n3, n4, n5, -⟩ := (W.1.2.2.2.2.1 i hi).2.2.2
    have en : np' = np := (nI_eq (by omega) (by omega)).mp (n3.symm.trans q2)
    subst en
    have hph : s_X4_hasPhase (hR h (2 + 8 + 2 * i) 0) a2 h = some (if 0 ≤ a2 ∧ a2 ≤ nI np' - 1 then 1 else 0, h) := by
      by_cases z : a2 < 0
      · unfold s_X4_hasPhase retZ
        rw [if_pos z, if_pos (Or.inl rfl), if_neg (fun y => Int32.not_lt.mpr y.1 z)]
      · obtain ⟨k, rfl, hk⟩ := nI_ofI (Int32.not_lt.mp z)
        rw [c_hasPhase q3 hk]
        by_cases y : k < np'
        · rw [if_pos y, if_pos ⟨nI_pos' hk, by
            rw [Int32.le_iff_toInt_le, show (1 : Int32) = nI 1 from rfl, nI_subT (by omega) (by omega), nI_toInt hk]
            omega⟩]
        · rw [if_neg y, if_neg (fun y2 => y (by
            have := Int32.le_iff_toInt_le.mp y2.2
            rw [show (1 : Int32) = nI 1 from rfl, nI_subT (by omega) (by omega), nI_toInt hk] at this
            omega))]
    by_cases z : 0 ≤ a2 ∧ a2 ≤ nI np' - 1
    · obtain ⟨k, ea, hk31⟩ := nI_ofI z.1
      have hk : k < np' := by
        have := Int32.le_iff_toInt_le.mp z.2
        rw [ea, show (1 : Int32) = nI 1 from rfl, nI_subT (by omega) (by omega), nI_toInt hk31] at this
        omega
      obtain ⟨w1, w2⟩ := q4 k hk
      have f1 : e.1 (15 + 42 * i + 18 + k) = pt e.1 i (18 + k) := by unfold pt; rw [Nat.add_assoc (15 + 42 * i) 18 k]
      have f2 : e.1 (15 + 42 * i + 30 + k) = pt e.1 i (30 + k) := by unfold pt; rw [Nat.add_assoc (15 + 42 * i) 30 k]
      rw [f1] at w1
      rw [f2] at w2
      have ck : s_X4_kindOf (hR h (2 + 8 + 2 * i) 0) a2 h = some (pt e.1 i (18 + k), h) := by
        rw [ea, c_kindOf q3 hk (by rw [w1]; exact (n5 k hk).nar), w1]
      have cn : s_X4_numberOf (hR h (2 + 8 + 2 * i) 0) a2 h = some (pt e.1 i (30 + k), h) := by
        rw [ea, c_numberOf q3 hk, w2]
      have r18 : s_X9_part 241 (nI i) (18 + a2) h = some (pt e.1 i (18 + k), h) := by
        rw [ea, show (18 : Int32) + nI k = nI (18 + k) from nI_add 18 k]
        exact pp _ (by omega)
      have r30 : s_X9_part 241 (nI i) (30 + a2) h = some (pt e.1 i (30 + k), h) := by
        rw [ea, show (30 : Int32) + nI k = nI (30 + k) from nI_add 30 k]
        exact pp _ (by omega)
      refine Pair.same (x := fun h => _) (m := fun h => _) R' (if a3 = 0 then pt e.1 i (18 + k) else if a3 = 1 then pt e.1 i (30 + k) else -2) ?_ ?_
      · unfold s_X8_phase
        simp only [inv6 S, c_has S C.2.1, hasI_1 q, bnd, if_true, if_false, show ((1 : Int32) = 0) = False from eq_false (by decide), c_washerOf S st2 hi8, getR, S.2.2.1.1, S.2.2.1.2.1, S.t0 st2, S.tW st2 hi8, hz, true_and, show ((2 : Nat) = 0) = False from eq_false (by decide), ne_eq, not_false_eq_true, inv, q3.1, hph, z, and_self, ck, cn, retI]
        split
        · rfl
        · split <;> rfl
      · unfold s_X9_phase
        simp only [inv9 S, r_has S hh2, hasI_1 q, bnd, if_true, if_false, show ((1 : Int32) = 0) = False from eq_false (by decide), y15, win9, z, and_self, r18, r30, retI]
        split
        · rfl
        · split <;> rfl
    · refine Pair.same (x := fun h => _) (m := fun h => _) R' (-1) ?_ ?_
      · unfold s_X8_phase
        simp only [inv6 S, c_has S C.2.1, hasI_1 q, bnd, if_true, if_false, show ((1 : Int32) = 0) = False from eq_false (by decide), c_washerOf S st2 hi8, getR, S.2.2.1.1, S.2.2.1.2.1, S.t0 st2, S.tW st2 hi8, hz, true_and, show ((2 : Nat) = 0) = False from eq_false (by decide), ne_eq, not_false_eq_true, inv, q3.1, hph, z, retI]
      · unfold s_X9_phase
        simp only [inv9 S, r_has S hh2, hasI_1 q, bnd, if_true, if_false, show ((1 : Int32) = 0) = False from eq_false (by decide), y15, win9, z, retI]
  · refine Pair.same (x := fun h => _) (m := fun h => _) R' (-1) ?_ ?_
    · unfold s_X8_phase
      simp only [S.x0, inv6 S, c_has S C.2.1, hasI_0 q, bnd, if_true, if_false]
      rfl
    · unfold s_X9_phase
      simp only [inv9 S, r_has S hh2, hasI_0 q, bnd, if_true, if_false]
      rfl
