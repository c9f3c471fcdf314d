/-! questions: washer, ask -/
theorem p_washer (t : Nat) (ht : t ≤ 38000) (a1 a2 : Int32) : Pair (s_X8_washer 1 a1 a2) (s_X9_washer 241 a1 a2) t := by
  intro h R
  have R' := R
  obtain ⟨e, c, u, sn, v, C, Q, W, X⟩ := R
  have S := C.1
  have n8 : e.2.1 ≤ 8 := W.1.1.1
  have e2 : e.1 2 = nI e.2.1 := W.1.1.2.2.1
  have st2 : isSt 2 := Or.inl rfl
  have hh2 : hI h 242 2 = nI e.2.1 := by rw [Q.1]; exact e2
  by_cases q : inH a1 e.2.1
  · obtain ⟨i, rfl, hi⟩ := inH_of n8 q
    have hi8 : i < 8 := by omega
    have WRi := (C.2.1.hr hi).w
    obtain ⟨⟨b1, b2, b3, b4, b5, b6⟩, b7⟩ := id WRi
    have hw0 := W.1.2.2.2.2.1 i hi
    have pp : ∀ k, k < 42 → s_X9_part 241 (nI i) (nI k) h = some (pt e.1 i k, h) := fun k hk => by
      have := r_partH S hi8 hk
      rwa [Q.1] at this
    have y9 := pp 9 (by omega)
    have y10 := pp 10 (by omega)
    have y11 := pp 11 (by omega)
    have y12 := pp 12 (by omega)
    have y13 := pp 13 (by omega)
    have y14 := pp 14 (by omega)
    have y15 := pp 15 (by omega)
    have y17 := pp 17 (by omega)
    rw [show nI 9 = 9 from rfl] at y9
    rw [show nI 10 = 10 from rfl] at y10
    rw [show nI 11 = 11 from rfl] at y11
    rw [show nI 12 = 12 from rfl] at y12
    rw [show nI 13 = 13 from rfl] at y13
    rw [show nI 14 = 14 from rfl] at y14
    rw [show nI 15 = 15 from rfl] at y15
    rw [show nI 17 = 17 from rfl] at y17
    have ct := c_tmp S hi8 hw0 (by omega) WRi
    have rt : s_X9_temperature 241 (nI i) h = some (nI (tmpN (wtN e.1 i) (wmN e.1 i)), h) := by
      have := r_tmp S hi8 hw0 (by omega) (hI h 247) (hI h 248)
      rwa [← sQ_of Q.1] at this
    have cx : ∀ r : Int32, s_X7_tell (2 + 8 + 2 * i) a2 h = some (r, h) → s_X8_washer 1 (nI i) a2 h = some (r, h) := fun r ht => by
      unfold s_X8_washer
      simp only [S.x0, inv6 S, c_has S C.2.1, hasI_1 q, bnd, if_true, if_false, show ((1 : Int32) = 0) = False from eq_false (by decide), c_washerOf S st2 hi8, invW S hi8, ht, retI]
    have rx : ∀ r : Int32, s_X9_washer_J25 241 (nI i) a2 (if pt e.1 i 9 = 0 then 1 else 0) h = some (r, h) → s_X9_washer 241 (nI i) a2 h = some (r, h) := fun r ht => by
      unfold s_X9_washer
      simp only [inv9 S, r_has S hh2, hasI_1 q, bnd, if_true, if_false, show ((1 : Int32) = 0) = False from eq_false (by decide), y9]
      by_cases z : pt e.1 i 9 = 0
      · rw [if_pos z] at ht
        rw [if_pos z]
        exact ht
      · rw [if_neg z] at ht
        rw [if_neg z]
        exact ht
    have fin : ∀ r : Int32, s_X7_tell (2 + 8 + 2 * i) a2 h = some (r, h) → s_X9_washer_J25 241 (nI i) a2 (if pt e.1 i 9 = 0 then 1 else 0) h = some (r, h) → ∃ r h1 h2, s_X8_washer 1 (nI i) a2 h = some (r, h1) ∧ s_X9_washer 241 (nI i) a2 h1 = some (r, h2) ∧ REL h2 (t + 60) ∧ Sh h1 := fun r x y => ⟨r, h, h, cx r x, rx r y, R'.up (by omega), S⟩
    have i01 : ((1 : Int32) = 0) = False := eq_false (by decide)
    unfold s_X7_tell s_X9_washer_J25 at fin
    simp only [getW S hi8, invW S hi8, inv9 S, y9, y10, y11, y12, y13, y14, y15, y17, rt, ct, b1, b3, b5, b6, bnd, retI, WRi.len S hi8] at fin
    by_cases z0 : a2 = 0
    · exact fin (pt e.1 i 9) (by rw [if_pos z0]) (by rw [if_pos z0])
    by_cases z1 : a2 = 1
    · by_cases z : pt e.1 i 9 = 0
      · exact fin (-5) (by rw [if_neg z0, if_pos z1, if_pos z]) (by rw [if_neg z0, if_pos z1, if_pos z, if_neg (by decide)])
      · exact fin (pt e.1 i 10) (by rw [if_neg z0, if_pos z1, if_neg z, (b2 z).1]) (by rw [if_neg z0, if_pos z1, if_neg z, if_pos rfl])
    by_cases z2 : a2 = 2
    · exact fin (pt e.1 i 11) (by rw [if_neg z0, if_neg z1, if_pos z2]) (by rw [if_neg z0, if_neg z1, if_pos z2])
    by_cases z3 : a2 = 3
    · exact fin (nI (tmpN (wtN e.1 i) (wmN e.1 i))) (by rw [if_neg z0, if_neg z1, if_neg z2, if_pos z3]) (by rw [if_neg z0, if_neg z1, if_neg z2, if_pos z3])
    by_cases z4 : a2 = 4
    · refine fin (pt e.1 i 12) ?_ (by rw [if_neg z0, if_neg z1, if_neg z2, if_neg z3, if_pos z4])
      rw [if_neg z0, if_neg z1, if_neg z2, if_neg z3, if_pos z4]
      simp only [getL, S.tW st2 hi8, if_true, b4, Int32.toInt32_toInt64]
    by_cases z5 : a2 = 5
    · exact fin (pt e.1 i 13) (by rw [if_neg z0, if_neg z1, if_neg z2, if_neg z3, if_neg z4, if_pos z5]) (by rw [if_neg z0, if_neg z1, if_neg z2, if_neg z3, if_neg z4, if_pos z5])
    by_cases z6 : a2 = 6
    · by_cases z : pt e.1 i 9 = 0
      · exact fin (-5) (by rw [if_neg z0, if_neg z1, if_neg z2, if_neg z3, if_neg z4, if_neg z5, if_pos z6, if_pos z]) (by rw [if_neg z0, if_neg z1, if_neg z2, if_neg z3, if_neg z4, if_neg z5, if_pos z6, if_pos z, if_neg (by decide)])
      · exact fin (pt e.1 i 14) (by rw [if_neg z0, if_neg z1, if_neg z2, if_neg z3, if_neg z4, if_neg z5, if_pos z6, if_neg z, (b2 z).2]) (by rw [if_neg z0, if_neg z1, if_neg z2, if_neg z3, if_neg z4, if_neg z5, if_pos z6, if_neg z, if_pos rfl])
    by_cases z7 : a2 = 7
    · exact fin (pt e.1 i 15) (by rw [if_neg z0, if_neg z1, if_neg z2, if_neg z3, if_neg z4, if_neg z5, if_neg z6, if_pos z7]) (by rw [if_neg z0, if_neg z1, if_neg z2, if_neg z3, if_neg z4, if_neg z5, if_neg z6, if_pos z7])
    by_cases z8 : a2 = 8
    · exact fin (pt e.1 i 17) (by rw [if_neg z0, if_neg z1, if_neg z2, if_neg z3, if_neg z4, if_neg z5, if_neg z6, if_neg z7, if_pos z8]) (by rw [if_neg z0, if_neg z1, if_neg z2, if_neg z3, if_neg z4, if_neg z5, if_neg z6, if_neg z7, if_pos z8])
    exact fin (-2) (by rw [if_neg z0, if_neg z1, if_neg z2, if_neg z3, if_neg z4, if_neg z5, if_neg z6, if_neg z7, if_neg z8]) (by rw [if_neg z0, if_neg z1, if_neg z2, if_neg z3, if_neg z4, if_neg z5, if_neg z6, if_neg z7, if_neg z8])
  · refine Pair.same (x := fun h => _) (m := fun h => _) R' (-1) ?_ ?_
    · unfold s_X8_washer
      simp only [S.x0, inv6 S, c_has S C.2.1, hasI_0 q, bnd, if_true, if_false]
      rfl
    · unfold s_X9_washer
      simp only [inv9 S, r_has S hh2, hasI_0 q, bnd, if_true, if_false]
      rfl
