/-! what a house asks -/
def askF (w : Row) (i : Nat) (x : Int32) : Int32 := if pt w i 9 = 1 then 2 * (x * pt w i 1) else x * pt w i 1
theorem c_askOf {h : Hp} {e : Ent} (S : Sh h) (R : SRe h 2 e) {i : Nat} (hi : i < e.2.1) (hi8 : i < 8) (x : Int32) : s_X6_askOf 2 (nI i) x h = some (askF e.1 i x, h) := by
  have st2 : isSt 2 := Or.inl rfl
  obtain ⟨v1, v2, v3, v4, v5, v6, v7, v8, v9⟩ := (R.hr hi).c
  have b1 : hI h (2 + 8 + 2 * i) 1 = pt e.1 i 9 := (R.hr hi).w.1.1
  unfold s_X6_askOf askF
  simp only [c_house S st2 hi8, S.getH hi8, inv6 S, c_washerOf S st2 hi8, bnd, getW S hi8, v2, b1, retI]
  split <;> rfl
theorem r_askOf {h : Hp} (S : Sh h) {i : Nat} (hi8 : i < 8) (x : Int32) (w a b : Row) : s_X9_askOf 241 (nI i) x (sQ h w a b) = some (askF w i x, sQ h w a b) := by
  unfold s_X9_askOf askF
  simp only [q_inv S, rp_1 S hi8, r_runs S hi8, bnd, retI]
  by_cases q : pt w i 9 = 1
  · simp only [if_pos q, show ((1 : Int32) = 0) = False from eq_false (by decide), if_false]
    rw [Int32.mul_comm]
  · simp only [if_neg q, if_true, Int32.mul_one]
theorem r_hasToLend {h : Hp} (S : Sh h) {i nl : Nat} (hi8 : i < 8) {w : Row} (h10 : nl ≤ 10) (e8 : w 8 = nI nl) (x : Int32) (a b : Row) : s_X9_hasToLend 241 (nI i) x (sQ h w a b) = some (if pt w i 0 - lentF w nl (nI i) < x then 0 else 1, sQ h w a b) := by
  unfold s_X9_hasToLend
  simp only [q_inv S, rp_0 S hi8, r_lent S h10 e8, bnd, retZ]
  split <;> rfl
theorem p_ask (t : Nat) (a1 a2 : Int32) : Pair (s_X8_ask 1 a1 a2) (s_X9_ask 241 a1 a2) t := by
  intro h R
  have R' := R
  obtain ⟨e, c, u, sn, v, C, Q, W, X⟩ := R
  have S := C.1
  have n8 : e.2.1 ≤ 8 := W.1.1.1
  have e2 : e.1 2 = nI e.2.1 := W.1.1.2.2.1
  have st2 : isSt 2 := Or.inl rfl
  have hh2 : hI h 242 2 = nI e.2.1 := by rw [Q.1]; exact e2
  by_cases q : inH a1 e.2.1
  · obtain ⟨i, rfl, hi⟩ := inH_of n8 q
    have hi8 : i < 8 := by omega
    by_cases z : 1 ≤ a2 ∧ a2 ≤ 20
    · have lt := r_hasToLend S hi8 (w := e.1) W.1.1.2.1 W.1.1.2.2.2 a2 (hI h 247) (hI h 248)
      have at' := r_askOf S hi8 a2 e.1 (hI h 247) (hI h 248)
      rw [← sQ_of Q.1] at lt at'
      have cu := c_unlentOf S st2 C.2.1 hi
      by_cases y : pt e.1 i 0 - lentF e.1 e.2.2 (nI i) < a2
      · rw [if_pos y] at lt
        refine Pair.same (x := fun h => _) (m := fun h => _) R' (-4) ?_ ?_
        · unfold s_X8_ask
          simp only [S.x0, inv6 S, c_has S C.2.1, hasI_1 q, bnd, win8, z, and_self, if_true, if_false, show ((1 : Int32) = 0) = False from eq_false (by decide), cu]
          rw [if_neg (Int32.not_le.mpr y)]
          rfl
        · unfold s_X9_ask
          simp only [inv9 S, r_has S hh2, hasI_1 q, bnd, win9, z, and_self, if_true, if_false, show ((1 : Int32) = 0) = False from eq_false (by decide), lt]
          rfl
      · rw [if_neg y] at lt
        refine Pair.same (x := fun h => _) (m := fun h => _) R' (askF e.1 i a2) ?_ ?_
        · unfold s_X8_ask
          simp only [S.x0, inv6 S, c_has S C.2.1, hasI_1 q, bnd, win8, z, and_self, if_true, if_false, show ((1 : Int32) = 0) = False from eq_false (by decide), cu]
          rw [if_pos (Int32.not_lt.mp y), c_askOf S C.2.1 hi hi8]
          rfl
        · unfold s_X9_ask
          simp only [inv9 S, r_has S hh2, hasI_1 q, bnd, win9, z, and_self, if_true, if_false, show ((1 : Int32) = 0) = False from eq_false (by decide), lt, at', retI]
    · refine Pair.same (x := fun h => _) (m := fun h => _) R' (-2) ?_ ?_
      · unfold s_X8_ask
        simp only [S.x0, inv6 S, c_has S C.2.1, hasI_1 q, bnd, win8, z, if_true, if_false, show ((1 : Int32) = 0) = False from eq_false (by decide)]
        rfl
      · unfold s_X9_ask
        simp only [inv9 S, r_has S hh2, hasI_1 q, bnd, win9, z, if_true, if_false, show ((1 : Int32) = 0) = False from eq_false (by decide)]
        rfl
  · refine Pair.same (x := fun h => _) (m := fun h => _) R' (-1) ?_ ?_
    · unfold s_X8_ask
      simp only [S.x0, inv6 S, c_has S C.2.1, hasI_0 q, bnd, if_true, if_false]
      rfl
    · unfold s_X9_ask
      simp only [inv9 S, r_has S hh2, hasI_0 q, bnd, if_true, if_false]
      rfl
