/-! questions: house, lease -/
theorem Sh.getH {h : Hp} (S : Sh h) {i : Nat} (hi : i < 8) {α : Type} (k : Nat) (f : Int32 → Option α) : getI h (2 + 7 + 2 * i) 2 k f = f (hI h (2 + 7 + 2 * i) k) := by
  simp only [getI, S.tH (show isSt 2 from Or.inl rfl) hi, if_true]
theorem p_house (t : Nat) (a1 a2 : Int32) : Pair (s_X8_house 1 a1 a2) (s_X9_house 241 a1 a2) t := by
  intro h R
  have R' := R
  obtain ⟨e, c, u, sn, v, C, Q, W, X⟩ := R
  have S := C.1
  have n8 : e.2.1 ≤ 8 := W.1.1.1
  have e2 : e.1 2 = nI e.2.1 := W.1.1.2.2.1
  have st2 : isSt 2 := Or.inl rfl
  have hh2 : hI h 242 2 = nI e.2.1 := by rw [Q.1]; exact e2
  by_cases q : inH a1 e.2.1
  · obtain ⟨i, rfl, hi⟩ := inH_of n8 q
    have hi8 : i < 8 := by omega
    have pp : ∀ k, k < 42 → s_X9_part 241 (nI i) (nI k) h = some (pt e.1 i k, h) := fun k hk => by
      have := r_partH S hi8 hk
      rwa [Q.1] at this
    obtain ⟨v1, v2, v3, v4, v5, v6, v7, v8, v9⟩ := (C.2.1.hr hi).c
    have out : a2 ≠ 0 → a2 ≠ 1 → a2 ≠ 2 → a2 ≠ 3 → a2 ≠ 4 → a2 ≠ 5 → a2 ≠ 6 → a2 ≠ 7 → a2 ≠ 8 → a2 ≠ 9 → ¬ (0 ≤ a2 ∧ a2 ≤ 9) := fun n0 n1 n2 n3 n4 n5 n6 n7 n8 n9 y => by
      obtain ⟨m, rfl, m1, m2⟩ := win_of (lo := 0) (hi := 9) (by omega) (by omega) y
      rcases (show m = 0 ∨ m = 1 ∨ m = 2 ∨ m = 3 ∨ m = 4 ∨ m = 5 ∨ m = 6 ∨ m = 7 ∨ m = 8 ∨ m = 9 by omega) with rfl | rfl | rfl | rfl | rfl | rfl | rfl | rfl | rfl | rfl
      · exact n0 rfl
      · exact n1 rfl
      · exact n2 rfl
      · exact n3 rfl
      · exact n4 rfl
      · exact n5 rfl
      · exact n6 rfl
      · exact n7 rfl
      · exact n8 rfl
      · exact n9 rfl
    have cx : ∀ r : Int32, a2 ≠ 0 → s_X2_tell (2 + 7 + 2 * i) a2 h = some (r, h) → s_X8_house 1 (nI i) a2 h = some (r, h) := fun r n0 ht => by
      unfold s_X8_house
      simp only [S.x0, inv6 S, c_has S C.2.1, hasI_1 q, bnd, n0, if_false, show ((1 : Int32) = 0) = False from eq_false (by decide), c_house S st2 hi8, inv, S.tH st2 hi8, S.t0 st2, if_true, ht, retI]
    have rx : ∀ k : Nat, k < 9 → a2 = nI (k + 1) → s_X9_house 241 (nI i) a2 h = some (pt e.1 i k, h) := fun k hk ea => by
      have w : (0 ≤ a2 ∧ a2 ≤ 9) := by
        rw [ea]
        exact ⟨nI_pos' (by omega), (nI_leI (a := k + 1) (b := 9) (by omega) (by omega)).mpr (by omega)⟩
      have n0 : ¬ a2 = 0 := by
        rw [ea]
        exact fun y => by have := (nI_0' (k + 1) (by omega)).mp y; omega
      have ek : a2 - 1 = nI k := by
        rw [ea, show (1 : Int32) = nI 1 from rfl, nI_sub (by omega)]
        rfl
      unfold s_X9_house
      simp only [inv9 S, r_has S hh2, hasI_1 q, bnd, win9, w, and_self, n0, if_false, if_true, show ((1 : Int32) = 0) = False from eq_false (by decide), ek, pp k (by omega), retI]
    by_cases z0 : a2 = 0
    · subst z0
      have sh : s_X9_sharesOf 241 (nI i) h = some (sharesF e.1 e.2.2 i, h) := by
        have := r_sharesOf S (w := hI h 242) (nl := e.2.2) W.1.1.2.1 (by rw [Q.1]; exact W.1.1.2.2.2) hi8 (hI h 247) (hI h 248)
        rwa [sQ_self, Q.1] at this
      refine Pair.same (x := fun h => _) (m := fun h => _) R' (sharesF e.1 e.2.2 i) ?_ ?_
      · unfold s_X8_house
        simp only [S.x0, inv6 S, c_has S C.2.1, hasI_1 q, bnd, if_true, if_false, show ((1 : Int32) = 0) = False from eq_false (by decide), c_sharesOf6 S st2 C.2.1 hi, retI]
      · unfold s_X9_house
        simp only [inv9 S, r_has S hh2, hasI_1 q, bnd, win9, show ((0 : Int32) ≤ 0 ∧ (0 : Int32) ≤ 9) = True from eq_true (by decide), if_false, if_true, show ((1 : Int32) = 0) = False from eq_false (by decide), sh, retI]
    have tell : ∀ k : Nat, k < 9 → a2 = nI (k + 1) → s_X2_tell (2 + 7 + 2 * i) a2 h = some (pt e.1 i k, h) := fun k hk ea => by
      subst ea
      unfold s_X2_tell
      simp only [S.getH hi8, v1, v2, v3, v4, v5, v6, v7, v8, v9, retI]
      rcases (show k = 0 ∨ k = 1 ∨ k = 2 ∨ k = 3 ∨ k = 4 ∨ k = 5 ∨ k = 6 ∨ k = 7 ∨ k = 8 by omega) with rfl | rfl | rfl | rfl | rfl | rfl | rfl | rfl | rfl <;> rfl
    have fin : ∀ k : Nat, k < 9 → a2 = nI (k + 1) → ∃ r h1 h2, s_X8_house 1 (nI i) a2 h = some (r, h1) ∧ s_X9_house 241 (nI i) a2 h1 = some (r, h2) ∧ REL h2 (t + 60) ∧ Sh h1 := fun k hk ea => ⟨_, h, h, cx _ z0 (tell k hk ea), rx k hk ea, R'.up (by omega), S⟩
    by_cases z1 : a2 = 1
    · exact fin 0 (by omega) z1
    by_cases z2 : a2 = 2
    · exact fin 1 (by omega) z2
    by_cases z3 : a2 = 3
    · exact fin 2 (by omega) z3
    by_cases z4 : a2 = 4
    · exact fin 3 (by omega) z4
    by_cases z5 : a2 = 5
    · exact fin 4 (by omega) z5
    by_cases z6 : a2 = 6
    · exact fin 5 (by omega) z6
    by_cases z7 : a2 = 7
    · exact fin 6 (by omega) z7
    by_cases z8 : a2 = 8
    · exact fin 7 (by omega) z8
    by_cases z9 : a2 = 9
    · exact fin 8 (by omega) z9
    refine ⟨-2, h, h, cx (-2) z0 ?_, ?_, R'.up (by omega), S⟩
    · unfold s_X2_tell
      simp only [z1, z2, z3, z4, z5, z6, z7, z8, z9, if_false, retI]
    · unfold s_X9_house
      simp only [inv9 S, r_has S hh2, hasI_1 q, bnd, win9, out z0 z1 z2 z3 z4 z5 z6 z7 z8 z9, if_false, if_true, show ((1 : Int32) = 0) = False from eq_false (by decide), retI]
  · refine Pair.same (x := fun h => _) (m := fun h => _) R' (-1) ?_ ?_
    · unfold s_X8_house
      simp only [S.x0, inv6 S, c_has S C.2.1, hasI_0 q, bnd, if_true, if_false]
      rfl
    · unfold s_X9_house
      simp only [inv9 S, r_has S hh2, hasI_0 q, bnd, if_true, if_false]
      rfl
theorem inL_of {a : Int32} {n : Nat} (h8 : n ≤ 10) (q : 0 ≤ a ∧ a ≤ nI n - 1) : ∃ i, a = nI i ∧ i < n := by
  obtain ⟨m, rfl, hm⟩ := nI_ofI q.1
  refine ⟨m, rfl, ?_⟩
  have := Int32.le_iff_toInt_le.mp q.2
  rw [show (1 : Int32) = nI 1 from rfl, nI_subT (by omega) (by omega), nI_toInt hm] at this
  omega
theorem p_lease (t : Nat) (a1 a2 : Int32) : Pair (s_X8_lease 1 a1 a2) (s_X9_lease 241 a1 a2) t := by
  intro h R
  have R' := R
  obtain ⟨e, c, u, sn, v, C, Q, W, X⟩ := R
  have S := C.1
  have h10 : e.2.2 ≤ 10 := W.1.1.2.1
  have e8 : e.1 8 = nI e.2.2 := W.1.1.2.2.2
  have st2 : isSt 2 := Or.inl rfl
  have h4 : hI h 2 4 = nI e.2.2 := by rw [C.2.1.2.1.2.1]; exact e8
  have getp : ∀ {α : Type} (f : Int32 → Option α), (getR h 241 9 0 fun x2 => ldI h x2 20 8 f) = f (nI e.2.2) := fun f => by
    rw [sQ_of Q.1]
    simp only [qg S, ql_8 S, e8]
  by_cases q : 0 ≤ a1 ∧ a1 ≤ nI e.2.2 - 1
  · obtain ⟨j, rfl, hj⟩ := inL_of h10 q
    have hj10 : j < 10 := by omega
    have ll : ∀ k, k < 5 → hI h (2 + 23 + j) k = e.1 (351 + 5 * j + k) := fun k hk => C.2.1.2.2.2.2.2 j hj k hk
    have lp : ∀ k, k < 5 → s_X9_leasePart 241 (nI j) (nI k) h = some (e.1 (351 + 5 * j + k), h) := fun k hk => by
      have := r_leasePart S (hI h 242) (hI h 247) (hI h 248) hj10 hk
      rwa [sQ_self, Q.1] at this
    have cx : ∀ r : Int32, s_X3_tell (2 + 23 + j) a2 h = some (r, h) → s_X8_lease 1 (nI j) a2 h = some (r, h) := fun r ht => by
      unfold s_X8_lease
      simp only [S.x0, get6 S, h4, win8, q, and_self, bnd, if_true, show ((1 : Int32) = 0) = False from eq_false (by decide), if_false, getR, ldR, inv, S.t0 st2, S.t3 st2, S.r2 st2, S.rL st2 hj10, S.tL st2 hj10, nI_ge0 (show j < 2 ^ 31 by omega), nI_clamp (show j < 2 ^ 31 by omega), hj10, show ¬ (2 + 3 = 0) by omega, show ¬ (2 + 23 + j = 0) by omega, true_and, ne_eq, not_false_eq_true, S.2.2.1.1, S.2.2.1.2.1, show ((2 : Nat) = 0) = False from eq_false (by decide), ht, retI]
    have tell : ∀ k : Nat, k < 5 → a2 = nI k → s_X3_tell (2 + 23 + j) a2 h = some (e.1 (351 + 5 * j + k), h) := fun k hk ea => by
      subst ea
      unfold s_X3_tell
      simp only [getI, S.tL st2 hj10, if_true, ll 0 (by omega), ll 1 (by omega), ll 2 (by omega), ll 3 (by omega), ll 4 (by omega), retI]
      rcases (show k = 0 ∨ k = 1 ∨ k = 2 ∨ k = 3 ∨ k = 4 by omega) with rfl | rfl | rfl | rfl | rfl <;> rfl
    have rx : ∀ k : Nat, k < 5 → a2 = nI k → s_X9_lease 241 (nI j) a2 h = some (e.1 (351 + 5 * j + k), h) := fun k hk ea => by
      have w : (0 ≤ a2 ∧ a2 ≤ 4) := by
        rw [ea]
        exact ⟨nI_pos' (by omega), (nI_leI (a := k) (b := 4) (by omega) (by omega)).mpr (by omega)⟩
      unfold s_X9_lease
      rw [getp]
      simp only [win9, q, w, and_self, bnd, if_true, if_false, show ((1 : Int32) = 0) = False from eq_false (by decide), inv9 S, ea, lp k hk, retI]
      try simp only [← ea, w, and_self, if_true, if_false, bnd, inv9 S, lp k hk, retI, show ((1 : Int32) = 0) = False from eq_false (by decide)]
    by_cases z : 0 ≤ a2 ∧ a2 ≤ 4
    · obtain ⟨k, ea, k1, k2⟩ := win_of (lo := 0) (hi := 4) (by omega) (by omega) z
      exact ⟨_, h, h, cx _ (tell k (by omega) ea), rx k (by omega) ea, R'.up (by omega), S⟩
    · have nz : ∀ k : Nat, k < 5 → ¬ a2 = nI k := fun k hk ea => z (by
        rw [ea]
        exact ⟨nI_pos' (by omega), (nI_leI (a := k) (b := 4) (by omega) (by omega)).mpr (by omega)⟩)
      refine ⟨-2, h, h, cx (-2) ?_, ?_, R'.up (by omega), S⟩
      · unfold s_X3_tell
        rw [if_neg (show ¬ a2 = 0 from nz 0 (by omega)), if_neg (show ¬ a2 = 1 from nz 1 (by omega)), if_neg (show ¬ a2 = 2 from nz 2 (by omega)), if_neg (show ¬ a2 = 3 from nz 3 (by omega)), if_neg (show ¬ a2 = 4 from nz 4 (by omega))]
        rfl
      · unfold s_X9_lease
        rw [getp]
        simp only [win9, q, z, and_self, bnd, if_true, if_false, show ((1 : Int32) = 0) = False from eq_false (by decide), retI]
  · refine Pair.same (x := fun h => _) (m := fun h => _) R' (-1) ?_ ?_
    · unfold s_X8_lease
      simp only [S.x0, get6 S, h4, win8, q, bnd, if_true, if_false]
      rfl
    · unfold s_X9_lease
      simp only [getp, win9, q, bnd, if_true, if_false]
      rfl
