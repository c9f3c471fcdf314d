/-! power, whole -/
theorem c_powL {n nl t : Nat} {v1 : Int32} (hv : v1 ≠ 0) : ∀ (d k f : Nat) (h : Hp) (w : Row), k + d = n → d < f → Sh h → SR h 2 w n nl → WF w n nl t →
    ∃ h', s_X6_switchPower_L7 f 2 v1 (nI k) h = some ((), h') ∧ Fr (ST 2) h h' ∧ hR h' = hR h ∧ SR h' 2 (itF spinF k d w) n nl ∧ WF (itF spinF k d w) n nl t
  | 0, k, f, h, w, hk, hf, S, R, F => by
    obtain ⟨m, rfl, -⟩ := fuel_succ hf
    have n8 := R.n8
    have e3 : hI h 2 3 = nI n := by rw [R.2.1.1, R.1.1]
    refine ⟨h, ?_, Fr.rfl', rfl, R, F⟩
    rw [s_X6_switchPower_L7]
    simp only [hv, if_false, get6 S, e3, nI_leE (show n < 2 ^ 31 by omega) (show k < 2 ^ 31 by omega), show n ≤ k by omega, if_true]
    rfl
  | d + 1, k, f, h, w, hk, hf, S, R, F => by
    obtain ⟨m, rfl, hm⟩ := fuel_succ hf
    have n8 := R.n8
    have hk8 : k < 8 := by omega
    have e3 : hI h 2 3 = nI n := by rw [R.2.1.1, R.1.1]
    obtain ⟨h1, a1, a2, a3, a4⟩ := c_spin S R (show k < n by omega) (F.2.2.2.2.1 k (by omega))
    have S1 : Sh h1 := S.of a3 a2.1 (Nat.le_of_eq a2.2.1.symm)
    obtain ⟨h', b1, b2, b3, b4, b5⟩ := c_powL hv d (k + 1) m h1 (spinF w k) (by omega) (by omega) S1 a4 (F.spin (by omega))
    refine ⟨h', ?_, (a2.mono (fun x hx => by rw [hx]; exact ST.W hk8)).trans b2, b3.trans a3, b4, b5⟩
    rw [s_X6_switchPower_L7]
    simp only [hv, if_false, get6 S, e3, nI_leE (show n < 2 ^ 31 by omega) (show k < 2 ^ 31 by omega), show ¬ (n ≤ k) by omega, inv6 S, c_washerOf S (show isSt 2 from Or.inl rfl) hk8, bnd, invW S hk8, a1, nI_1]
    exact b1
theorem r_powL2 {h : Hp} (S : Sh h) {n nl t : Nat} {v1 : Int32} (hv : v1 ≠ 0) {a b : Row} : ∀ (d k f : Nat) (w : Row), k + d = n → d < f → WF w n nl t →
    s_X9_power_L36 f 241 v1 (nI k) (sQ h w a b) = some (sumL (isF (itF spinF k d w) 9 1) n 0 0, sQ h (itF spinF k d w) a b)
  | 0, k, f, w, hk, hf, F => by
    obtain ⟨m, rfl, -⟩ := fuel_succ hf
    have n8 := F.1.1
    have hw : s_X9_washersIn 241 1 (sQ h w a b) = some (sumL (isF w 9 1) n 0 0, sQ h w a b) := r_washersInL S n8 F.1.2.2.1 1 n 0 100000 0 (by omega) (by omega)
    rw [s_X9_power_L36]
    simp only [qg S, ql_2 S, F.1.2.2.1, nI_leE (show n < 2 ^ 31 by omega) (show k < 2 ^ 31 by omega), show n ≤ k by omega, if_true, q_inv S, hw, bnd, retI]
    rfl
  | d + 1, k, f, w, hk, hf, F => by
    obtain ⟨m, rfl, hm⟩ := fuel_succ hf
    have n8 := F.1.1
    have hk8 : k < 8 := by omega
    have ih := r_powL2 S hv (a := a) (b := b) d (k + 1) m (spinF w k) (by omega) (by omega) (F.spin (show k < n by omega))
    rw [s_X9_power_L36]
    simp only [qg S, ql_2 S, F.1.2.2.1, nI_leE (show n < 2 ^ 31 by omega) (show k < 2 ^ 31 by omega), show ¬ (n ≤ k) by omega, hv, if_false, q_inv S, r_runs S hk8, bnd, nI_1]
    refine Eq.trans ?_ ih
    unfold spinF
    by_cases q : pt w k 9 = 1
    · obtain ⟨q1, q2, q3, np, n3, n4, n5, n6⟩ := F.2.2.2.2.1 k (by omega)
      obtain ⟨ph, p1, p2, p3⟩ := n6 q
      have e0 : phN w k = ph := by unfold phN; rw [p2, nI_clamp (by omega)]; omega
      rw [e0, if_pos q, if_neg (by decide), r_kindOf S hk8 p2 (by omega)]
      by_cases y : pt w k (18 + ph) = 115
      · simp only [y, q, and_self, if_true, q_inv S, rs_14 S hk8, bnd]
      · simp only [y, and_false, if_false]
    · rw [if_neg q, if_pos rfl, if_neg (fun z => q z.1)]
