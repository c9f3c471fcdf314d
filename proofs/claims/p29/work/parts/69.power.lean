/-! power, whole -/
theorem c_powL {n nl t : Nat} {v1 : Int32} (hv : v1 ≠ 0) : ∀ (d k f : Nat) (h : Hp) (w : Row), k + d = n → d < f → Sh h → SR h 2 w n nl → WF w n nl t →
    ∃ h', s_X6_switchPower_L7 f 2 v1 (nI k) h = some ((), h') ∧ Fr (ST 2) h h' ∧ hR h' = hR h ∧ SR h' 2 (itF spinF k d w) n nl ∧ WF (itF spinF k d w) n nl t
  | 0, k, f, h, w, hk, hf, S, R, F => by
    obtain ⟨m, rfl, -⟩ := fuel_succ hf
    have n8 := R.n8
    have e3 : hI h 2 3 = nI n := by rw [R.2.1.1, R.1.1]
    refine ⟨h, ?_, Fr.rfl', rfl, R, F⟩
    rw [s_X6_switchPower_L7]
    simp only [hv, if_false, get6 S, e3, nI_leE (show n < 2 ^ 31 by omega) (show k < 2 ^ 31 by omega), show n ≤ k by omega, if_true]
    rfl
  | d + 1, k, f, h, w, hk, hf, S, R, F => by
    obtain ⟨m, rfl, hm⟩ := fuel_succ hf
    have n8 := R.n8
    have hk8 : k < 8 := by omega
    have e3 : hI h 2 3 = nI n := by rw [R.2.1.1, R.1.1]
    obtain ⟨h1, a1, a2, a3, a4⟩ := c_spin S R (show k < n by omega) (F.2.2.2.2.1 k (by omega))
    have S1 : Sh h1 := S.of a3 a2.1 (Nat.le_of_eq a2.2.1.symm)
    obtain ⟨h', b1, b2, b3, b4, b5⟩ := c_powL hv d (k + 1) m h1 (spinF w k) (by omega) (by omega) S1 a4 (F.spin (by omega))
    refine ⟨h', ?_, (a2.mono (fun x hx => by rw [hx]; exact ST.W hk8)).trans b2, b3.trans a3, b4, b5⟩
    rw [s_X6_switchPower_L7]
    simp only [hv, if_false, get6 S, e3, nI_leE (show n < 2 ^ 31 by omega) (show k < 2 ^ 31 by omega), show ¬ (n ≤ k) by omega, inv6 S, c_washerOf S (show isSt 2 from Or.inl rfl) hk8, bnd, invW S hk8, a1, nI_1]
    exact b1
