/-! set, the call -/
theorem setW {w : Row} {k : Nat} {a2 : Int32} (hk : k < 4) (B : WB w) (hb : leastS k ≤ a2 ∧ a2 ≤ mostS k) : WB (upd w (3 + k) a2) := by
  obtain ⟨B1, B2, B3, B4⟩ := B
  rcases (show k = 0 ∨ k = 1 ∨ k = 2 ∨ k = 3 by omega) with rfl | rfl | rfl | rfl
  · obtain ⟨m, rfl, m1, m2⟩ := win_of (lo := 1000) (hi := 60000) (by omega) (by omega) hb
    exact ⟨⟨m, upd_eq _ _ _, m2⟩, by rw [upd_ne _ _ (by omega)]; exact B2, by rw [upd_ne _ _ (by omega)]; exact B3, by rw [upd_ne _ _ (by omega)]; exact B4⟩
  · obtain ⟨m, rfl, m1, m2⟩ := win_of (lo := 0) (hi := 900) (by omega) (by omega) hb
    exact ⟨by rw [upd_ne _ _ (by omega)]; exact B1, ⟨m, upd_eq _ _ _, m2⟩, by rw [upd_ne _ _ (by omega)]; exact B3, by rw [upd_ne _ _ (by omega)]; exact B4⟩
  · obtain ⟨m, rfl, m1, m2⟩ := win_of (lo := 10) (hi := 2000) (by omega) (by omega) hb
    exact ⟨by rw [upd_ne _ _ (by omega)]; exact B1, by rw [upd_ne _ _ (by omega)]; exact B2, ⟨m, upd_eq _ _ _, m2⟩, by rw [upd_ne _ _ (by omega)]; exact B4⟩
  · exact ⟨by rw [upd_ne _ _ (by omega)]; exact B1, by rw [upd_ne _ _ (by omega)]; exact B2, by rw [upd_ne _ _ (by omega)]; exact B3, by rw [upd_ne _ _ (by omega)]; exact B4⟩
