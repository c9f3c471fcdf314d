/-! questions: house, lease -/
theorem Sh.getH {h : Hp} (S : Sh h) {i : Nat} (hi : i < 8) {α : Type} (k : Nat) (f : Int32 → Option α) : getI h (2 + 7 + 2 * i) 2 k f = f (hI h (2 + 7 + 2 * i) k) := by
  simp only [getI, S.tH (show isSt 2 from Or.inl rfl) hi, if_true]
theorem inL_of {a : Int32} {n : Nat} (h8 : n ≤ 10) (q : 0 ≤ a ∧ a ≤ nI n - 1) : ∃ i, a = nI i ∧ i < n := by
  obtain ⟨m, rfl, hm⟩ := nI_ofI q.1
  refine ⟨m, rfl, ?_⟩
  have := Int32.le_iff_toInt_le.mp q.2
  rw [show (1 : Int32) = nI 1 from rfl, nI_subT (by omega) (by omega), nI_toInt hm] at this
  omega
