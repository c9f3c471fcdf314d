/-! set, both sides -/
theorem ldS_nI {α : Type} (tb : Nat → Int32) {k : Nat} (hk : k < 4) (f : Int32 → Option α) : ldS tb (nI k) f = f (tb k) := by
  unfold ldS
  rw [nI_clamp (by omega), if_pos ⟨nI_pos' (by omega), hk⟩]
