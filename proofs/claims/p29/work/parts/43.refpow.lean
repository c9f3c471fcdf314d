/-! the reference's minute, whole -/
theorem gI_upd0 {b : Row} {k : Nat} (hb : ∀ i, i < k ∨ 8 ≤ i → b i = 0) : ∀ i, i < k + 1 ∨ 8 ≤ i → upd b k 0 i = 0 := fun i hi => by
  unfold upd
  split
  · rfl
  · exact hb i (by omega)
