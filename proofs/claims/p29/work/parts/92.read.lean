/-! readText, whole -/
def AtL (K N : Row) (r : Nat) (L : List (Int32 × Int32)) : Prop := ∀ j, j < L.length → K (r + j) = (L.getD j (0, 0)).1 ∧ N (r + j) = (L.getD j (0, 0)).2
theorem phR_congr {C C' : Nat → Int32} {m : Nat} (h : ∀ k, k < m → C k = C' k) (p : Nat) : phR C m p = phR C' m p := by
  unfold phR
  by_cases h1 : p < m
  · rw [if_pos h1, if_pos h1, h p h1]
    by_cases h4 : p + 1 < m
    · rw [if_pos h4, if_pos h4, h _ h4]
      by_cases h6 : p + 2 < m
      · rw [if_pos h6, if_pos h6, h _ h6]
      · rw [if_neg h6, if_neg h6]
    · rw [if_neg h4, if_neg h4]
  · rw [if_neg h1, if_neg h1]
theorem prs_congr {C C' : Nat → Int32} {m : Nat} (h : ∀ k, k < m → C k = C' k) : ∀ (d p : Nat), prs C m d p = prs C' m d p
  | 0, _ => rfl
  | d + 1, p => by
    unfold prs
    rw [phR_congr h p]
    cases ph : phR C' m p with
    | mk q o =>
      cases o with
      | none => rfl
      | some kv =>
        obtain ⟨k1, v1⟩ := kv
        obtain ⟨s1, s2, -, -⟩ := phR_some ph
        by_cases q1 : q = m
        · simp only [if_pos q1]
        · simp only [if_neg q1, h q (by omega), prs_congr h d (q + 1)]
theorem prs_PV {C : Nat → Int32} {m : Nat} : ∀ (d p f : Nat) (L : List (Int32 × Int32)), prs C m d p = (f, some L) → L ≠ [] ∧ ∀ j, j < L.length → PV (L.getD j (0, 0)).1 (L.getD j (0, 0)).2
  | 0, p, f, L, h => by
    injection h with a b
    cases b
  | d + 1, p, f, L, h => by
    unfold prs at h
    cases ph : phR C m p with
    | mk q o =>
      rw [ph] at h
      cases o with
      | none =>
        injection h with a b
        cases b
      | some kv =>
        obtain ⟨k1, v1⟩ := kv
        obtain ⟨s1, s2, s3, -⟩ := phR_some ph
        by_cases q1 : q = m
        · simp only [if_pos q1] at h
          injection h with a b
          injection b with b
          subst b
          refine ⟨List.cons_ne_nil _ _, fun j hj => ?_⟩
          obtain rfl : j = 0 := by simp at hj; omega
          exact s3
        · simp only [if_neg q1] at h
          by_cases q2 : C q = 59
          · simp only [if_pos q2] at h
            cases hpr : prs C m d (q + 1) with
            | mk f' o2 =>
              rw [hpr] at h
              cases o2 with
              | none =>
                injection h with a b
                cases b
              | some L' =>
                injection h with a b
                injection b with b
                subst b
                refine ⟨List.cons_ne_nil _ _, fun j hj => ?_⟩
                cases j with
                | zero => exact s3
                | succ j =>
                  have hj' : j < L'.length := by
                    have : j + 1 < L'.length + 1 := hj
                    omega
                  exact (prs_PV d (q + 1) f' L' hpr).2 j hj'
          · simp only [if_neg q2] at h
            injection h with a b
            cases b
