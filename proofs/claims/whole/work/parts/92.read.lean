/-! readText, whole -/
def AtL (K N : Row) (r : Nat) (L : List (Int32 × Int32)) : Prop := ∀ j, j < L.length → K (r + j) = (L.getD j (0, 0)).1 ∧ N (r + j) = (L.getD j (0, 0)).2
def RDc (x : Nat) : Prop := x = 241 ∨ x = 249 ∨ x = 250
theorem r_rdL {m : Nat} (m60 : m ≤ 60) {C : Row} : ∀ (d p r n : Nat) (g : Hp), Sh g → hI g 241 7 = nI m → hI g 241 10 = nI r → hI g 246 = C → p ≤ m → m < p + d → d ≤ n → 2 * r ≤ p →
    ∃ g', s_X9_readText_L9 n 241 (nI p) (nI r) g = (match prs C m d p with
      | (q, none) => some (nI q, g')
      | (_, some _) => some (-5, g')) ∧ Fr RDc g g' ∧ hR g' = hR g ∧ (∀ k, k ≠ 10 → hI g' 241 k = hI g 241 k) ∧ (∀ j, j < r → hI g' 249 j = hI g 249 j ∧ hI g' 250 j = hI g 250 j) ∧
      (match prs C m d p with
      | (_, none) => True
      | (_, some L) => hI g' 241 10 = nI (r + L.length) ∧ r + L.length ≤ 30 ∧ AtL (hI g' 249) (hI g' 250) r L)
  | 0, p, r, n, g, S, hm, hr, hC, hp, hd, hn, hrp => by omega
  | d + 1, p, r, n, g, S, hm, hr, hC, hp, hd, hn, hrp => by
    obtain ⟨k, rfl⟩ : ∃ k, n = k + 1 := ⟨n - 1, by omega⟩
    rw [r_phase S hm m60 hp (by omega), hC]
    unfold prs
    cases ph : phR C m p with
    | mk q o =>
      cases o with
      | none => exact ⟨g, rfl, Fr.rfl', rfl, fun _ _ => rfl, fun _ _ => ⟨rfl, rfl⟩, trivial⟩
      | some kv =>
        obtain ⟨k1, v1⟩ := kv
        obtain ⟨s1, s2, -, -⟩ := phR_some ph
        have r30 : r < 30 := by omega
        have S3 : Sh (rdS g r k1 v1) := ((S.sI _ _ _).sI _ _ _).sI _ _ _
        have F3 : Fr RDc g (rdS g r k1 v1) := (((Fr.rfl' (P := RDc)).sI 249 _ _ (Or.inr (Or.inl rfl))).sI 250 _ _ (Or.inr (Or.inr rfl))).sI 241 _ _ (Or.inl rfl)
        have e1 : ∀ k, k ≠ 10 → hI (rdS g r k1 v1) 241 k = hI g 241 k := fun k hk => by
          unfold rdS
          rw [hI_sI, if_neg (fun z => hk z.2), hI_sIn _ _ _ _ _ (by omega), hI_sIn _ _ _ _ _ (by omega)]
        have e10 : hI (rdS g r k1 v1) 241 10 = nI (r + 1) := by
          unfold rdS
          rw [hI_sI, if_pos ⟨rfl, rfl⟩]
        have e49 : ∀ j, hI (rdS g r k1 v1) 249 j = if j = r then k1 else hI g 249 j := fun j => by
          unfold rdS
          rw [hI_sIn _ _ _ _ _ (by omega), hI_sIn _ _ _ _ _ (by omega), hI_sI]
          by_cases z : j = r
          · rw [if_pos ⟨rfl, z⟩, if_pos z]
          · rw [if_neg (fun y => z y.2), if_neg z]
        have e50 : ∀ j, hI (rdS g r k1 v1) 250 j = if j = r then v1 else hI g 250 j := fun j => by
          unfold rdS
          rw [hI_sIn _ _ _ _ _ (by omega), hI_sI]
          by_cases z : j = r
          · rw [if_pos ⟨rfl, z⟩, if_pos z]
          · rw [if_neg (fun y => z y.2), if_neg z, hI_sIn _ _ _ _ _ (by omega)]
        have e46 : hI (rdS g r k1 v1) 246 = C := by
          unfold rdS
          rw [hI_sIn _ _ _ _ _ (by omega), hI_sIn _ _ _ _ _ (by omega), hI_sIn _ _ _ _ _ (by omega)]
          exact hC
        have lo : ∀ j, j < r → hI (rdS g r k1 v1) 249 j = hI g 249 j ∧ hI (rdS g r k1 v1) 250 j = hI g 250 j := fun j hj => by
          rw [e49, e50, if_neg (by omega), if_neg (by omega)]
          exact ⟨rfl, rfl⟩
        simp only [r_J129 S hm m60 hr r30 s2, hC]
        by_cases q1 : q = m
        · simp only [if_pos q1]
          refine ⟨rdS g r k1 v1, rfl, F3, rfl, e1, lo, e10, by simp; omega, fun j hj => ?_⟩
          obtain rfl : j = 0 := by simp at hj; omega
          rw [e49, e50, if_pos (by omega), if_pos (by omega)]
          exact ⟨rfl, rfl⟩
        · simp only [if_neg q1]
          by_cases q2 : C q = 59
          · simp only [if_pos q2]
            obtain ⟨g', i1, i2, i3, i4, i5, i6⟩ := r_rdL m60 d (q + 1) (r + 1) k (rdS g r k1 v1) S3 ((e1 7 (by omega)).trans hm) e10 e46 (by omega) (by omega) (by omega) (by omega)
            rw [nI_1, i1]
            refine ⟨g', ?_, F3.trans i2, i3, fun k hk => (i4 k hk).trans (e1 k hk), fun j hj => ?_, ?_⟩
            · cases prs C m d (q + 1) with
              | mk f o2 => cases o2 <;> rfl
            · rw [(i5 j (by omega)).1, (i5 j (by omega)).2]
              exact lo j hj
            · cases hpr : prs C m d (q + 1) with
              | mk f o2 =>
                rw [hpr] at i6
                cases o2 with
                | none => trivial
                | some L =>
                  obtain ⟨j1, j2, j3⟩ := i6
                  refine ⟨?_, ?_, fun j hj => ?_⟩
                  · rw [j1]
                    show nI (r + 1 + L.length) = nI (r + (L.length + 1))
                    rw [show r + 1 + L.length = r + (L.length + 1) by omega]
                  · show r + (L.length + 1) ≤ 30
                    omega
                  · cases j with
                    | zero =>
                      rw [Nat.add_zero, (i5 r (by omega)).1, (i5 r (by omega)).2, e49, e50, if_pos rfl, if_pos rfl]
                      exact ⟨rfl, rfl⟩
                    | succ j =>
                      have hj' : j < L.length := by
                        have : j + 1 < L.length + 1 := hj
                        omega
                      have := j3 j hj'
                      rw [show r + 1 + j = r + (j + 1) by omega] at this
                      exact this
          · simp only [if_neg q2]
            exact ⟨rdS g r k1 v1, rfl, F3, rfl, e1, lo, trivial⟩
theorem phR_congr {C C' : Nat → Int32} {m : Nat} (h : ∀ k, k < m → C k = C' k) (p : Nat) : phR C m p = phR C' m p := by
  unfold phR
  by_cases h1 : p < m
  · rw [if_pos h1, if_pos h1, h p h1]
    by_cases h4 : p + 1 < m
    · rw [if_pos h4, if_pos h4, h _ h4]
      by_cases h6 : p + 2 < m
      · rw [if_pos h6, if_pos h6, h _ h6]
      · rw [if_neg h6, if_neg h6]
    · rw [if_neg h4, if_neg h4]
  · rw [if_neg h1, if_neg h1]
theorem prs_congr {C C' : Nat → Int32} {m : Nat} (h : ∀ k, k < m → C k = C' k) : ∀ (d p : Nat), prs C m d p = prs C' m d p
  | 0, _ => rfl
  | d + 1, p => by
    unfold prs
    rw [phR_congr h p]
    cases ph : phR C' m p with
    | mk q o =>
      cases o with
      | none => rfl
      | some kv =>
        obtain ⟨k1, v1⟩ := kv
        obtain ⟨s1, s2, -, -⟩ := phR_some ph
        by_cases q1 : q = m
        · simp only [if_pos q1]
        · simp only [if_neg q1, h q (by omega), prs_congr h d (q + 1)]
theorem prs_PV {C : Nat → Int32} {m : Nat} : ∀ (d p f : Nat) (L : List (Int32 × Int32)), prs C m d p = (f, some L) → L ≠ [] ∧ ∀ j, j < L.length → PV (L.getD j (0, 0)).1 (L.getD j (0, 0)).2
  | 0, p, f, L, h => by
    injection h with a b
    cases b
  | d + 1, p, f, L, h => by
    unfold prs at h
    cases ph : phR C m p with
    | mk q o =>
      rw [ph] at h
      cases o with
      | none =>
        injection h with a b
        cases b
      | some kv =>
        obtain ⟨k1, v1⟩ := kv
        obtain ⟨s1, s2, s3, -⟩ := phR_some ph
        by_cases q1 : q = m
        · simp only [if_pos q1] at h
          injection h with a b
          injection b with b
          subst b
          refine ⟨List.cons_ne_nil _ _, fun j hj => ?_⟩
          obtain rfl : j = 0 := by simp at hj; omega
          exact s3
        · simp only [if_neg q1] at h
          by_cases q2 : C q = 59
          · simp only [if_pos q2] at h
            cases hpr : prs C m d (q + 1) with
            | mk f' o2 =>
              rw [hpr] at h
              cases o2 with
              | none =>
                injection h with a b
                cases b
              | some L' =>
                injection h with a b
                injection b with b
                subst b
                refine ⟨List.cons_ne_nil _ _, fun j hj => ?_⟩
                cases j with
                | zero => exact s3
                | succ j =>
                  have hj' : j < L'.length := by
                    have : j + 1 < L'.length + 1 := hj
                    omega
                  exact (prs_PV d (q + 1) f' L' hpr).2 j hj'
          · simp only [if_neg q2] at h
            injection h with a b
            cases b
