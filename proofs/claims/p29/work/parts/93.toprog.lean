/-! toProgram: its loops -/
theorem tp_no59 {C : Nat → Int32} {m p q : Nat} {kv : Int32 × Int32} (h : phR C m p = (q, some kv)) : ∀ i, p ≤ i → i < q → C i ≠ 59 := by
  have nk : ∀ c : Int32, isK c = true → c ≠ 59 := fun c hc z => by rw [z] at hc; exact absurd hc (by decide)
  have nd : ∀ c : Int32, dgA c = true → c ≠ 59 := fun c hc z => by rw [z] at hc; exact absurd hc (by decide)
  unfold phR at h
  by_cases h1 : p < m
  · rw [if_pos h1] at h
    by_cases h2 : C p = 100
    · rw [if_pos h2] at h
      injection h with a b
      intro i i1 i2
      obtain rfl : i = p := by omega
      rw [h2]
      decide
    · rw [if_neg h2] at h
      by_cases h3 : isK (C p) = true
      · rw [if_pos h3] at h
        by_cases h4 : p + 1 < m
        · rw [if_pos h4] at h
          by_cases h5 : dgB (C (p + 1)) = true
          · rw [if_pos h5] at h
            have two : ∀ i, p ≤ i → i < p + 2 → C i ≠ 59 := fun i i1 i2 => by
              rcases (show i = p ∨ i = p + 1 by omega) with rfl | rfl
              · exact nk _ h3
              · exact nd _ (dgB_A h5)
            by_cases h6 : p + 2 < m
            · rw [if_pos h6] at h
              by_cases h7 : dgA (C (p + 2)) = true
              · rw [if_pos h7] at h
                injection h with a b
                intro i i1 i2
                by_cases z : i = p + 2
                · rw [z]; exact nd _ h7
                · exact two i i1 (by omega)
              · rw [if_neg h7] at h
                injection h with a b
                intro i i1 i2
                exact two i i1 (by omega)
            · rw [if_neg h6] at h
              injection h with a b
              intro i i1 i2
              exact two i i1 (by omega)
          · rw [if_neg h5] at h
            injection h with a b
            cases b
        · rw [if_neg h4] at h
          injection h with a b
          cases b
      · rw [if_neg h3] at h
        injection h with a b
        cases b
  · rw [if_neg h1] at h
    injection h with a b
    cases b
theorem sep_step {h : Hp} (S : Sh h) {m i n x : Nat} (hm : hI h 239 1 = nI m) (m60 : m ≤ 60) (hi : i < m) : s_X5_separators_L4 (n + 1) 239 (nI x) (nI i) h = if hI h 240 i = 59 then s_X5_separators_L4 n 239 (nI (x + 1)) (nI (i + 1)) h else s_X5_separators_L4 n 239 (nI x) (nI (i + 1)) h := by
  rw [s_X5_separators_L4, T_u1 S, hm, if_neg (by rw [nI_leE (by omega) (by omega)]; omega), T_u0 S, T_ul S (by omega), nI_1, nI_1, Int32.add_zero]
theorem sep_skip {h : Hp} (S : Sh h) {m q n x : Nat} (hm : hI h 239 1 = nI m) (m60 : m ≤ 60) (hq : q ≤ m) : ∀ (d p : Nat), p + d = q → (∀ i, p ≤ i → i < q → hI h 240 i ≠ 59) → s_X5_separators_L4 (n + d) 239 (nI x) (nI p) h = s_X5_separators_L4 n 239 (nI x) (nI q) h
  | 0, p, e, H => by
    obtain rfl : p = q := by omega
    rfl
  | d + 1, p, e, H => by
    show s_X5_separators_L4 (n + d + 1) 239 (nI x) (nI p) h = _
    rw [sep_step S hm m60 (by omega), if_neg (H p (Nat.le_refl _) (by omega))]
    exact sep_skip S hm m60 hq d (p + 1) (by omega) (fun i i1 i2 => H i (by omega) i2)
theorem sep_end {h : Hp} (S : Sh h) {m i n x : Nat} (hm : hI h 239 1 = nI m) (m60 : m ≤ 60) (hi : i = m) : s_X5_separators_L4 (n + 1) 239 (nI x) (nI i) h = some (nI x, h) := by
  rw [s_X5_separators_L4, T_u1 S, hm, if_pos (by rw [nI_leE (by omega) (by omega)]; omega)]
  rfl
theorem sep_L {h : Hp} (S : Sh h) {m : Nat} (hm : hI h 239 1 = nI m) (m60 : m ≤ 60) : ∀ (d p f n x : Nat) (L : List (Int32 × Int32)), prs (hI h 240) m d p = (f, some L) → p ≤ m → m - p < n → s_X5_separators_L4 n 239 (nI x) (nI p) h = some (nI (x + (L.length - 1)), h)
  | 0, p, f, n, x, L, e, _, _ => by
    injection e with a b
    cases b
  | d + 1, p, f, n, x, L, e, hp, hn => by
    unfold prs at e
    cases ph : phR (hI h 240) m p with
    | mk q o =>
      rw [ph] at e
      cases o with
      | none =>
        injection e with a b
        cases b
      | some kv =>
        obtain ⟨k1, v1⟩ := kv
        obtain ⟨s1, s2, -, -⟩ := phR_some ph
        obtain ⟨n1, rfl⟩ : ∃ n1, n = n1 + 1 + (q - p) := ⟨n - 1 - (q - p), by omega⟩
        rw [sep_skip S hm m60 s2 (q - p) p (by omega) (tp_no59 ph)]
        by_cases q1 : q = m
        · simp only [if_pos q1] at e
          injection e with a b
          injection b with b
          subst b
          rw [sep_end S hm m60 q1]
          rfl
        · simp only [if_neg q1] at e
          by_cases q2 : hI h 240 q = 59
          · simp only [if_pos q2] at e
            rw [sep_step S hm m60 (by omega), if_pos q2]
            cases hpr : prs (hI h 240) m d (q + 1) with
            | mk f' o2 =>
              rw [hpr] at e
              cases o2 with
              | none =>
                injection e with a b
                cases b
              | some L' =>
                injection e with a b
                injection b with b
                subst b
                rw [sep_L S hm m60 d (q + 1) f' n1 (x + 1) L' hpr (by omega) (by omega)]
                have l0 : L'.length ≠ 0 := fun z => (prs_PV d (q + 1) f' L' hpr).1 (List.length_eq_zero_iff.mp z)
                show some (nI (x + 1 + (L'.length - 1)), h) = some (nI (x + (L'.length + 1 - 1)), h)
                rw [show x + 1 + (L'.length - 1) = x + (L'.length + 1 - 1) by omega]
          · simp only [if_neg q2] at e
            injection e with a b
            cases b
theorem c_putKind {h : Hp} {P np k : Nat} (O : PO h P np) (hk : k < np) {c : Int32} (hc : vp_nar .char c = c) : s_X4_putKind P (nI k) c h = some ((), sI h (P + 1) k c) := by
  have O' := O
  obtain ⟨e1, e2, e3, e4, e5, e6, e7⟩ := O
  unfold s_X4_putKind
  simp only [inv, e1, if_true, c_hasPhase O' (show k < 2 ^ 31 by omega), bnd, if_pos hk, show ((1 : Int32) = 0) = False from eq_false (by decide), if_false, getR, e2, stI, e5, true_and, nI_ge0 (show k < 2 ^ 31 by omega), nI_clamp (show k < 2 ^ 31 by omega), hk, hc, retU, show ¬ (P + 1 = 0) by omega, ne_eq, not_false_eq_true]
theorem c_putDigit {h : Hp} {P np k : Nat} (O : PO h P np) (hk : k < np) (c : Int32) : s_X4_putDigit P (nI k) c h = some ((), sI h (P + 2) k (10 * hI h (P + 2) k + c)) := by
  have O' := O
  obtain ⟨e1, e2, e3, e4, e5, e6, e7⟩ := O
  unfold s_X4_putDigit
  simp only [inv, e1, if_true, c_hasPhase O' (show k < 2 ^ 31 by omega), bnd, if_pos hk, show ((1 : Int32) = 0) = False from eq_false (by decide), if_false, getR, e3, stI, ldI, e6, true_and, nI_ge0 (show k < 2 ^ 31 by omega), nI_clamp (show k < 2 ^ 31 by omega), hk, retU, show ¬ (P + 2 = 0) by omega, ne_eq, not_false_eq_true]
theorem PO.put {h : Hp} {P np a k : Nat} {v : Int32} (ha : a = P + 1 ∨ a = P + 2) (O : PO h P np) : PO (sI h a k v) P np := by
  obtain ⟨e1, e2, e3, e4, e5, e6, e7⟩ := O
  exact ⟨e1, e2, e3, by rw [hI_sIn _ _ _ _ _ (by omega)]; exact e4, e5, e6, e7⟩
