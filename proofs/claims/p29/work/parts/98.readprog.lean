/-! readProgram, both sides -/
theorem PO.rec {h h' : Hp} {P np : Nat} (hP : 246 ≤ P) (ht : hT h' = hT h) (hr : ∀ x, 246 ≤ x → hR h' x = hR h x) (hi : ∀ x, 242 ≤ x → hI h' x = hI h x) (O : PO h P np) : PO h' P np := by
  obtain ⟨e1, e2, e3, e4, e5, e6, e7⟩ := O
  exact ⟨by rw [ht]; exact e1, by rw [hr P hP]; exact e2, by rw [hr P hP]; exact e3, by rw [hi P (by omega)]; exact e4, by rw [ht]; exact e5, by rw [ht]; exact e6, e7⟩
/-- the class's last step: the washer has another program -/
theorem c_setProg {g : Hp} {w : Row} {n nl i P : Nat} {L : List (Int32 × Int32)} (S : Sh g) (R : SR g 2 w n nl) (hi : i < n) (hP : 246 ≤ P) (hPn : P + 2 ≤ hN g) (hl : L.length ≤ 12) (O : PO g P L.length) (A : AtL (hI g (P + 1)) (hI g (P + 2)) 0 L) :
    Ch (fun x => x = 2 + 8 + 2 * i) g (sR g (2 + 8 + 2 * i) 0 P) ∧ Sh (sR g (2 + 8 + 2 * i) 0 P) ∧ SR (sR g (2 + 8 + 2 * i) 0 P) 2 (prgW w i L) n nl := by
  have st2 : isSt 2 := Or.inl rfl
  have n8 := R.n8
  have hi8 : i < 8 := by omega
  have c1 : Ch (fun x => x = 2 + 8 + 2 * i) g (sR g (2 + 8 + 2 * i) 0 P) := (Ch.rfl' (P := fun x => x = 2 + 8 + 2 * i)).sR _ _ _ rfl
  have S1 : Sh (sR g (2 + 8 + 2 * i) 0 P) := S.wr rfl (Nat.le_refl _) (fun x hx _ => hR_sRn _ _ _ _ _ (fun z => hx ⟨2, i, st2, hi8, z⟩))
  refine ⟨c1, S1, SR.washer st2 S R hi c1 (fun j hj _ => prgW_off w i hl hj) (fun k hk => prgW_lo w i hl (by omega) (by omega)) ?_⟩
  obtain ⟨⟨a1, a2, a3, a4, a5, a6⟩, -⟩ := (R.hr hi).w
  refine ⟨⟨?_, fun z => ?_, ?_, ?_, ?_, ?_⟩, ?_⟩
  · rw [prgW_lo w i hl (by omega) (by omega)]; exact a1
  · rw [prgW_lo w i hl (by omega) (by omega)] at z
    rw [prgW_lo w i hl (by omega) (by omega), prgW_lo w i hl (by omega) (by omega)]
    exact a2 z
  · rw [prgW_lo w i hl (by omega) (by omega)]; exact a3
  · rw [prgW_lo w i hl (by omega) (by omega)]; exact a4
  · rw [prgW_lo w i hl (by omega) (by omega)]; exact a5
  · rw [prgW_lo w i hl (by omega) (by omega)]; exact a6
  · have eP : hR (sR g (2 + 8 + 2 * i) 0 P) (2 + 8 + 2 * i) 0 = P := by rw [hR_sR, if_pos ⟨rfl, rfl⟩]
    rw [eP]
    obtain ⟨e1, e2, e3, e4, e5, e6, e7⟩ := O
    have nP : P ≠ 2 + 8 + 2 * i := by omega
    refine ⟨Or.inl hP, hPn, L.length, hl, prgW_15 w i L, ⟨e1, by rw [hR_sRn _ _ _ _ _ nP]; exact e2, by rw [hR_sRn _ _ _ _ _ nP]; exact e3, e4, e5, e6, e7⟩, fun k hk => ?_⟩
    have x := A k hk
    rw [Nat.zero_add] at x
    have y := prgW_k w i hl hk
    unfold pt at y
    rw [Nat.add_assoc _ 18 k, Nat.add_assoc _ 30 k, y.1, y.2]
    exact x
theorem phR_none {C : Nat → Int32} {m p q : Nat} (h : phR C m p = (q, none)) (hp : p ≤ m) : q ≤ m := by
  unfold phR at h
  by_cases h1 : p < m
  · rw [if_pos h1] at h
    by_cases h2 : C p = 100
    · rw [if_pos h2] at h
      injection h with a b
      cases b
    · rw [if_neg h2] at h
      by_cases h3 : isK (C p) = true
      · rw [if_pos h3] at h
        by_cases h4 : p + 1 < m
        · rw [if_pos h4] at h
          by_cases h5 : dgB (C (p + 1)) = true
          · rw [if_pos h5] at h
            by_cases h6 : p + 2 < m
            · rw [if_pos h6] at h
              by_cases h7 : dgA (C (p + 2)) = true
              · rw [if_pos h7] at h
                injection h with a b
                cases b
              · rw [if_neg h7] at h
                injection h with a b
                cases b
            · rw [if_neg h6] at h
              injection h with a b
              cases b
          · rw [if_neg h5] at h
            injection h with a b
            omega
        · rw [if_neg h4] at h
          injection h with a b
          omega
      · rw [if_neg h3] at h
        injection h with a b
        omega
  · rw [if_neg h1] at h
    injection h with a b
    omega
theorem prs_none {C : Nat → Int32} {m : Nat} : ∀ (d p f : Nat), prs C m d p = (f, none) → p ≤ m → f ≤ m
  | 0, p, f, h, hp => by
    injection h with a b
    omega
  | d + 1, p, f, h, hp => by
    unfold prs at h
    cases ph : phR C m p with
    | mk q o =>
      rw [ph] at h
      cases o with
      | none =>
        injection h with a b
        have := phR_none ph hp
        omega
      | some kv =>
        obtain ⟨k1, v1⟩ := kv
        obtain ⟨s1, s2, s3, -⟩ := phR_some ph
        by_cases q1 : q = m
        · simp only [if_pos q1] at h
          injection h with a b
          cases b
        · simp only [if_neg q1] at h
          by_cases q2 : C q = 59
          · simp only [if_pos q2] at h
            cases hpr : prs C m d (q + 1) with
            | mk f' o2 =>
              rw [hpr] at h
              cases o2 with
              | none =>
                injection h with a b
                have := prs_none d (q + 1) f' hpr (by omega)
                omega
              | some L' =>
                injection h with a b
                cases b
          · simp only [if_neg q2] at h
            injection h with a b
            omega
