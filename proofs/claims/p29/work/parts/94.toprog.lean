/-! toProgram: what is read -/
def PGc (P x : Nat) : Prop := x = P + 1 ∨ x = P + 2
theorem PO.fr {h h' : Hp} {P np : Nat} (F : Fr (PGc P) h h') (hr : hR h' = hR h) (O : PO h P np) : PO h' P np := by
  obtain ⟨e1, e2, e3, e4, e5, e6, e7⟩ := O
  exact ⟨by rw [F.1]; exact e1, by rw [hr]; exact e2, by rw [hr]; exact e3, by rw [(F.2.2 P (fun z => by unfold PGc at z; omega)).1]; exact e4, by rw [F.1]; exact e5, by rw [F.1]; exact e6, e7⟩
theorem tp_char {h : Hp} (S : Sh h) {m i n P np ph : Nat} (hm : hI h 239 1 = nI m) (m60 : m ≤ 60) (hi : i < m) (O : PO h P np) (hph : ph < np) (hc : ¬ hI h 240 i = 59 → ¬ dgA (hI h 240 i) = true → vp_nar .char (hI h 240 i) = hI h 240 i) :
    s_X5_toProgram_L18 (n + 1) 239 P (nI ph) (nI i) h = if hI h 240 i = 59 then s_X5_toProgram_L18 n 239 P (nI (ph + 1)) (nI (i + 1)) h else if dgA (hI h 240 i) then s_X5_toProgram_L18 n 239 P (nI ph) (nI (i + 1)) (sI h (P + 2) ph (10 * hI h (P + 2) ph + (hI h 240 i - 48))) else s_X5_toProgram_L18 n 239 P (nI ph) (nI (i + 1)) (sI h (P + 1) ph (hI h 240 i)) := by
  rw [s_X5_toProgram_L18, T_u1 S, hm, if_neg (by rw [nI_leE (by omega) (by omega)]; omega), T_u0 S, T_ul S (by omega), nI_1, nI_1]
  by_cases q1 : hI h 240 i = 59
  · rw [if_pos q1, if_pos q1]
  · rw [if_neg q1, if_neg q1, c_isDigit]
    by_cases q2 : dgA (hI h 240 i) = true
    · rw [if_pos q2, if_pos q2]
      simp only [bnd, show ((1 : Int32) = 0) = False from eq_false (by decide), if_false, inv, O.1, if_true, c_putDigit O hph]
    · rw [if_neg q2, if_neg q2]
      simp only [bnd, if_true, inv, O.1, c_putKind O hph (hc q1 q2)]
theorem isK_nar {c : Int32} (h : isK c = true) : vp_nar .char c = c := by
  rcases isK_is h with q | q | q | q <;> (subst q; decide)
theorem isK_ndg {c : Int32} (h : isK c = true) : ¬ dgA c = true := by
  rcases isK_is h with q | q | q | q <;> (subst q; decide)
theorem tp_kind {h : Hp} (S : Sh h) {m i n P np ph : Nat} (hm : hI h 239 1 = nI m) (m60 : m ≤ 60) (hi : i < m) (O : PO h P np) (hph : ph < np) (hk : isK (hI h 240 i) = true) :
    s_X5_toProgram_L18 (n + 1) 239 P (nI ph) (nI i) h = s_X5_toProgram_L18 n 239 P (nI ph) (nI (i + 1)) (sI h (P + 1) ph (hI h 240 i)) := by
  rw [tp_char S hm m60 hi O hph (fun _ _ => isK_nar hk), if_neg (fun z => by rw [z] at hk; exact absurd hk (by decide)), if_neg (isK_ndg hk)]
theorem tp_digit {h : Hp} (S : Sh h) {m i n P np ph : Nat} (hm : hI h 239 1 = nI m) (m60 : m ≤ 60) (hi : i < m) (O : PO h P np) (hph : ph < np) (hk : dgA (hI h 240 i) = true) :
    s_X5_toProgram_L18 (n + 1) 239 P (nI ph) (nI i) h = s_X5_toProgram_L18 n 239 P (nI ph) (nI (i + 1)) (sI h (P + 2) ph (10 * hI h (P + 2) ph + (hI h 240 i - 48))) := by
  rw [tp_char S hm m60 hi O hph (fun _ z => absurd hk z), if_neg (fun z => by rw [z] at hk; exact absurd hk (by decide)), if_pos hk]
theorem I32_tail (a b c : Int32) : a + (b - c) = a + b - c := by
  rw [Int32.sub_eq_add_neg, Int32.sub_eq_add_neg, Int32.add_assoc]
theorem tp_phase {h : Hp} (S : Sh h) {m p q n P np ph : Nat} {k v : Int32} (hm : hI h 239 1 = nI m) (m60 : m ≤ 60) (O : PO h P np) (hP : 246 ≤ P) (hph : ph < np) (h0 : hI h (P + 2) ph = 0) (hr : phR (hI h 240) m p = (q, some (k, v))) :
    ∃ n' h', n ≤ n' ∧ s_X5_toProgram_L18 (n + 1 + 1 + 1) 239 P (nI ph) (nI p) h = s_X5_toProgram_L18 n' 239 P (nI ph) (nI q) h' ∧ Fr (PGc P) h h' ∧ hR h' = hR h ∧ (∀ j, hI h' (P + 1) j = if j = ph then k else hI h (P + 1) j) ∧ ∀ j, hI h' (P + 2) j = if j = ph then v else hI h (P + 2) j := by
  have kA : PGc P (P + 1) := Or.inl rfl
  have kB : PGc P (P + 2) := Or.inr rfl
  have hp : p < m := by
    obtain ⟨s1, s2, -, -⟩ := phR_some hr
    omega
  unfold phR at hr
  rw [if_pos hp] at hr
  have eA : ∀ c, hI (sI h (P + 1) ph c) 240 = hI h 240 := fun c => hI_sIn _ _ _ _ _ (by omega)
  have eL : ∀ c, hI (sI h (P + 1) ph c) 239 1 = nI m := fun c => by rw [hI_sIn _ _ _ _ _ (by omega)]; exact hm
  have ek : ∀ c, ∀ j, hI (sI h (P + 1) ph c) (P + 1) j = if j = ph then c else hI h (P + 1) j := fun c j => by
    rw [hI_sI]
    by_cases z : j = ph
    · rw [if_pos ⟨rfl, z⟩, if_pos z]
    · rw [if_neg (fun y => z y.2), if_neg z]
  have e2 : ∀ c, hI (sI h (P + 1) ph c) (P + 2) = hI h (P + 2) := fun c => hI_sIn _ _ _ _ _ (by omega)
  have e3 : ∀ (g : Hp) c, ∀ j, hI (sI g (P + 2) ph c) (P + 2) j = if j = ph then c else hI g (P + 2) j := fun g c j => by
    rw [hI_sI]
    by_cases z : j = ph
    · rw [if_pos ⟨rfl, z⟩, if_pos z]
    · rw [if_neg (fun y => z y.2), if_neg z]
  by_cases h2 : hI h 240 p = 100
  · rw [if_pos h2] at hr
    injection hr with a b
    injection b with b
    injection b with b1 b2
    subst a b1 b2
    refine ⟨n + 1 + 1, sI h (P + 1) ph 100, by omega, ?_, Fr.rfl'.sI _ _ _ kA, rfl, ek 100, fun j => ?_⟩
    · rw [tp_char S hm m60 hp O hph (fun _ _ => by rw [h2]; decide), if_neg (by rw [h2]; decide), if_neg (by rw [h2]; decide), h2]
    · rw [e2]
      by_cases z : j = ph
      · rw [if_pos z, z, h0]
      · rw [if_neg z]
  · rw [if_neg h2] at hr
    by_cases h3 : isK (hI h 240 p) = true
    · rw [if_pos h3] at hr
      rw [tp_kind S hm m60 hp O hph h3]
      have S1 : Sh (sI h (P + 1) ph (hI h 240 p)) := S.sI _ _ _
      have O1 : PO (sI h (P + 1) ph (hI h 240 p)) P np := O.put (Or.inl rfl)
      by_cases h4 : p + 1 < m
      · rw [if_pos h4] at hr
        by_cases h5 : dgB (hI h 240 (p + 1)) = true
        · rw [if_pos h5] at hr
          rw [tp_digit S1 (eL _) m60 h4 O1 hph (by rw [eA]; exact dgB_A h5), eA, e2, h0, show (10 : Int32) * 0 = 0 by decide, Int32.zero_add]
          have S2 : Sh (sI (sI h (P + 1) ph (hI h 240 p)) (P + 2) ph (hI h 240 (p + 1) - 48)) := S1.sI _ _ _
          have O2 : PO (sI (sI h (P + 1) ph (hI h 240 p)) (P + 2) ph (hI h 240 (p + 1) - 48)) P np := O1.put (Or.inr rfl)
          have F2 : Fr (PGc P) h (sI (sI h (P + 1) ph (hI h 240 p)) (P + 2) ph (hI h 240 (p + 1) - 48)) := (Fr.rfl'.sI _ _ _ kA).sI _ _ _ kB
          have one : ∀ q' v', (p + 2, some (hI h 240 p, hI h 240 (p + 1) - 48)) = (q', some (k, v')) → q' = q → v' = v → ∃ n' h', n ≤ n' ∧ s_X5_toProgram_L18 (n + 1) 239 P (nI ph) (nI (p + 1 + 1)) (sI (sI h (P + 1) ph (hI h 240 p)) (P + 2) ph (hI h 240 (p + 1) - 48)) = s_X5_toProgram_L18 n' 239 P (nI ph) (nI q) h' ∧ Fr (PGc P) h h' ∧ hR h' = hR h ∧ (∀ j, hI h' (P + 1) j = if j = ph then k else hI h (P + 1) j) ∧ ∀ j, hI h' (P + 2) j = if j = ph then v else hI h (P + 2) j := fun q' v' e eq ev => by
            injection e with a b
            injection b with b
            injection b with b1 b2
            subst eq ev a b1 b2
            refine ⟨n + 1, _, by omega, rfl, F2, rfl, fun j => ?_, fun j => ?_⟩
            · rw [hI_sIn _ _ _ _ _ (by omega)]
              exact ek _ j
            · rw [e3, e2]
          by_cases h6 : p + 2 < m
          · rw [if_pos h6] at hr
            by_cases h7 : dgA (hI h 240 (p + 2)) = true
            · rw [if_pos h7] at hr
              injection hr with a b
              injection b with b
              injection b with b1 b2
              subst a b1 b2
              have e240 : hI (sI (sI h (P + 1) ph (hI h 240 p)) (P + 2) ph (hI h 240 (p + 1) - 48)) 240 = hI h 240 := by rw [hI_sIn _ _ _ _ _ (by omega), eA]
              refine ⟨n, _, Nat.le_refl _, (tp_digit S2 (by rw [hI_sIn _ _ _ _ _ (by omega)]; exact eL _) m60 h6 O2 hph (by rw [e240]; exact h7)).trans rfl, F2.sI _ _ _ kB, rfl, fun j => ?_, fun j => ?_⟩
              · rw [hI_sIn _ _ _ _ _ (by omega), hI_sIn _ _ _ _ _ (by omega)]
                exact ek _ j
              · rw [e3, e3, if_pos rfl, e3, e2, show hI (sI (sI h (P + 1) ph (hI h 240 p)) (P + 2) ph (hI h 240 (p + 1) - 48)) 240 (p + 1 + 1) = hI h 240 (p + 2) from by rw [e240], I32_tail]
                by_cases z : j = ph
                · rw [if_pos z, if_pos z]
                · rw [if_neg z, if_neg z, if_neg z]
            · rw [if_neg h7] at hr
              exact one q v hr rfl rfl
          · rw [if_neg h6] at hr
            exact one q v hr rfl rfl
        · rw [if_neg h5] at hr
          injection hr with a b
          cases b
      · rw [if_neg h4] at hr
        injection hr with a b
        cases b
    · rw [if_neg h3] at hr
      injection hr with a b
      cases b
theorem tp_end {h : Hp} (S : Sh h) {m i n P : Nat} {x : Int32} (hm : hI h 239 1 = nI m) (m60 : m ≤ 60) (hi : i = m) : s_X5_toProgram_L18 (n + 1) 239 P x (nI i) h = some (P, h) := by
  rw [s_X5_toProgram_L18, T_u1 S, hm, if_pos (by rw [nI_leE (by omega) (by omega)]; omega)]
  rfl
theorem tp_L {P np m : Nat} (hP : 246 ≤ P) (m60 : m ≤ 60) {C : Row} : ∀ (d p f ph n : Nat) (h : Hp) (L : List (Int32 × Int32)), prs C m d p = (f, some L) → Sh h → hI h 239 1 = nI m → hI h 240 = C → p ≤ m → 4 * d ≤ n → PO h P np → ph + L.length ≤ np → (∀ j, ph ≤ j → j < np → hI h (P + 2) j = 0) →
    ∃ h', s_X5_toProgram_L18 n 239 P (nI ph) (nI p) h = some (P, h') ∧ Fr (PGc P) h h' ∧ hR h' = hR h ∧ (∀ j, j < ph → hI h' (P + 1) j = hI h (P + 1) j ∧ hI h' (P + 2) j = hI h (P + 2) j) ∧ AtL (hI h' (P + 1)) (hI h' (P + 2)) ph L
  | 0, p, f, ph, n, h, L, e, S, hm, hC, hp, hn, O, hl, hz => by
    injection e with a b
    cases b
  | d + 1, p, f, ph, n, h, L, e, S, hm, hC, hp, hn, O, hl, hz => by
    have e' := e
    unfold prs at e
    cases pr : phR C m p with
    | mk q o =>
      rw [pr] at e
      cases o with
      | none =>
        injection e with a b
        cases b
      | some kv =>
        obtain ⟨k1, v1⟩ := kv
        obtain ⟨s1, s2, -, -⟩ := phR_some pr
        obtain ⟨n1, rfl⟩ : ∃ n1, n = n1 + 1 + 1 + 1 + 1 := ⟨n - 4, by omega⟩
        have l0 : L.length ≠ 0 := fun z => (prs_PV (d + 1) p f L e').1 (List.length_eq_zero_iff.mp z)
        obtain ⟨n', h1, t1, t2, t3, t4, t5, t6⟩ := tp_phase (n := n1 + 1) S hm m60 O hP (show ph < np by omega) (hz ph (Nat.le_refl _) (by omega)) (by rw [hC]; exact pr)
        have S1 : Sh h1 := S.of t4 t3.1 (Nat.le_of_eq t3.2.1.symm)
        have hm1 : hI h1 239 1 = nI m := by rw [(t3.2.2 239 (fun z => by unfold PGc at z; omega)).1]; exact hm
        have hC1 : hI h1 240 = C := by rw [(t3.2.2 240 (fun z => by unfold PGc at z; omega)).1]; exact hC
        have O1 : PO h1 P np := O.fr t3 t4
        obtain ⟨n2, rfl⟩ : ∃ n2, n' = n2 + 1 := ⟨n' - 1, by omega⟩
        rw [t2]
        by_cases q1 : q = m
        · simp only [if_pos q1] at e
          injection e with a b
          injection b with b
          subst b
          refine ⟨h1, tp_end S1 hm1 m60 q1, t3, t4, fun j hj => ?_, fun j hj => ?_⟩
          · rw [t5, t6, if_neg (by omega), if_neg (by omega)]
            exact ⟨rfl, rfl⟩
          · obtain rfl : j = 0 := by simp at hj; omega
            rw [t5, t6, if_pos (by omega), if_pos (by omega)]
            exact ⟨rfl, rfl⟩
        · simp only [if_neg q1] at e
          by_cases q2 : C q = 59
          · simp only [if_pos q2] at e
            cases hpr : prs C m d (q + 1) with
            | mk f' o2 =>
              rw [hpr] at e
              cases o2 with
              | none =>
                injection e with a b
                cases b
              | some L' =>
                injection e with a b
                injection b with b
                subst b
                have ll : (((k1, v1) : Int32 × Int32) :: L').length = L'.length + 1 := rfl
                obtain ⟨h', i1, i2, i3, i4, i5⟩ := tp_L hP m60 d (q + 1) f' (ph + 1) n2 h1 L' hpr S1 hm1 hC1 (by omega) (by omega) O1 (by omega) (fun j j1 j2 => by rw [t6, if_neg (by omega)]; exact hz j (by omega) j2)
                refine ⟨h', ?_, t3.trans i2, i3.trans t4, fun j hj => ?_, fun j hj => ?_⟩
                · rw [tp_char S1 hm1 m60 (show q < m by omega) O1 (show ph < np by omega) (fun z => absurd (by rw [hC1]; exact q2) z), if_pos (by rw [hC1]; exact q2)]
                  exact i1
                · rw [(i4 j (by omega)).1, (i4 j (by omega)).2, t5, t6, if_neg (by omega), if_neg (by omega)]
                  exact ⟨rfl, rfl⟩
                · cases j with
                  | zero =>
                    show hI h' (P + 1) ph = k1 ∧ hI h' (P + 2) ph = v1
                    rw [(i4 ph (by omega)).1, (i4 ph (by omega)).2, t5, t6, if_pos rfl, if_pos rfl]
                    exact ⟨rfl, rfl⟩
                  | succ j =>
                    have := i5 j (by omega)
                    rw [show ph + 1 + j = ph + (j + 1) by omega] at this
                    exact this
          · simp only [if_neg q2] at e
            injection e with a b
            cases b
