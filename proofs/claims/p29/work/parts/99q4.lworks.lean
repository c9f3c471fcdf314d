/-! the law's works, whole; what it keeps -/
theorem w2_pt (w : Row) (i : Nat) (K M g : Int32) {c : Nat} (h11 : c ≠ 11) (h12 : c ≠ 12) (h14 : c ≠ 14) (h16 : c ≠ 16) (h17 : c ≠ 17) : pt (incF (chgF w i K M g) i) i c = pt w i c := by
  rw [incF_pt, if_neg h14]
  exact chgF_pt w i K M g h11 h12 h16 h17
theorem GH.works {w : Row} {i t : Nat} (H : WH w i t) (G : GH w i) (h9 : pt w i 9 = 1) (g : Int32) : GH (worksF w i g) i := by
  obtain ⟨-, -, -, np, n3, n4, n5, n6⟩ := H
  obtain ⟨ph, p1, p2, -⟩ := n6 h9
  have e0 : phN w i = ph := by unfold phN; rw [p2, nI_clamp (by omega)]; omega
  unfold worksF
  rw [e0]
  by_cases st : (pt w i (18 + ph) = 104 ∧ pt w i 11 = 0) ∨ (pt w i (18 + ph) = 115 ∧ pt w i 11 ≠ 0)
  · rw [if_pos st]
    refine ⟨fun np' k e h12 hk y => ?_, fun y => ?_⟩
    · rw [pt_sp, if_neg (by omega)] at e y ⊢
      exact G.1 np' k e h12 hk y
    · rw [pt_sp, if_pos rfl] at y
      exact absurd y (by decide)
  · rw [if_neg st]
    obtain ⟨K, hK⟩ : ∃ K, K = pt w i (18 + ph) := ⟨_, rfl⟩
    obtain ⟨M, hM⟩ : ∃ M, M = pt w i (30 + ph) := ⟨_, rfl⟩
    rw [← hK, ← hM]
    have q := fun c h11 h12 h14 h16 h17 => w2_pt w i K M g (c := c) h11 h12 h14 h16 h17
    have q14 : pt (incF (chgF w i K M g) i) i 14 = pt w i 14 + 1 := by
      rw [incF_pt, if_pos rfl, chgF_pt w i K M g (by omega) (by omega) (by omega) (by omega)]
    unfold goF
    by_cases ov : overF (incF (chgF w i K M g) i) i K M = 0
    · rw [if_pos ov]
      refine ⟨fun np' k e h12 hk y => ?_, fun y ph' hp e z => ?_⟩
      · rw [q 15 (by omega) (by omega) (by omega) (by omega) (by omega)] at e
        rw [q _ (by omega) (by omega) (by omega) (by omega) (by omega)] at y ⊢
        exact G.1 np' k e h12 hk y
      · rw [q 10 (by omega) (by omega) (by omega) (by omega) (by omega)] at e
        rw [q _ (by omega) (by omega) (by omega) (by omega) (by omega)] at z
        have ee : ph' = ph := (nI_eq (by omega) (by omega)).mp (e.symm.trans p2)
        subst ee
        obtain ⟨gn, m, g1, g2, g3, g4⟩ := G.2 h9 ph' hp p2 z
        refine ⟨gn + 1, m, by rw [q14, g1, nI_1], by rw [q _ (by omega) (by omega) (by omega) (by omega) (by omega)]; exact g2, ?_, g4⟩
        unfold overF at ov
        have z' : K = 119 ∨ K = 115 := by rw [hK]; exact z
        rw [if_neg (by rcases z' with y | y <;> (rw [y]; decide)), if_neg (by rcases z' with y | y <;> (rw [y]; decide)), if_neg (by rcases z' with y | y <;> (rw [y]; decide)), q14, g1, nI_1, hM, g2] at ov
        by_cases w : nI (gn + 1) < nI m
        · exact Eq.mp (nI_ltE (a := gn + 1) (b := m) (by omega) (by omega)) w
        · rw [if_neg w] at ov
          exact absurd ov (by decide)
    · rw [if_neg ov]
      have hcmp : (pt (incF (chgF w i K M g) i) i 15 ≤ pt (incF (chgF w i K M g) i) i 10 + 1) = (np ≤ ph + 1) := by
        rw [q 15 (by omega) (by omega) (by omega) (by omega) (by omega), q 10 (by omega) (by omega) (by omega) (by omega) (by omega), n3, p2, nI_1, nI_leE (by omega) (by omega)]
      have r : ∀ c, pt (endF (incF (chgF w i K M g) i) i) i c = _ := fun c => endF_pt (incF (chgF w i K M g) i) i c
      simp only [hcmp] at r
      have hi : ∀ c, c = 15 ∨ 18 ≤ c → pt (endF (incF (chgF w i K M g) i) i) i c = pt w i c := fun c hc => by
        rw [r c, ← q c (by omega) (by omega) (by omega) (by omega) (by omega)]
        by_cases y : np ≤ ph + 1
        · rw [if_pos y, if_neg (by omega), if_neg (by omega)]
        · rw [if_neg y, if_neg (by omega), if_neg (by omega), if_neg (by omega)]
      refine ⟨fun np' k e h12 hk y => ?_, fun y ph' hp e z => ?_⟩
      · rw [hi 15 (by omega)] at e
        rw [hi _ (by omega)] at y ⊢
        exact G.1 np' k e h12 hk y
      · by_cases y2 : np ≤ ph + 1
        · rw [r 9, if_pos y2, if_neg (by omega), if_pos rfl] at y
          exact absurd y (by decide)
        · rw [r 10, if_neg y2, if_neg (by omega), if_neg (by omega), if_pos rfl, q 10 (by omega) (by omega) (by omega) (by omega) (by omega), p2, nI_1] at e
          have ee : ph + 1 = ph' := (nI_eq (by omega) (by omega)).mp e
          subst ee
          rw [hi _ (by omega)] at z
          have nz := G.1 np (ph + 1) n3 n4 (by omega) z
          obtain ⟨-, x, hx, hx2, -⟩ := n5 (ph + 1) (by omega)
          refine ⟨0, x, ?_, by rw [hi _ (by omega)]; exact hx, ?_, hx2⟩
          · rw [r 14, if_neg y2, if_neg (by omega), if_pos rfl]
            rfl
          · rw [hx] at nz
            exact Nat.pos_of_ne_zero (fun e => nz (by rw [e]; rfl))
theorem PRL.works {p w : Row} {i : Nat} (P : PRL p w i) (g : Int32) : PRL p (worksF w i g) i := by
  have f : ∀ c, c = 15 ∨ 18 ≤ c → pt (worksF w i g) i c = pt w i c := fun c hc => by
    unfold worksF
    split
    · rw [pt_sp, if_neg (by omega)]
    · exact goF_pt w i _ _ g (by omega) (by omega) (by omega) (by omega) (by omega) (by omega) (by omega) (by omega)
  exact P.congr (f 15 (Or.inl rfl)) (fun k h1 _ => f k (Or.inr h1))
theorem l_works {h : Hp} (T : LT5 h) (q p l g : Row) {o w : Row} {i t gn : Nat} (hi : i < 3) (H : WH w i t) (ht : t ≤ 500) (A : HLw o w i) (h4 : ho o i 4 = pt w i 4) (P : PRL p w i) (G : GH w i) (h9 : pt w i 9 = 1) (hg : gn ≤ 250) :
    ∃ o', s_X10_works (nI i) (nI gn) 242 243 (sV h q o p l g) = some ((), sV h q o' p l g) ∧ HLw o' (worksF w i (nI gn)) i ∧ ho o' i 4 = pt (worksF w i (nI gn)) i 4 ∧ OF o o' i := by
  obtain ⟨ph, np, m, k, a1, a2, a3, a4, a5, a6, a7, a8, a9, a10, a11⟩ := run_is H A P h9
  obtain ⟨r1, r2⟩ := l_let T q o p l g hi a5 (by omega) a11 (by omega) a9
  obtain ⟨-, -, ⟨wt, wm, hw, hm, bw, bm, hz⟩, -⟩ := H
  obtain ⟨b5, b7, b8, b9, b11, b13, b6, b12⟩ := id A
  have stuck : ((pt w i (18 + ph) = 104 ∧ pt w i 11 = 0) ∨ (pt w i (18 + ph) = 115 ∧ pt w i 11 ≠ 0)) → worksF w i (nI gn) = sp w i 9 2 := fun y => by
    unfold worksF
    rw [a6, if_pos y]
  have going : ¬ ((pt w i (18 + ph) = 104 ∧ pt w i 11 = 0) ∨ (pt w i (18 + ph) = 115 ∧ pt w i 11 ≠ 0)) → worksF w i (nI gn) = goF w i (nI k) (nI m) (nI gn) := fun y => by
    unfold worksF
    rw [a6, if_neg y, a7, a8]
  have stk : HLw (so o i 5 2) (sp w i 9 2) i ∧ ho (so o i 5 2) i 4 = pt (sp w i 9 2) i 4 ∧ OF o (so o i 5 2) i := by
    refine ⟨?_, ?_, OF.rfl'.so 5 _ (by omega)⟩
    · unfold HLw
      simp only [pt_sp, ho_so, Nat.reduceEqDiff, if_false, if_true]
      exact ⟨trivial, b7, b8, b9, b11, b13, fun _ => b6 (by rw [h9]; decide), fun y => absurd y (by decide)⟩
    · rw [pt_sp, if_neg (by omega), ho_so, if_neg (by omega)]
      exact h4
  unfold s_X10_works
  simp only [r1, r2, bnd]
  by_cases k4 : k = 104
  · subst k4
    rw [if_pos (show nI 104 = 104 from rfl), vo_7 T _ _ _ _ _ hi, b7]
    by_cases z : pt w i 11 = 0
    · rw [if_pos z, wo_5 T _ _ _ _ _ hi]
      rw [stuck (Or.inl ⟨a7, z⟩)]
      exact ⟨_, rfl, stk.1, stk.2.1, stk.2.2⟩
    · rw [if_neg z]
      unfold s_X10_works_J42
      rw [if_neg (by decide)]
      rw [going (fun y => y.elim (fun y => z y.2) (fun y => by have := y.1; rw [a7] at this; exact absurd this (by decide)))]
      exact l_heat T q p l g hi A h4 h9 a4 a3 a1 (by omega) hw hm (by omega) (by omega)
  · have m4 : ¬ nI k = 104 := fun y => k4 (Eq.mp (works_nar a10 (show 104 < 2 ^ 31 by omega)) y)
    rw [if_neg m4]
    unfold s_X10_works_J42
    have n4 : ¬ (pt w i (18 + ph) = 104 ∧ pt w i 11 = 0) := fun y => m4 (a7.symm.trans y.1)
    by_cases k5 : k = 115
    · subst k5
      obtain ⟨gm, mm, g1, g2, g3, g4⟩ := G.2 h9 ph (by omega) a4 (Or.inr a7)
      have em : mm = m := (nI_eq (by omega) (by omega)).mp (g2.symm.trans a8)
      subst em
      rw [if_pos (show nI 115 = 115 from rfl), vo_7 T _ _ _ _ _ hi, b7, hw]
      by_cases z : wt = 0
      · rw [if_pos (by rw [z]; decide)]
        rw [going (fun y => y.elim (fun y => n4 y) (fun y => y.2 (by rw [hw, z]; rfl)))]
        exact l_wash T q p l g (Or.inr rfl) hi A h4 h9 a4 a3 a1 (by omega) g1 g3 g4
      · rw [if_neg (by rw [show (0 : Int32) = nI 0 from rfl, nI_leE (by omega) (by omega)]; omega), wo_5 T _ _ _ _ _ hi]
        rw [stuck (Or.inr ⟨a7, fun y => z ((nI_0' wt (by omega)).mp (hw.symm.trans y))⟩)]
        exact ⟨_, rfl, stk.1, stk.2.1, stk.2.2⟩
    · have m5 : ¬ nI k = 115 := fun y => k5 (Eq.mp (works_nar a10 (show 115 < 2 ^ 31 by omega)) y)
      rw [if_neg m5]
      have n5 : ¬ (pt w i (18 + ph) = 115 ∧ pt w i 11 ≠ 0) := fun y => m5 (a7.symm.trans y.1)
      rw [going (fun y => y.elim n4 n5)]
      rcases a10 with y | y | y | y | y
      · subst y
        exact l_drain T q p l g hi A h4 h9 a4 a3 a1 (by omega) hw hm (by omega) (by omega) hz
      · subst y
        exact l_fill T q p l g hi A h4 h9 a4 a3 a1 (by omega)
      · exact absurd y k4
      · exact absurd y k5
      · subst y
        obtain ⟨gm, mm, g1, g2, g3, g4⟩ := G.2 h9 ph (by omega) a4 (Or.inl a7)
        have em : mm = m := (nI_eq (by omega) (by omega)).mp (g2.symm.trans a8)
        subst em
        exact l_wash T q p l g (Or.inl rfl) hi A h4 h9 a4 a3 a1 (by omega) g1 g3 g4
