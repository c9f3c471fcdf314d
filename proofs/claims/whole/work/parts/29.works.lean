/-! a washer's minute in the reference -/
def kOK (k m : Int32) : Prop := (k = 100 ∨ k = 102 ∨ k = 104 ∨ k = 115 ∨ k = 119) ∧ ∃ x, m = nI x ∧ x ≤ 99 ∧ (k = 102 → 1 ≤ x)
theorem kOK.nar {k m : Int32} (h : kOK k m) : vp_nar .char k = k := by
  rcases h.1 with q | q | q | q | q <;> (subst q; decide)
theorem r_isOver {h : Hp} (S : Sh h) {i ph wt wm : Nat} (hi : i < 8) {w : Row} (hp : pt w i 10 = nI ph) (h12 : ph < 12) (hw : pt w i 11 = nI wt) (hm : pt w i 12 = nI wm) (b1 : wt < 2 ^ 24) (b2 : wm < 2 ^ 30) (a b : Row) : s_X9_isOver 241 (nI i) (sQ h w a b) = some (overF w i (pt w i (18 + ph)) (pt w i (30 + ph)), sQ h w a b) := by
  have e1 : wtN w i = wt := by unfold wtN; rw [hw, nI_clamp (by omega)]
  have e2 : wmN w i = wm := by unfold wmN; rw [hm, nI_clamp (by omega)]
  unfold s_X9_isOver overF
  simp only [getI, getL, getR, putI, putZ, putL, putR, ldI, ldR, stI, stR, divI, divL, bnd, inv, retI, retZ, retC, retR, retU, hT_sI, hT_sL, hT_sR, hR_sI, hR_sL, hN_sI, hN_sL, hN_sR, hI_sL, hI_sR, hL_sI, hL_sR, ↓reduceIte, true_and, and_true, and_self, ne_eq, not_false_eq_true, not_true_eq_false, reduceCtorEq, if_true, if_false, hT_sQ, S.m0, r_kindOf S hi hp h12, r_numberOf S hi hp h12, rp_11 S hi, rp_16 S hi, rp_14 S hi, r_temperature S hi hw hm b1 b2, e1, e2]
  generalize pt w i (18 + ph) = K
  generalize pt w i (30 + ph) = M
  by_cases q1 : K = 100
  · subst q1
    by_cases r : pt w i 11 = 0 <;> simp [r]
  · by_cases q2 : K = 102
    · subst q2
      by_cases r : pt w i 16 = M <;> simp [r]
    · by_cases q3 : K = 104
      · subst q3
        by_cases r : nI (tmpN wt wm) < M <;> simp [r]
      · by_cases r : pt w i 14 < M <;> simp [q1, q2, q3, r]
theorem r_end {h : Hp} (S : Sh h) {i : Nat} (hi : i < 8) (w a b : Row) :
    (if pt w i 15 ≤ pt w i 10 + 1 then inv (sQ h w a b) 241 9 (s_X9_setPart 241 (nI i) 9 0 (sQ h w a b)) fun _ h => inv h 241 9 (s_X9_addPart 241 (nI i) 4 1 h) fun _ h => getR h 241 9 0 fun x6 => ldI h x6 20 12 fun x7 => stI h x6 20 12 (x7 + 1) fun h => retU h
     else inv (sQ h w a b) 241 9 (s_X9_beginPhase 241 (nI i) (pt w i 10 + 1) (sQ h w a b)) fun _ h => retU h) = some ((), sQ h (endF w i) a b) := by
  unfold endF
  by_cases q : pt w i 15 ≤ pt w i 10 + 1
  · rw [if_pos q, if_pos q]
    have e12 : (sp (sp w i 9 0) i 4 (pt w i 4 + 1)) 12 = w 12 := by
      unfold sp upd
      rw [if_neg (by omega), if_neg (by omega)]
    simp only [getI, getL, getR, putI, putZ, putL, putR, ldI, ldR, stI, stR, divI, divL, bnd, inv, retI, retZ, retC, retR, retU, hT_sI, hT_sL, hT_sR, hR_sI, hR_sL, hN_sI, hN_sL, hN_sR, hI_sL, hI_sR, hL_sI, hL_sR, ↓reduceIte, true_and, and_true, and_self, ne_eq, not_false_eq_true, not_true_eq_false, reduceCtorEq, if_true, if_false, hT_sQ, hR_sQ, S.m0, S.m1, S.m2, rs_9 S hi, ra_4 S hi, pt_sp, hI_sQ2, sI_sQ2, cl_12, e12, show ((242 : Nat) = 0) = False from eq_false (by decide), show ((4 : Nat) = 9) = False from eq_false (by decide), show ((0 : Int32) ≤ 12) = True from eq_true (by decide), show ((12 : Nat) < 401) = True from eq_true (by decide)]
  · rw [if_neg q, if_neg q]
    simp only [getI, getL, getR, putI, putZ, putL, putR, ldI, ldR, stI, stR, divI, divL, bnd, inv, retI, retZ, retC, retR, retU, hT_sI, hT_sL, hT_sR, hR_sI, hR_sL, hN_sI, hN_sL, hN_sR, hI_sL, hI_sR, hL_sI, hL_sR, ↓reduceIte, true_and, and_true, and_self, ne_eq, not_false_eq_true, not_true_eq_false, reduceCtorEq, if_true, if_false, hT_sQ, S.m0, r_beginPhase S hi]
theorem r_worksJ98 {h : Hp} (S : Sh h) {i ph wt wm : Nat} (hi : i < 8) {w : Row} (hp : pt w i 10 = nI ph) (h12 : ph < 12) (hw : pt w i 11 = nI wt) (hm : pt w i 12 = nI wm) (b1 : wt < 2 ^ 24) (b2 : wm < 2 ^ 30) (a b : Row) : s_X9_works_J98 241 (nI i) (sQ h w a b) = some ((), sQ h (if overF (incF w i) i (pt w i (18 + ph)) (pt w i (30 + ph)) = 0 then incF w i else endF (incF w i) i) a b) := by
  have f : ∀ k, k ≠ 14 → pt (incF w i) i k = pt w i k := fun k hk => by unfold incF; rw [pt_sp, if_neg hk]
  have ho := r_isOver S hi (w := incF w i) (ph := ph) (wt := wt) (wm := wm) (by rw [f 10 (by omega)]; exact hp) h12 (by rw [f 11 (by omega)]; exact hw) (by rw [f 12 (by omega)]; exact hm) b1 b2 a b
  rw [f (18 + ph) (by omega), f (30 + ph) (by omega)] at ho
  have he := r_end S hi (incF w i) a b
  unfold s_X9_works_J98
  rw [show sQ h (incF w i) a b = sQ h (sp w i 14 (pt w i 14 + 1)) a b from rfl] at ho he
  simp only [getI, getL, getR, putI, putZ, putL, putR, ldI, ldR, stI, stR, divI, divL, bnd, inv, retI, retZ, retC, retR, retU, hT_sI, hT_sL, hT_sR, hR_sI, hR_sL, hN_sI, hN_sL, hN_sR, hI_sL, hI_sR, hL_sI, hL_sR, ↓reduceIte, true_and, and_true, and_self, ne_eq, not_false_eq_true, not_true_eq_false, reduceCtorEq, if_true, if_false, hT_sQ, S.m0, ra_14 S hi, ho, rp_10 S hi, rp_15 S hi]
  generalize hO : overF (incF w i) i (pt w i (18 + ph)) (pt w i (30 + ph)) = O
  by_cases q : O = 0
  · rw [if_pos q, if_pos q]
    rfl
  · rw [if_neg q, if_neg q]
    simp only [getI, getL, getR, putI, putZ, putL, putR, ldI, ldR, stI, stR, divI, divL, bnd, inv, retI, retZ, retC, retR, retU, hT_sI, hT_sL, hT_sR, hR_sI, hR_sL, hN_sI, hN_sL, hN_sR, hI_sL, hI_sR, hL_sI, hL_sR, ↓reduceIte, true_and, and_true, and_self, ne_eq, not_false_eq_true, not_true_eq_false, reduceCtorEq, if_true, if_false, hT_sQ, S.m0] at he
    exact he
/-- what a running washer's row says: its phase, its water and warmth -/
def RW (w : Row) (i ph wt wm : Nat) : Prop := pt w i 10 = nI ph ∧ ph < 12 ∧ pt w i 11 = nI wt ∧ pt w i 12 = nI wm ∧ wt < 2 ^ 20 ∧ wm < 2 ^ 28 ∧ (wt = 0 → wm = 0)
theorem r_works {h : Hp} (S : Sh h) {i ph wt wm : Nat} (hi : i < 8) {w : Row} (r : RW w i ph wt wm) (a b : Row) (hk : kOK (pt w i (18 + ph)) (pt w i (30 + ph))) (hf : pt w i (18 + ph) = 102 → ∃ f m, pt w i 16 = nI f ∧ pt w i (30 + ph) = nI m ∧ f ≤ m ∧ m ≤ 99) (hg : ∃ g, b i = nI g ∧ g ≤ 250) : s_X9_works 241 (nI i) (sQ h w a b) = some ((), sQ h (worksF w i (b i)) a b) := by
  obtain ⟨hp, h12, hw, hm, b1, b2, hz⟩ := r
  obtain ⟨g, hg, hg2⟩ := hg
  have e0 : phN w i = ph := by unfold phN; rw [hp, nI_clamp (by omega)]; omega
  have e1 : wtN w i = wt := by unfold wtN; rw [hw, nI_clamp (by omega)]
  have e2 : wmN w i = wm := by unfold wmN; rw [hm, nI_clamp (by omega)]
  have hz2 : (nI wt = 0) = (wt = 0) := propext (nI_0' wt (by omega))
  unfold s_X9_works s_X9_works_J21 s_X9_works_J32 worksF goF
  rw [e0]
  have hJ : s_X9_works_J51 241 (nI i) (pt w i (18 + ph)) (sQ h w a b) = some ((), sQ h (if overF (incF (chgF w i (pt w i (18 + ph)) (pt w i (30 + ph)) (b i)) i) i (pt w i (18 + ph)) (pt w i (30 + ph)) = 0 then incF (chgF w i (pt w i (18 + ph)) (pt w i (30 + ph)) (b i)) i else endF (incF (chgF w i (pt w i (18 + ph)) (pt w i (30 + ph)) (b i)) i) i) a b) := by
    unfold s_X9_works_J51 chgF
    by_cases q2 : pt w i (18 + ph) = 102
    · obtain ⟨f, m, hf1, hf2, hf3, hf4⟩ := hf q2
      have fF : ∀ k, k ≠ 16 → k ≠ 17 → k ≠ 11 → k ≠ 12 → pt (fillsF w i (pt w i (30 + ph))) i k = pt w i k := fun k h1 h2 h3 h4 => by
        unfold fillsF
        simp only [pt_sp, h1, h2, h3, h4, if_false]
      have hl : ∃ l, l ≤ 99 ∧ (if 6 ≤ pt w i (30 + ph) - pt w i 16 then 6 else pt w i (30 + ph) - pt w i 16) = nI l := by
        rw [hf1, hf2, nI_sub hf3]
        by_cases q : (6 : Int32) ≤ nI (m - f)
        · rw [if_pos q]
          exact ⟨6, by omega, rfl⟩
        · rw [if_neg q]
          exact ⟨m - f, by omega, rfl⟩
      obtain ⟨l, hl1, hl2⟩ := hl
      have f11 : pt (fillsF w i (pt w i (30 + ph))) i 11 = nI (wt + l) := by
        unfold fillsF
        simp only [pt_sp, hl2, hw, nI_add, show ((11 : Nat) = 12) = False from eq_false (by decide), if_false, if_true]
      have f12 : pt (fillsF w i (pt w i (30 + ph))) i 12 = nI (wm + 60 * l) := by
        unfold fillsF
        simp only [pt_sp, hl2, hm, show (60 : Int32) = nI 60 from rfl, nI_mul, nI_add, if_true]
      have hJ98 := r_worksJ98 S hi (w := fillsF w i (pt w i (30 + ph))) (ph := ph) (wt := wt + l) (wm := wm + 60 * l) (by rw [fF 10 (by omega) (by omega) (by omega) (by omega)]; exact hp) h12 f11 f12 (by omega) (by omega) a b
      rw [fF (18 + ph) (by omega) (by omega) (by omega) (by omega), fF (30 + ph) (by omega) (by omega) (by omega) (by omega)] at hJ98
      rw [if_pos q2, if_pos q2]
      simp only [inv, bnd, hT_sQ, S.m0, r_fills S hi hp h12, if_true]
      exact hJ98
    · rw [if_neg q2, if_neg q2]
      by_cases q1 : pt w i (18 + ph) = 100
      · have fD : ∀ k, k ≠ 11 → k ≠ 12 → pt (drainsF w i) i k = pt w i k := fun k h1 h2 => by
          unfold drainsF
          simp only [pt_sp, h1, h2, if_false]
        have d11 : pt (drainsF w i) i 11 = nI (wt - 12) := by
          unfold drainsF
          simp only [pt_sp, e1, show ((11 : Nat) = 12) = False from eq_false (by decide), if_false, if_true]
        have d12 : pt (drainsF w i) i 12 = nI (wm * (wt - 12) / wt) := by
          unfold drainsF
          simp only [pt_sp, e1, e2, if_true]
        have hle : wm * (wt - 12) / wt ≤ wm := by
          by_cases q : wt = 0
          · rw [q, Nat.div_zero]; omega
          · exact Nat.div_le_of_le_mul (by rw [Nat.mul_comm wt]; exact Nat.mul_le_mul_left _ (by omega))
        have hJ98 := r_worksJ98 S hi (w := drainsF w i) (ph := ph) (wt := wt - 12) (wm := wm * (wt - 12) / wt) (by rw [fD 10 (by omega) (by omega)]; exact hp) h12 d11 d12 (by omega) (by omega) a b
        rw [fD (18 + ph) (by omega) (by omega), fD (30 + ph) (by omega) (by omega)] at hJ98
        rw [if_pos q1, if_pos q1]
        simp only [inv, bnd, hT_sQ, S.m0, r_drains S hi hw hm (by omega) (by omega) hz, if_true]
        exact hJ98
      · rw [if_neg q1, if_neg q1]
        by_cases q3 : pt w i (18 + ph) = 104
        · have fH : ∀ k, k ≠ 12 → pt (sp w i 12 (pt w i 12 + b i)) i k = pt w i k := fun k h1 => by
            simp only [pt_sp, h1, if_false]
          have h12' : pt (sp w i 12 (pt w i 12 + b i)) i 12 = nI (wm + g) := by
            simp only [pt_sp, hm, hg, nI_add, if_true]
          have hJ98 := r_worksJ98 S hi (w := sp w i 12 (pt w i 12 + b i)) (ph := ph) (wt := wt) (wm := wm + g) (by rw [fH 10 (by omega)]; exact hp) h12 (by rw [fH 11 (by omega)]; exact hw) h12' (by omega) (by omega) a b
          rw [fH (18 + ph) (by omega), fH (30 + ph) (by omega)] at hJ98
          rw [if_pos q3, if_pos q3]
          simp only [getI, getL, getR, putI, putZ, putL, putR, ldI, ldR, stI, stR, divI, divL, bnd, inv, retI, retZ, retC, retR, retU, hT_sI, hT_sL, hT_sR, hR_sI, hR_sL, hN_sI, hN_sL, hN_sR, hI_sL, hI_sR, hL_sI, hL_sR, ↓reduceIte, true_and, and_true, and_self, ne_eq, not_false_eq_true, not_true_eq_false, reduceCtorEq, if_true, if_false, hT_sQ, hR_sQ, S.m0, S.m9, S.m48, nI_ge0 (show i < 2 ^ 31 by omega), nI_clamp (show i < 2 ^ 31 by omega), hi, hI_sQ8, ra_12 S hi, show ((248 : Nat) = 0) = False from eq_false (by decide)]
          exact hJ98
        · rw [if_neg q3, if_neg q3]
          exact r_worksJ98 S hi hp h12 hw hm (by omega) (by omega) a b
  simp only [inv, bnd, hT_sQ, S.m0, r_kindOf S hi hp h12, rp_11 S hi, hw, ne_eq, hz2, if_true]
  generalize hK : pt w i (18 + ph) = K at hJ ⊢
  generalize hM : pt w i (30 + ph) = M at hJ ⊢
  by_cases q3 : K = 104
  · subst q3
    by_cases r : wt = 0
    · rw [if_pos r, if_pos rfl, if_neg (show ¬ (1 : Int32) = 0 by decide), if_pos (Or.inl ⟨rfl, r⟩)]
      simp only [rs_9 S hi, retU]
    · rw [if_neg r, if_pos rfl, if_neg (show ¬ (104 : Int32) = 115 by decide), if_neg (by rintro (q | q); exact r q.2; exact absurd q.1 (by decide))]
      exact hJ
  · by_cases q5 : K = 115
    · subst q5
      by_cases r : wt = 0
      · rw [if_pos r, if_neg q3, if_pos rfl, if_neg (show ¬ (1 : Int32) = 0 by decide), if_neg (by rintro (q | q); exact absurd q.1 (by decide); exact q.2 r)]
        exact hJ
      · rw [if_neg r, if_neg q3, if_pos rfl, if_pos (Or.inr ⟨rfl, r⟩)]
        simp only [rs_9 S hi, retU]
    · have hn : ¬ ((K = 104 ∧ wt = 0) ∨ (K = 115 ∧ ¬ wt = 0)) := by
        rintro (q | q)
        · exact q3 q.1
        · exact q5 q.1
      by_cases r : wt = 0
      · rw [if_pos r, if_neg q3, if_neg q5, if_neg hn]
        exact hJ
      · rw [if_neg r, if_neg q3, if_neg q5, if_neg hn]
        exact hJ
