/-! the law's turns -/
theorem t_turn {L : Nat} {xs : Nat → Int32} {H : Hp} {w : Row} {nl t g tn n : Nat} (hL : L < 2 ^ 31) (s : STT H w nl t) (ht : t ≤ 380) (hg : g ≤ 370) (htn : tn < 16) :
    ∃ H' w' nl' t' g', s_X10_law_L290 L xs (n + 1) 1 241 242 243 244 245 (nI tn) g H = s_X10_law_L290 L xs n 1 241 242 243 244 245 (nI (tn + 1)) g' H' ∧ STT H' w' nl' t' ∧ t' ≤ t + 9 ∧ g' ≤ g + 9 := by
  have e7 : (7 : Int32) + nI tn = nI (7 + tn) := nI_add 7 tn
  rw [s_X10_law_L290, if_neg (by rw [show (16 : Int32) = nI 16 from rfl, nI_leE (by omega) (by omega)]; omega), e7, cellB_is hL (by omega)]
  generalize cellF L xs (nI (7 + tn)) = x
  obtain ⟨k, hk, ek⟩ : ∃ k, k < 8 ∧ lowN x 8 = k := ⟨_, lowN_lt x (by omega), rfl⟩
  obtain ⟨i, hi, ei⟩ : ∃ i, i < 3 ∧ lowN (shrI x 3) 3 = i := ⟨_, lowN_lt _ (by omega), rfl⟩
  rw [l_low8, ek]
  simp only [bnd]
  rw [l_low3, ei, ← nI_1]
  simp only [bnd]
  have le2 : ((2 : Int32) ≤ nI k) = (2 ≤ k) := nI_leE (a := 2) (by omega) (by omega)
  have le5 : ((5 : Int32) ≤ nI k) = (5 ≤ k) := nI_leE (a := 5) (by omega) (by omega)
  have eq5 : (nI k = (5 : Int32)) = (k = 5) := nI_eqE (b := 5) (by omega) (by omega)
  have eq6 : (nI k = (6 : Int32)) = (k = 6) := nI_eqE (b := 6) (by omega) (by omega)
  by_cases k2 : 2 ≤ k
  · rw [if_pos (Eq.mpr le2 k2)]
    by_cases k5 : 5 ≤ k
    · rw [if_pos (Eq.mpr le5 k5)]
      by_cases z5 : k = 5
      · rw [if_pos (Eq.mpr eq5 z5)]
        obtain ⟨H', w', nl', a1, a2⟩ := l_haggled s (shrI x 3)
        rw [a1]
        simp only [bnd]
        rw [if_neg (by decide)]
        exact ⟨H', w', nl', t, g, t_same a2 (by omega), a2, by omega, by omega⟩
      · rw [if_neg (fun y => z5 (Eq.mp eq5 y))]
        by_cases z6 : k = 6
        · rw [if_pos (Eq.mpr eq6 z6), l_low3]
          simp only [bnd]
          by_cases z : nI (lowN (shrI x 5) 3) ≤ 0
          · rw [if_pos z]
            obtain ⟨H', w', a1, a2⟩ := t_power (L := L) (xs := xs) (k290 := fun y0 y1 y2 y3 y4 y5 y6 y7 h => s_X10_law_L290 L xs n y0 y1 y2 y3 y4 y5 y6 y7 h) (g := g) (v7 := nI tn) s (by omega) (Or.inl rfl)
            exact ⟨H', w', nl, t, g, a1, a2, by omega, by omega⟩
          · rw [if_neg z]
            obtain ⟨H', w', a1, a2⟩ := t_power (L := L) (xs := xs) (k290 := fun y0 y1 y2 y3 y4 y5 y6 y7 h => s_X10_law_L290 L xs n y0 y1 y2 y3 y4 y5 y6 y7 h) (g := g) (v7 := nI tn) s (by omega) (Or.inr rfl)
            exact ⟨H', w', nl, t, g, a1, a2, by omega, by omega⟩
        · rw [if_neg (fun y => z6 (Eq.mp eq6 y)), l_low2]
          simp only [bnd]
          by_cases z : nI (lowN (shrI x 5) 2) = 0
          · rw [if_pos z]
            obtain ⟨H', w', a1, a2⟩ := t_door (L := L) (xs := xs) (k290 := fun y0 y1 y2 y3 y4 y5 y6 y7 h => s_X10_law_L290 L xs n y0 y1 y2 y3 y4 y5 y6 y7 h) (g := g) (v7 := nI tn) (x := x) s (by omega) hi
            exact ⟨H', w', nl, t, g, a1, a2, by omega, by omega⟩
          · rw [if_neg z]
            obtain ⟨H', w', a1, a2⟩ := t_stop (L := L) (xs := xs) (k290 := fun y0 y1 y2 y3 y4 y5 y6 y7 h => s_X10_law_L290 L xs n y0 y1 y2 y3 y4 y5 y6 y7 h) (g := g) (v7 := nI tn) (x := x) s (by omega) hg hi
            exact ⟨H', w', nl, t, g + 1, a1, a2, by omega, by omega⟩
    · rw [if_neg (fun y => k5 (Eq.mp le5 y))]
      obtain ⟨H', w', nl', t', g', a1, a2, a3, a4⟩ := t_pass (L := L) (xs := xs) (k290 := fun y0 y1 y2 y3 y4 y5 y6 y7 h => s_X10_law_L290 L xs n y0 y1 y2 y3 y4 y5 y6 y7 h) (g := g) (v7 := nI tn) (x := shrI x 5) s ht hg hi
      exact ⟨H', w', nl', t', g', a1, a2, a3, a4⟩
  · rw [if_neg (fun y => k2 (Eq.mp le2 y))]
    obtain ⟨H', w', a1, a2⟩ := t_start (L := L) (xs := xs) (k290 := fun y0 y1 y2 y3 y4 y5 y6 y7 h => s_X10_law_L290 L xs n y0 y1 y2 y3 y4 y5 y6 y7 h) (g := g) (v7 := nI tn) s (by omega) hi
    exact ⟨H', w', nl, t, g, a1, a2, by omega, by omega⟩
theorem t_loop {L : Nat} {xs : Nat → Int32} (hL : L < 2 ^ 31) : ∀ (d tn f : Nat) (H : Hp) (w : Row) (nl t g : Nat), tn + d = 16 → d < f → STT H w nl t → t ≤ 9 * tn → g ≤ 9 * tn + 10 → ∃ H', s_X10_law_L290 L xs f 1 241 242 243 244 245 (nI tn) g H = some (1, H')
  | 0, tn, f, H, w, nl, t, g, htn, hf, s, ht, hg => by
    obtain ⟨f, rfl, -⟩ := fuel_succ hf
    refine ⟨H, ?_⟩
    rw [s_X10_law_L290, if_pos (by rw [show (16 : Int32) = nI 16 from rfl, nI_leE (by omega) (by omega)]; omega)]
    rfl
  | d + 1, tn, f, H, w, nl, t, g, htn, hf, s, ht, hg => by
    obtain ⟨f, rfl, hf2⟩ := fuel_succ hf
    obtain ⟨H', w', nl', t', g', a1, a2, a3, a4⟩ := t_turn (L := L) (xs := xs) (n := f) (g := g) hL s (by omega) (by omega) (show tn < 16 by omega)
    rw [a1]
    exact t_loop hL d (tn + 1) f H' w' nl' t' g' (by omega) (by omega) a2 (by omega) (by omega)
