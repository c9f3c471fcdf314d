/-! a whole split: HeatSplit.divide, and the reference's split -/
theorem c_giveLowest1 {h : Hp} (S : Sh h) {g : Nat → Nat} {lo l all : Nat} (h0 : all ≠ 0) (ha : all < 2 ^ 20) (h8 : lo < 8) : s_X0_giveLowest 235 (nI lo) (nI l) (nI all) (sX h 238 (gI g)) = some (nI 1, sX h 238 (gI (updN g lo (g lo + 1)))) := by
  unfold s_X0_giveLowest
  simp only [show (0 : Int32) = nI 0 from rfl, nI_leE (show all < 2 ^ 31 by omega) (show 0 < 2 ^ 31 by omega), show ¬ (all ≤ 0) by omega, if_false]
  simp only [getI, getL, getR, putI, putZ, putL, putR, ldI, ldR, stI, stR, divI, divL, bnd, inv, retI, retZ, retC, retR, retU, hT_sI, hT_sL, hT_sR, hR_sI, hR_sL, hN_sI, hN_sL, hN_sR, hI_sL, hI_sR, hL_sI, hL_sR, ↓reduceIte, true_and, and_true, and_self, ne_eq, not_false_eq_true, not_true_eq_false, reduceCtorEq, if_true, if_false, hT_sX, hR_sX, S.s0, S.s3, S.s8, nI_ge0 (show lo < 2 ^ 31 by omega), nI_clamp (show lo < 2 ^ 31 by omega), h8, hI_sX, show gI g lo = nI (g lo) from rfl, sI_sX, nI_1, gI_upd, show ((238 : Nat) = 0) = False from eq_false (by decide), show (nI 0 ≤ nI lo) = True from eq_true (nI_le (by omega) (by omega))]
  rfl
theorem c_giveLowest0 {h : Hp} (S : Sh h) {want sh g : Nat → Nat} (P : SP h want sh) (hg : ∀ i, g i ≤ want i) {lo l : Nat} (h8 : lo < 8) (hl : l ≤ 2000) : s_X0_giveLowest 235 (nI lo) (nI l) (nI 0) (sX h 238 (gI g)) = some (nI (min l (want lo - g lo)), sX h 238 (gI (updN g lo (g lo + min l (want lo - g lo))))) := by
  obtain ⟨p1, p2, p3, p4⟩ := P lo h8
  have hgl := hg lo
  have hmin : (if nI (want lo - g lo) < nI l then nI (want lo - g lo) else nI l) = nI (min l (want lo - g lo)) := by
    by_cases q : want lo - g lo < l
    · rw [if_pos ((nI_ltI (by omega) (by omega)).mpr q), Nat.min_eq_right (by omega)]
    · rw [if_neg (fun z => q ((nI_ltI (by omega) (by omega)).mp z)), Nat.min_eq_left (by omega)]
  unfold s_X0_giveLowest
  rw [if_pos (by decide)]
  simp only [getI, getL, getR, putI, putZ, putL, putR, ldI, ldR, stI, stR, divI, divL, bnd, inv, retI, retZ, retC, retR, retU, hT_sI, hT_sL, hT_sR, hR_sI, hR_sL, hN_sI, hN_sL, hN_sR, hI_sL, hI_sR, hL_sI, hL_sR, ↓reduceIte, true_and, and_true, and_self, ne_eq, not_false_eq_true, not_true_eq_false, reduceCtorEq, if_true, if_false, hT_sX, hR_sX, S.s0, S.s1, S.s3, S.s6, S.s8, nI_ge0 (show lo < 2 ^ 31 by omega), nI_clamp (show lo < 2 ^ 31 by omega), h8, hI_sX, hI_sXn h 238 (gI g) 236 (by omega), p1, show gI g lo = nI (g lo) from rfl, nI_sub hgl, hmin, nI_add, sI_sX, gI_upd, show ((236 : Nat) = 0) = False from eq_false (by decide), show ((238 : Nat) = 0) = False from eq_false (by decide)]
theorem c_divideL {h : Hp} (S : Sh h) {want sh : Nat → Nat} (P : SP h want sh) : ∀ (l f r : Nat) (g : Nat → Nat), l < f → r + l ≤ 2000 → (∀ i, g i ≤ want i) →
    s_X0_divide_L31 f 235 (nI l) (if lowF want g 8 0 = 8 then -5 else nI (lowF want g 8 0)) (nI r) (sX h 238 (gI g)) = some ((), sX h 238 (gI (splN want sh l g l).1)) := by
  intro l
  induction l using Nat.strongRecOn with
  | ind l ih =>
    intro f r g hf hr hg
    obtain ⟨m, rfl, hm⟩ := fuel_succ hf
    rw [s_X0_divide_L31]
    by_cases hl : l = 0
    · subst hl
      have e : (splN want sh 0 g 0).1 = g := rfl
      rw [e]
      by_cases q : (2000 : Int32) ≤ nI r
      · rw [if_pos q]; rfl
      · rw [if_neg q, if_pos (show nI 0 ≤ 0 by decide)]; rfl
    · have c1 : ¬ ((2000 : Int32) ≤ nI r) := by
        rw [show (2000 : Int32) = nI 2000 from rfl, nI_leE (by omega) (by omega)]
        omega
      have c2 : ¬ (nI l ≤ 0) := nI_nle (by omega) (by omega)
      rw [if_neg c1, if_neg c2]
      obtain ⟨l', rfl⟩ : ∃ l', l = l' + 1 := ⟨l - 1, by omega⟩
      by_cases h8 : lowF want g 8 0 = 8
      · rw [if_pos h8, if_pos rfl]
        have e : splN want sh (l' + 1) g (l' + 1) = (g, l' + 1) := by
          unfold splN
          rw [if_pos (Or.inr h8)]
        rw [e]
        rfl
      · rcases lowF_is (want := want) (g := g) 8 0 (by omega) with ⟨a, -⟩ | ⟨a, b, c, -⟩
        · exact absurd a h8
        · have c3 : ¬ (nI (lowF want g 8 0) = -5) := by
            intro z
            have := congrArg Int32.toInt z
            rw [nI_toInt (by omega), show (-5 : Int32).toInt = -5 from by decide] at this
            omega
          have ha := allF_le (want := want) (g := g) (fun i hi => (P i hi).2.2.2) 8 0 (by omega)
          rw [if_neg h8, if_neg c3]
          simp only [inv, bnd, hT_sX, S.s0, if_true, c_sharesOf S P hg]
          have est : ∀ (g2 : Nat → Nat) (l2 : Nat), l2 < l' + 1 → (splN want sh (l' + 1) g (l' + 1) = splN want sh (l' + 1) g2 l2) → (∀ i, g2 i ≤ want i) →
              (s_X0_divide_L31 m 235 (nI l2) (if lowF want g2 8 0 = 8 then -5 else nI (lowF want g2 8 0)) (nI (r + 1)) (sX h 238 (gI g2))) = some ((), sX h 238 (gI (splN want sh (l' + 1) g (l' + 1)).1)) := by
            intro g2 l2 h1 h2 h3
            rw [h2, splN_stable (l' + 1) l2 g2 l2 (by omega) (by omega)]
            exact ih l2 h1 m (r + 1) g2 (by omega) (by omega) h3
          by_cases hall : allF want sh g 8 0 = 0
          · -- nobody that wants has shares
            have hgp : s_X0_giveParts 235 (nI (l' + 1)) (nI (allF want sh g 8 0)) (sX h 238 (gI g)) = some (0, sX h 238 (gI g)) := by
              unfold s_X0_giveParts
              rw [show (100000 : Nat) = 99999 + 1 from rfl, s_X0_giveParts_L5, hall, if_pos (by decide)]
              rfl
            have hu0 : min (l' + 1) (want (lowF want g 8 0) - g (lowF want g 8 0)) ≠ 0 := by omega
            rw [hgp]
            simp only [hT_sX, S.s0, if_true, if_pos (show (0 : Int32) ≤ 0 by decide), hall, c_giveLowest0 S P hg a (show l' + 1 ≤ 2000 by omega)]
            generalize hu : min (l' + 1) (want (lowF want g 8 0) - g (lowF want g 8 0)) = u at hu0 ⊢
            have hul : u ≤ l' + 1 := by omega
            have hg2 : ∀ i, updN g (lowF want g 8 0) (g (lowF want g 8 0) + u) i ≤ want i := fun i => by
              unfold updN
              split
              · rename_i q
                rw [q]
                omega
              · exact hg i
            simp only [c_lowest S P hg2, nI_sub hul, nI_1]
            exact est _ _ (by omega) (splN_all0 u (l' + 1) g (l' + 1) hall h8 hul (by omega) (Nat.le_refl _)) hg2
          · have hgp := c_partsL S P (all := allF want sh g 8 0) (beg := l' + 1) hall (by omega) (by omega) 8 0 100000 0 g rfl (by omega) hg
            rw [Nat.zero_add] at hgp
            have hgp' : s_X0_giveParts 235 (nI (l' + 1)) (nI (allF want sh g 8 0)) (sX h 238 (gI g)) = some (nI (gvF want sh g (allF want sh g 8 0) (l' + 1) 8 0), sX h 238 (gI (giveF want sh g (allF want sh g 8 0) (l' + 1) 8 0))) := hgp
            have hgv := gv_left (want := want) (sh := sh) (g := g) (beg := l' + 1) 8 0
            have hstep : splN want sh (l' + 1) g (l' + 1) = splN want sh l' (rnd want sh g (l' + 1)).1 (rnd want sh g (l' + 1)).2 := by
              conv => lhs; unfold splN
              rw [if_neg (by rintro (q | q); omega; exact h8 q)]
            have hrl := rnd_lt (want := want) (sh := sh) (g := g) (l := l' + 1) (by omega)
            have hrw := rnd_le (want := want) (sh := sh) (g := g) (l := l' + 1) hg h8
            have hst2 : splN want sh (l' + 1) g (l' + 1) = splN want sh (l' + 1) (rnd want sh g (l' + 1)).1 (rnd want sh g (l' + 1)).2 := by
              rw [hstep]
              exact splN_stable _ _ _ _ (by omega) (by omega)
            rw [hgp']
            simp only [hT_sX, S.s0, if_true]
            by_cases hz : gvF want sh g (allF want sh g 8 0) (l' + 1) 8 0 = 0
            · have hgive : giveF want sh g (allF want sh g 8 0) (l' + 1) 8 0 = g := by
                have hz' : ∀ (d k : Nat), gvF want sh g (allF want sh g 8 0) (l' + 1) d k = 0 → giveF want sh g (allF want sh g 8 0) (l' + 1) d k = g := by
                  intro d
                  induction d with
                  | zero => intro k _; exact giveF_zero _ _ _ _ _ _
                  | succ d ihd =>
                    intro k e
                    unfold gvF at e
                    have e1 : prt want sh (allF want sh g 8 0) (l' + 1) (g k) k = 0 := by omega
                    rw [← giveF_succ, e1, Nat.add_zero, updN_self]
                    exact ihd (k + 1) (by omega)
                exact hz' 8 0 hz
              have hr1 : rnd want sh g (l' + 1) = (updN g (lowF want g 8 0) (g (lowF want g 8 0) + 1), l') := by
                unfold rnd
                rw [if_pos hz, Nat.add_sub_cancel]
              rw [hr1] at hst2 hrw
              rw [hz, hgive, if_pos (by decide)]
              simp only [c_giveLowest1 S hall (show allF want sh g 8 0 < 2 ^ 20 by omega) a, hT_sX, S.s0, if_true, c_lowest S P hrw, nI_1]
              rw [nI_sub (show 1 ≤ l' + 1 by omega), Nat.add_sub_cancel]
              exact est _ _ (by omega) hst2 hrw
            · have hr1 : rnd want sh g (l' + 1) = (giveF want sh g (allF want sh g 8 0) (l' + 1) 8 0, l' + 1 - gvF want sh g (allF want sh g 8 0) (l' + 1) 8 0) := by
                unfold rnd
                rw [if_neg hz]
              rw [hr1] at hst2 hrw
              rw [if_neg (nI_nle (show 0 < gvF want sh g (allF want sh g 8 0) (l' + 1) 8 0 by omega) (by omega))]
              simp only [hT_sX, S.s0, if_true, c_lowest S P hrw, nI_1, nI_sub hgv]
              exact est _ _ (by omega) hst2 hrw
def zeroN : Nat → Nat := fun _ => 0
theorem c_divide {h : Hp} (S : Sh h) {want sh : Nat → Nat} (P : SP h want sh) (h8 : ∀ i, 8 ≤ i → hI h 238 i = 0) {l : Nat} (hl : l ≤ 2000) : s_X0_divide 235 (nI l) h = some ((), sX h 238 (gI (splN want sh l zeroN l).1)) := by
  have hz : ∀ (d k f : Nat), k + d = 8 → d < f → ∀ (q : Row), (∀ i, (i < k ∨ 8 ≤ i) → q i = 0) → s_X0_divide_L2 (fun y0 y1 h => inv h y0 0 (s_X0_lowestWanting y0 h) fun x2 h => s_X0_divide_L31 100000 y0 y1 x2 0 h) f 235 (nI l) (nI k) (sX h 238 q) = some ((), sX h 238 (gI (splN want sh l zeroN l).1)) := by
    intro d
    induction d with
    | zero =>
      intro k f hk hf q hq
      obtain ⟨m, rfl, -⟩ := fuel_succ hf
      rw [s_X0_divide_L2]
      have : k = 8 := by omega
      subst this
      have eq : q = gI zeroN := by
        funext i
        exact hq i (by omega)
      subst eq
      rw [if_pos (show (8 : Int32) ≤ nI 8 by decide)]
      have hgz : ∀ i, zeroN i ≤ want i := fun i => Nat.zero_le _
      simp only [inv, bnd, hT_sX, S.s0, if_true, c_lowest S P hgz]
      exact c_divideL S P l 100000 0 zeroN (by omega) (by omega) hgz
    | succ d ih =>
      intro k f hk hf q hq
      obtain ⟨m, rfl, hm⟩ := fuel_succ hf
      rw [s_X0_divide_L2]
      simp only [show (8 : Int32) = nI 8 from rfl, nI_leE (show 8 < 2 ^ 31 by omega) (show k < 2 ^ 31 by omega), show ¬ (8 ≤ k) by omega, if_false, getR, stI, hT_sX, hR_sX, S.s0, S.s3, S.s8, nI_ge0 (show k < 2 ^ 31 by omega), nI_clamp (show k < 2 ^ 31 by omega), show k < 8 by omega, sI_sX, nI_1, true_and, and_self, if_true, show ((238 : Nat) = 0) = False from eq_false (by decide), ne_eq, not_false_eq_true]
      refine ih (k + 1) m (by omega) (by omega) (upd q k 0) (fun i hi => ?_)
      unfold upd
      split
      · rfl
      · exact hq i (by omega)
  have := hz 8 0 100000 rfl (by omega) (hI h 238) (fun i hi => h8 i (by omega))
  rw [sX_self] at this
  exact this
