/-! wants; the heat of a minute in numbers -/
def wanN (w : Row) (i : Nat) : Nat := if pt w i 9 = 1 ∧ pt w i (18 + phN w i) = 104 then wantN (wtN w i) (pt w i (30 + phN w i)).toNatClampNeg (wmN w i) else 0
theorem wanN_le (w : Row) (i : Nat) : wanN w i ≤ 250 := by
  unfold wanN wantN
  split
  · exact Nat.min_le_left _ _
  · omega
theorem c_want {h : Hp} {W i t : Nat} {w : Row} (e : hT h W = (7, 0)) (R : WR h W w i) (H : WH w i t) (ht : t ≤ 40000) : s_X7_wantedHeat W h = some (nI (wanN w i), h) := by
  obtain ⟨H1, H2, ⟨wt, wm, hw, hm, bw, bm, hz⟩, np, hn, h12, hks, hrun⟩ := H
  obtain ⟨⟨a1, a2, a3, a4, a5, a6⟩, a7⟩ := R
  unfold wanN
  by_cases q : pt w i 9 = 1
  · obtain ⟨ph, hpn, hp, -⟩ := hrun q
    have hk := hks ph hpn
    obtain ⟨-, x, hx, hx2, -⟩ := hk
    have e0 : phN w i = ph := by unfold phN; rw [hp, nI_clamp (by omega)]; omega
    have e1 : wtN w i = wt := by unfold wtN; rw [hw, nI_clamp (by omega)]
    have e2 : wmN w i = wm := by unfold wmN; rw [hm, nI_clamp (by omega)]
    have b := a2 (by rw [q]; decide)
    have kn : KN h W (pt w i (18 + ph)) (pt w i (30 + ph)) := KN.of (np := np) e a7 (by rw [b.1, hp]) hn h12 hpn (hks ph hpn)
    have hb : 4 * wt * x < 2 ^ 31 := by
      have : 4 * wt * x ≤ 4 * wt * 99 := Nat.mul_le_mul_left _ hx2
      omega
    rw [e0, e1, e2, hx, nI_clamp (by omega)]
    by_cases q4 : pt w i (18 + ph) = 104
    · rw [if_pos ⟨q, q4⟩]
      rw [q4, hx] at kn
      exact c_wantedHeat2 kn (a1.trans q) (a3.trans hw) (by rw [a4, hm, nI_l (by omega)]) hb (by omega) (by omega) (by omega)
    · rw [if_neg (fun z => q4 z.2)]
      exact c_wantedHeat1 kn q4
  · rw [if_neg (fun z => q z.1)]
    exact c_wantedHeat0 e (by rw [a1]; exact q)
def wanA (w : Row) (n : Nat) : Nat → Nat := fun i => if i < n then wanN w i else 0
def shA (w : Row) (n nl : Nat) : Nat → Nat := fun i => if i < n then shN w nl i else 0
def capN (w : Row) : Nat := (w 3).toNatClampNeg
def inpN (w : Row) : Nat := (w 4).toNatClampNeg
def outN (w : Row) : Nat := (w 5).toNatClampNeg
def stoN (w : Row) : Nat := (w 7).toNatClampNeg
def filN (w : Row) : Nat := min (capN w) (stoN w + inpN w)
def heaN (w : Row) : Nat := min (outN w) (filN w)
def getA (w : Row) (n nl : Nat) : (Nat → Nat) × Nat := splN (wanA w n) (shA w n nl) (heaN w) zeroN (heaN w)
/-- the boiler's numbers are in their ranges -/
def WB (w : Row) : Prop := (∃ x, w 3 = nI x ∧ x ≤ 60000) ∧ (∃ x, w 4 = nI x ∧ x ≤ 900) ∧ (∃ x, w 5 = nI x ∧ x ≤ 2000) ∧ ∃ x, w 7 = nI x ∧ x ≤ 60000
theorem WB.n {w : Row} (q : WB w) : w 3 = nI (capN w) ∧ capN w ≤ 60000 ∧ w 4 = nI (inpN w) ∧ inpN w ≤ 900 ∧ w 5 = nI (outN w) ∧ outN w ≤ 2000 ∧ w 7 = nI (stoN w) ∧ stoN w ≤ 60000 := by
  obtain ⟨⟨x1, e1, h1⟩, ⟨x2, e2, h2⟩, ⟨x3, e3, h3⟩, x4, e4, h4⟩ := q
  unfold capN inpN outN stoN
  rw [e1, e2, e3, e4, nI_clamp (by omega), nI_clamp (by omega), nI_clamp (by omega), nI_clamp (by omega)]
  exact ⟨rfl, h1, rfl, h2, rfl, h3, rfl, h4⟩
theorem nI_min {a b : Nat} (ha : a < 2 ^ 31) (hb : b < 2 ^ 31) : (if nI a < nI b then nI a else nI b) = nI (min b a) ∧ (if nI b ≤ nI a then nI b else nI a) = nI (min b a) := by
  by_cases q : a < b
  · rw [if_pos ((nI_ltI ha hb).mpr q), if_neg (fun z => by have := (nI_leI hb ha).mp z; omega), Nat.min_eq_right (by omega)]
    exact ⟨rfl, rfl⟩
  · rw [if_neg (fun z => q ((nI_ltI ha hb).mp z)), if_pos ((nI_leI hb ha).mpr (by omega)), Nat.min_eq_left (by omega)]
    exact ⟨rfl, rfl⟩
theorem c_storeWithInput {h : Hp} {T n nl : Nat} {w : Row} (S : Sh h) (st : isSt T) (R : SR h T w n nl) (B : WB w) : s_X6_storeWithInput T h = some (nI (filN w), h) := by
  obtain ⟨e1, h1, e2, h2, e3, h3, e4, h4⟩ := B.n
  have s0 := R.2.2.1 0 (by omega)
  have s1 := R.2.2.1 1 (by omega)
  have s8 := R.2.1.2.2.2.2.2.1
  have hm := (nI_min (a := stoN w + inpN w) (b := capN w) (by omega) (by omega)).1
  unfold s_X6_storeWithInput
  simp only [getI, getL, getR, putI, putZ, putL, putR, ldI, ldR, stI, stR, divI, divL, bnd, inv, retI, retZ, retC, retR, retU, hT_sI, hT_sL, hT_sR, hR_sI, hR_sL, hN_sI, hN_sL, hN_sR, hI_sL, hI_sR, hL_sI, hL_sR, ↓reduceIte, true_and, and_true, and_self, ne_eq, not_false_eq_true, not_true_eq_false, reduceCtorEq, if_true, if_false, S.t0 st, S.t1 st, S.r0 st, cl_0, cl_1, s0, s1, s8, show ¬ (T + 1 = 0) by omega, show ((0 : Int32) ≤ 0) = True from eq_true (by decide), show ((0 : Int32) ≤ 1) = True from eq_true (by decide), show ((0 : Nat) < 4) = True from eq_true (by decide), show ((1 : Nat) < 4) = True from eq_true (by decide), show (3 + 0 : Nat) = 3 from rfl, show (3 + 1 : Nat) = 4 from rfl, e1, e2, e4, nI_add, hm]
  rfl
theorem allF_sh {want sh sh' g : Nat → Nat} (hs : ∀ i, 0 < want i → sh i = sh' i) : ∀ (d k : Nat), allF want sh g d k = allF want sh' g d k
  | 0, _ => rfl
  | d + 1, k => by
    unfold allF
    rw [allF_sh hs d (k + 1)]
    by_cases q : g k < want k
    · rw [if_pos q, if_pos q, hs k (by omega)]
    · rw [if_neg q, if_neg q]
theorem prt_sh {want sh sh' : Nat → Nat} (hs : ∀ i, 0 < want i → sh i = sh' i) (all beg x k : Nat) : prt want sh all beg x k = prt want sh' all beg x k := by
  by_cases q : x < want k
  · unfold prt
    rw [hs k (by omega)]
  · rw [prt_0 q, prt_0 q]
theorem gvF_sh {want sh sh' g : Nat → Nat} (hs : ∀ i, 0 < want i → sh i = sh' i) {all beg : Nat} : ∀ (d k : Nat), gvF want sh g all beg d k = gvF want sh' g all beg d k
  | 0, _ => rfl
  | d + 1, k => by
    unfold gvF
    rw [gvF_sh hs d (k + 1), prt_sh hs]
theorem giveF_sh {want sh sh' g : Nat → Nat} (hs : ∀ i, 0 < want i → sh i = sh' i) {all beg d k : Nat} : giveF want sh g all beg d k = giveF want sh' g all beg d k := by
  funext i
  unfold giveF
  rw [prt_sh hs]
theorem splN_sh {want sh sh' : Nat → Nat} (hs : ∀ i, 0 < want i → sh i = sh' i) : ∀ (f : Nat) (g : Nat → Nat) (l : Nat), splN want sh f g l = splN want sh' f g l
  | 0, _, _ => rfl
  | f + 1, g, l => by
    have e : rnd want sh g l = rnd want sh' g l := by
      unfold rnd
      rw [allF_sh hs, gvF_sh hs, giveF_sh hs]
    unfold splN
    rw [e, splN_sh hs f]
/-- what is given is what they get -/
theorem sum_give {want sh g : Nat → Nat} {all beg D K : Nat} : ∀ (d k : Nat), K ≤ k → k + d ≤ K + D → sumNN (giveF want sh g all beg D K) d k = sumNN g d k + gvF want sh g all beg d k
  | 0, _, _, _ => rfl
  | d + 1, k, h1, h2 => by
    unfold sumNN gvF
    rw [sum_give d (k + 1) (by omega) (by omega)]
    unfold giveF
    rw [if_pos (by omega)]
    omega
theorem sum_upd {g : Nat → Nat} {lo x : Nat} : ∀ (d k : Nat), (k ≤ lo ∧ lo < k + d → sumNN (updN g lo (g lo + x)) d k = sumNN g d k + x) ∧ (¬ (k ≤ lo ∧ lo < k + d) → sumNN (updN g lo (g lo + x)) d k = sumNN g d k)
  | 0, k => ⟨fun z => by omega, fun _ => rfl⟩
  | d + 1, k => by
    obtain ⟨i1, i2⟩ := sum_upd (g := g) (lo := lo) (x := x) d (k + 1)
    unfold sumNN
    by_cases q : k = lo
    · subst q
      rw [i2 (by omega)]
      refine ⟨fun _ => ?_, fun z => by omega⟩
      unfold updN
      rw [if_pos rfl]
      omega
    · have e : updN g lo (g lo + x) k = g k := by unfold updN; rw [if_neg q]
      rw [e]
      refine ⟨fun z => ?_, fun z => ?_⟩
      · rw [i1 (by omega)]
        omega
      · rw [i2 (by omega)]
theorem splN_sum {want sh : Nat → Nat} : ∀ (f : Nat) (g : Nat → Nat) (l : Nat), sumNN (splN want sh f g l).1 8 0 + (splN want sh f g l).2 = sumNN g 8 0 + l
  | 0, _, _ => rfl
  | f + 1, g, l => by
    unfold splN
    by_cases q : l = 0 ∨ lowF want g 8 0 = 8
    · rw [if_pos q]
    · rw [if_neg q, splN_sum f]
      have hl : l ≠ 0 := fun z => q (Or.inl z)
      have h8 : lowF want g 8 0 ≠ 8 := fun z => q (Or.inr z)
      have hlt : lowF want g 8 0 < 8 := by
        rcases lowF_is (want := want) (g := g) 8 0 (by omega) with ⟨a, -⟩ | ⟨a, -⟩ <;> omega
      have hgv := gv_left (want := want) (sh := sh) (g := g) (beg := l) 8 0
      unfold rnd
      by_cases c : gvF want sh g (allF want sh g 8 0) l 8 0 = 0
      · rw [if_pos c]
        show sumNN (updN g (lowF want g 8 0) (g (lowF want g 8 0) + 1)) 8 0 + (l - 1) = sumNN g 8 0 + l
        rw [(sum_upd 8 0).1 (by omega)]
        omega
      · rw [if_neg c]
        show sumNN (giveF want sh g (allF want sh g 8 0) l 8 0) 8 0 + (l - gvF want sh g (allF want sh g 8 0) l 8 0) = sumNN g 8 0 + l
        rw [sum_give 8 0 (Nat.le_refl _) (by omega)]
        omega
theorem splN_hi {want sh : Nat → Nat} : ∀ (f : Nat) (g : Nat → Nat) (l i : Nat), 8 ≤ i → (splN want sh f g l).1 i = g i
  | 0, _, _, _, _ => rfl
  | f + 1, g, l, i, hi => by
    unfold splN
    by_cases q : l = 0 ∨ lowF want g 8 0 = 8
    · rw [if_pos q]
    · rw [if_neg q, splN_hi f _ _ i hi]
      have h8 : lowF want g 8 0 ≠ 8 := fun z => q (Or.inr z)
      have hlt : lowF want g 8 0 < 8 := by
        rcases lowF_is (want := want) (g := g) 8 0 (by omega) with ⟨a, -⟩ | ⟨a, -⟩ <;> omega
      unfold rnd
      split
      · show updN g _ _ i = g i
        unfold updN
        rw [if_neg (by omega)]
      · show giveF want sh g _ l 8 0 i = g i
        unfold giveF
        rw [if_neg (by omega)]
theorem sumNN_zero {g : Nat → Nat} : ∀ (d k : Nat), (∀ i, k ≤ i → i < k + d → g i = 0) → sumNN g d k = 0
  | 0, _, _ => rfl
  | d + 1, k, h => by
    unfold sumNN
    rw [h k (Nat.le_refl k) (by omega), sumNN_zero d (k + 1) (fun i h1 h2 => h i (by omega) (by omega))]
theorem sumNN_split {g : Nat → Nat} : ∀ (d e k : Nat), sumNN g (d + e) k = sumNN g d k + sumNN g e (k + d)
  | 0, e, k => by
    rw [Nat.zero_add, Nat.add_zero]
    unfold sumNN
    exact (Nat.zero_add _).symm
  | d + 1, e, k => by
    rw [show d + 1 + e = (d + e) + 1 by omega]
    show g k + sumNN g (d + e) (k + 1) = g k + sumNN g d (k + 1) + sumNN g e (k + (d + 1))
    rw [sumNN_split d e (k + 1), show k + 1 + d = k + (d + 1) by omega, Nat.add_assoc]
/-- the heat of a minute: the sum of what the houses get -/
theorem getA_sum {w : Row} {n nl : Nat} (h8 : n ≤ 8) : sumNN (getA w n nl).1 n 0 = heaN w - (getA w n nl).2 ∧ (getA w n nl).2 ≤ heaN w ∧ (∀ i, (getA w n nl).1 i ≤ wanA w n i) ∧ ∀ i, 8 ≤ i → (getA w n nl).1 i = 0 := by
  have h1 := splN_sum (want := wanA w n) (sh := shA w n nl) (heaN w) zeroN (heaN w)
  have h2 := splN_left (want := wanA w n) (sh := shA w n nl) (heaN w) zeroN (heaN w)
  have h3 := splN_le (want := wanA w n) (sh := shA w n nl) (heaN w) zeroN (heaN w) (fun i => Nat.zero_le _)
  have h4 := splN_hi (want := wanA w n) (sh := shA w n nl) (heaN w) zeroN (heaN w)
  have hz : sumNN zeroN 8 0 = 0 := sumNN_zero 8 0 (fun _ _ _ => rfl)
  have hs := sumNN_split (g := (getA w n nl).1) n (8 - n) 0
  rw [show n + (8 - n) = 8 by omega, Nat.zero_add] at hs
  have hz2 : sumNN (getA w n nl).1 (8 - n) n = 0 := sumNN_zero _ _ (fun i i1 i2 => by
    have := h3 i
    have e : wanA w n i = 0 := by unfold wanA; rw [if_neg (by omega)]
    unfold getA
    omega)
  unfold getA at *
  refine ⟨by omega, h2, h3, fun i hi => (h4 i hi).trans rfl⟩
