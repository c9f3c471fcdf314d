/-! splitting the heat: on numbers -/
def updN (g : Nat → Nat) (k v : Nat) : Nat → Nat := fun j => if j = k then v else g j
def lowF (want g : Nat → Nat) : Nat → Nat → Nat
  | 0, _ => 8
  | d + 1, k => if g k < want k then k else lowF want g d (k + 1)
def allF (want sh g : Nat → Nat) : Nat → Nat → Nat
  | 0, _ => 0
  | d + 1, k => (if g k < want k then sh k else 0) + allF want sh g d (k + 1)
/-- what a house gets in a round -/
def prt (want sh : Nat → Nat) (all beg : Nat) (x k : Nat) : Nat := min (if all = 0 then 0 else beg * sh k / all) (want k - x)
def rL (want sh : Nat → Nat) (all beg : Nat) : Nat → Nat → (Nat → Nat) → Nat → Nat → (Nat → Nat) × Nat × Nat
  | 0, _, g, l, lo => (g, l, lo)
  | d + 1, k, g, l, lo => if g k < want k then rL want sh all beg d (k + 1) (updN g k (g k + prt want sh all beg (g k) k)) (l - prt want sh all beg (g k) k) (if lo = 8 then k else lo) else rL want sh all beg d (k + 1) g l lo
/-- all parts of a round, from k on -/
def gvF (want sh g : Nat → Nat) (all beg : Nat) : Nat → Nat → Nat
  | 0, _ => 0
  | d + 1, k => prt want sh all beg (g k) k + gvF want sh g all beg d (k + 1)
def giveF (want sh g : Nat → Nat) (all beg d k : Nat) : Nat → Nat := fun i => if k ≤ i ∧ i < k + d then g i + prt want sh all beg (g i) i else g i
theorem prt_0 {want sh : Nat → Nat} {all beg x k : Nat} (h : ¬ x < want k) : prt want sh all beg x k = 0 := by
  unfold prt
  rw [show want k - x = 0 by omega, Nat.min_zero]
theorem giveF_succ (want sh g : Nat → Nat) (all beg d k : Nat) : giveF want sh (updN g k (g k + prt want sh all beg (g k) k)) all beg d (k + 1) = giveF want sh g all beg (d + 1) k := by
  funext i
  unfold giveF updN
  by_cases q : i = k
  · subst q
    rw [if_neg (by omega), if_pos rfl, if_pos (by omega)]
  · by_cases r : k + 1 ≤ i ∧ i < k + 1 + d
    · rw [if_pos r, if_neg q, if_pos (by omega)]
    · rw [if_neg r, if_neg q, if_neg (by omega)]
theorem giveF_zero (want sh g : Nat → Nat) (all beg k : Nat) : giveF want sh g all beg 0 k = g := by
  funext i
  unfold giveF
  rw [if_neg (by omega)]
theorem giveF_skip {want sh g : Nat → Nat} {all beg d k : Nat} (h : ¬ g k < want k) : giveF want sh g all beg d (k + 1) = giveF want sh g all beg (d + 1) k := by
  have := giveF_succ want sh g all beg d k
  rw [prt_0 h, Nat.add_zero] at this
  have e : updN g k (g k) = g := by
    funext i
    unfold updN
    by_cases q : i = k
    · rw [if_pos q, q]
    · rw [if_neg q]
  rwa [e] at this
theorem gvF_congr {want sh g g' : Nat → Nat} {all beg : Nat} : ∀ (d k : Nat), (∀ i, k ≤ i → g' i = g i) → gvF want sh g' all beg d k = gvF want sh g all beg d k
  | 0, _, _ => rfl
  | d + 1, k, h => by
    unfold gvF
    rw [h k (Nat.le_refl k), gvF_congr d (k + 1) (fun i hi => h i (by omega))]
theorem lowF_congr {want g g' : Nat → Nat} : ∀ (d k : Nat), (∀ i, k ≤ i → g' i = g i) → lowF want g' d k = lowF want g d k
  | 0, _, _ => rfl
  | d + 1, k, h => by
    unfold lowF
    rw [h k (Nat.le_refl k), lowF_congr d (k + 1) (fun i hi => h i (by omega))]
theorem rL_eq {want sh : Nat → Nat} {all beg : Nat} : ∀ (d k : Nat) (g : Nat → Nat) (l lo : Nat), k + d ≤ 8 → rL want sh all beg d k g l lo = (giveF want sh g all beg d k, l - gvF want sh g all beg d k, if lo = 8 then lowF want g d k else lo)
  | 0, k, g, l, lo, _ => by
    unfold rL gvF lowF
    rw [giveF_zero, Nat.sub_zero]
    by_cases q : lo = 8
    · rw [if_pos q, q]
    · rw [if_neg q]
  | d + 1, k, g, l, lo, hk => by
    have cg : ∀ i, k + 1 ≤ i → updN g k (g k + prt want sh all beg (g k) k) i = g i := fun i hi => by
      unfold updN
      rw [if_neg (by omega)]
    unfold rL gvF lowF
    by_cases h : g k < want k
    · rw [if_pos h, rL_eq d (k + 1) _ _ _ (by omega), giveF_succ, gvF_congr d (k + 1) cg, lowF_congr d (k + 1) cg, Nat.sub_sub, if_pos h]
      by_cases q : lo = 8
      · simp only [q, if_true, if_neg (show ¬ k = 8 by omega)]
      · simp only [if_neg q]
    · rw [if_neg h, rL_eq d (k + 1) _ _ _ (by omega), giveF_skip h, prt_0 h, Nat.zero_add, if_neg h]
theorem prt_le {want sh : Nat → Nat} {all beg x k : Nat} : all * prt want sh all beg x k ≤ beg * sh k := by
  unfold prt
  by_cases h : all = 0
  · rw [h, Nat.zero_mul]
    omega
  · rw [if_neg h]
    exact Nat.le_trans (Nat.mul_le_mul_left all (Nat.min_le_left _ _)) (Nat.mul_div_le _ _)
theorem gvF_le {want sh g : Nat → Nat} {all beg : Nat} : ∀ (d k : Nat), all * gvF want sh g all beg d k ≤ beg * allF want sh g d k
  | 0, _ => by unfold gvF allF; omega
  | d + 1, k => by
    unfold gvF allF
    rw [Nat.mul_add, Nat.mul_add]
    have ih := gvF_le (want := want) (sh := sh) (g := g) (all := all) (beg := beg) d (k + 1)
    by_cases h : g k < want k
    · rw [if_pos h]
      exact Nat.add_le_add prt_le ih
    · rw [prt_0 h, if_neg h]
      omega
theorem gvF_all0 {want sh g : Nat → Nat} {beg : Nat} : ∀ (d k : Nat), gvF want sh g 0 beg d k = 0
  | 0, _ => rfl
  | d + 1, k => by
    unfold gvF
    rw [gvF_all0 d (k + 1)]
    unfold prt
    rw [if_pos rfl, Nat.zero_min]
/-- what a round gives is at most what is left -/
theorem gv_left {want sh g : Nat → Nat} {beg : Nat} (d k : Nat) : gvF want sh g (allF want sh g d k) beg d k ≤ beg := by
  by_cases h : allF want sh g d k = 0
  · rw [h, gvF_all0]
    omega
  · have := gvF_le (want := want) (sh := sh) (g := g) (all := allF want sh g d k) (beg := beg) d k
    rw [Nat.mul_comm beg] at this
    exact Nat.le_of_mul_le_mul_left this (by omega)
theorem lowF_is {want g : Nat → Nat} : ∀ (d k : Nat), k + d ≤ 8 → (lowF want g d k = 8 ∧ ∀ i, k ≤ i → i < k + d → ¬ g i < want i) ∨ (lowF want g d k < k + d ∧ k ≤ lowF want g d k ∧ g (lowF want g d k) < want (lowF want g d k) ∧ ∀ i, k ≤ i → i < lowF want g d k → ¬ g i < want i)
  | 0, k, _ => Or.inl ⟨rfl, fun i h1 h2 => by omega⟩
  | d + 1, k, hk => by
    unfold lowF
    by_cases h : g k < want k
    · rw [if_pos h]
      exact Or.inr ⟨by omega, Nat.le_refl k, h, fun i h1 h2 => by omega⟩
    · rw [if_neg h]
      rcases lowF_is (want := want) (g := g) d (k + 1) (by omega) with ⟨a, b⟩ | ⟨a, b, c, e⟩
      · refine Or.inl ⟨a, fun i h1 h2 => ?_⟩
        by_cases q : i = k
        · rw [q]; exact h
        · exact b i (by omega) (by omega)
      · refine Or.inr ⟨by omega, by omega, c, fun i h1 h2 => ?_⟩
        by_cases q : i = k
        · rw [q]; exact h
        · exact e i (by omega) h2
/-- a round: what each has then, what is left then -/
def rnd (want sh : Nat → Nat) (g : Nat → Nat) (l : Nat) : (Nat → Nat) × Nat :=
  if gvF want sh g (allF want sh g 8 0) l 8 0 = 0 then (updN g (lowF want g 8 0) (g (lowF want g 8 0) + 1), l - 1)
  else (giveF want sh g (allF want sh g 8 0) l 8 0, l - gvF want sh g (allF want sh g 8 0) l 8 0)
def splN (want sh : Nat → Nat) : Nat → (Nat → Nat) → Nat → (Nat → Nat) × Nat
  | 0, g, l => (g, l)
  | f + 1, g, l => if l = 0 ∨ lowF want g 8 0 = 8 then (g, l) else splN want sh f (rnd want sh g l).1 (rnd want sh g l).2
theorem rnd_lt {want sh g : Nat → Nat} {l : Nat} (hl : l ≠ 0) : (rnd want sh g l).2 < l := by
  unfold rnd
  by_cases h : gvF want sh g (allF want sh g 8 0) l 8 0 = 0
  · rw [if_pos h]
    show l - 1 < l
    omega
  · rw [if_neg h]
    show l - gvF want sh g (allF want sh g 8 0) l 8 0 < l
    omega
theorem splN_stable {want sh : Nat → Nat} : ∀ (f f' : Nat) (g : Nat → Nat) (l : Nat), l ≤ f → l ≤ f' → splN want sh f g l = splN want sh f' g l
  | 0, f', g, l, h1, h2 => by
    have : l = 0 := by omega
    subst this
    cases f' with
    | zero => rfl
    | succ f' =>
      show (g, 0) = splN want sh (f' + 1) g 0
      unfold splN
      rw [if_pos (Or.inl rfl)]
  | f + 1, f', g, l, h1, h2 => by
    cases f' with
    | zero =>
      have : l = 0 := by omega
      subst this
      show splN want sh (f + 1) g 0 = (g, 0)
      unfold splN
      rw [if_pos (Or.inl rfl)]
    | succ f' =>
      unfold splN
      by_cases h : l = 0 ∨ lowF want g 8 0 = 8
      · rw [if_pos h, if_pos h]
      · rw [if_neg h, if_neg h]
        have := rnd_lt (want := want) (sh := sh) (g := g) (l := l) (fun q => h (Or.inl q))
        exact splN_stable f f' _ _ (by omega) (by omega)
theorem updN_updN (g : Nat → Nat) (k a b : Nat) : updN (updN g k a) k b = updN g k b := by
  funext i
  unfold updN
  by_cases q : i = k
  · rw [if_pos q, if_pos q]
  · rw [if_neg q, if_neg q, if_neg q]
theorem updN_self (g : Nat → Nat) (k : Nat) : updN g k (g k) = g := by
  funext i
  unfold updN
  by_cases q : i = k
  · rw [if_pos q, q]
  · rw [if_neg q]
theorem allF_sub {want sh g g' : Nat → Nat} (h : ∀ i, g i ≤ g' i) : ∀ (d k : Nat), allF want sh g d k = 0 → allF want sh g' d k = 0
  | 0, _, _ => rfl
  | d + 1, k, e => by
    unfold allF at e ⊢
    have ih := allF_sub (want := want) (sh := sh) h d (k + 1) (by omega)
    rw [ih]
    have := h k
    by_cases q : g' k < want k
    · rw [if_pos q]
      rw [if_pos (by omega)] at e
      omega
    · rw [if_neg q]
theorem lowF_upd {want g : Nat → Nat} {x : Nat} (h8 : lowF want g 8 0 ≠ 8) (hx : x < want (lowF want g 8 0)) : lowF want (updN g (lowF want g 8 0) x) 8 0 = lowF want g 8 0 := by
  have hL : ∀ (d k m : Nat) (g : Nat → Nat), k + d ≤ 8 → k ≤ m → m < k + d → g m < want m → (∀ i, k ≤ i → i < m → ¬ g i < want i) → lowF want g d k = m := by
    intro d
    induction d with
    | zero => intro k m g h1 h2 h3; omega
    | succ d ih =>
      intro k m g h1 h2 h3 h4 h5
      unfold lowF
      by_cases q : k = m
      · subst q
        rw [if_pos h4]
      · rw [if_neg (h5 k (Nat.le_refl k) (by omega))]
        exact ih (k + 1) m g (by omega) (by omega) (by omega) h4 (fun i i1 i2 => h5 i (by omega) i2)
  rcases lowF_is (want := want) (g := g) 8 0 (by omega) with ⟨a, -⟩ | ⟨a, b, c, e⟩
  · exact absurd a h8
  · refine hL 8 0 _ _ (by omega) (by omega) (by omega) ?_ (fun i _ i2 => ?_)
    · unfold updN
      rw [if_pos rfl]
      exact hx
    · unfold updN
      rw [if_neg (by omega)]
      exact e i (by omega) i2
/-- without shares, u rounds at once -/
theorem splN_all0 {want sh : Nat → Nat} : ∀ (u f : Nat) (g : Nat → Nat) (l : Nat), allF want sh g 8 0 = 0 → lowF want g 8 0 ≠ 8 → u ≤ l → g (lowF want g 8 0) + u ≤ want (lowF want g 8 0) → l ≤ f → splN want sh f g l = splN want sh f (updN g (lowF want g 8 0) (g (lowF want g 8 0) + u)) (l - u)
  | 0, f, g, l, _, _, _, _, _ => by rw [Nat.add_zero, updN_self, Nat.sub_zero]
  | u + 1, f, g, l, h0, h8, hu, hw, hf => by
    obtain ⟨f', rfl⟩ : ∃ f', f = f' + 1 := ⟨f - 1, by omega⟩
    have hr : rnd want sh g l = (updN g (lowF want g 8 0) (g (lowF want g 8 0) + 1), l - 1) := by
      unfold rnd
      rw [h0, gvF_all0, if_pos rfl]
    have e1 : splN want sh (f' + 1) g l = splN want sh f' (updN g (lowF want g 8 0) (g (lowF want g 8 0) + 1)) (l - 1) := by
      conv => lhs; unfold splN
      rw [if_neg (by rintro (q | q); omega; exact h8 q), hr]
    rw [e1]
    by_cases hu0 : u = 0
    · subst hu0
      exact splN_stable _ _ _ _ (by omega) (by omega)
    · have hl' := lowF_upd (want := want) (g := g) (x := g (lowF want g 8 0) + 1) h8 (by omega)
      have hg' : updN g (lowF want g 8 0) (g (lowF want g 8 0) + 1) (lowF want g 8 0) = g (lowF want g 8 0) + 1 := by unfold updN; rw [if_pos rfl]
      have ih := splN_all0 (want := want) (sh := sh) u f' (updN g (lowF want g 8 0) (g (lowF want g 8 0) + 1)) (l - 1) (allF_sub (fun i => by unfold updN; split <;> first | omega | (rename_i q; rw [q]; omega)) 8 0 h0) (by rw [hl']; exact h8) (by omega) (by rw [hl', hg']; omega) (by omega)
      rw [hl', hg', updN_updN] at ih
      rw [ih, show g (lowF want g 8 0) + 1 + u = g (lowF want g 8 0) + (u + 1) by omega, show l - 1 - u = l - (u + 1) by omega]
      exact splN_stable _ _ _ _ (by omega) (by omega)
/-- nobody gets more than it wants -/
theorem giveF_le {want sh g : Nat → Nat} {all beg d k : Nat} (h : ∀ i, g i ≤ want i) : ∀ i, giveF want sh g all beg d k i ≤ want i := by
  intro i
  unfold giveF
  split
  · have := Nat.min_le_right (if all = 0 then 0 else beg * sh i / all) (want i - g i)
    have h2 := h i
    unfold prt
    omega
  · exact h i
theorem rnd_le {want sh g : Nat → Nat} {l : Nat} (h : ∀ i, g i ≤ want i) (h8 : lowF want g 8 0 ≠ 8) : ∀ i, (rnd want sh g l).1 i ≤ want i := by
  intro i
  unfold rnd
  split
  · show updN g (lowF want g 8 0) (g (lowF want g 8 0) + 1) i ≤ want i
    unfold updN
    split
    · rename_i q
      rcases lowF_is (want := want) (g := g) 8 0 (by omega) with ⟨a, -⟩ | ⟨a, b, c, e⟩
      · exact absurd a h8
      · rw [q]; omega
    · exact h i
  · exact giveF_le h i
theorem splN_le {want sh : Nat → Nat} : ∀ (f : Nat) (g : Nat → Nat) (l : Nat), (∀ i, g i ≤ want i) → ∀ i, (splN want sh f g l).1 i ≤ want i
  | 0, g, l, h => h
  | f + 1, g, l, h => by
    unfold splN
    split
    · exact h
    · rename_i q
      exact splN_le f _ _ (rnd_le h (fun z => q (Or.inr z)))
theorem splN_left {want sh : Nat → Nat} : ∀ (f : Nat) (g : Nat → Nat) (l : Nat), (splN want sh f g l).2 ≤ l
  | 0, g, l => Nat.le_refl l
  | f + 1, g, l => by
    unfold splN
    split
    · exact Nat.le_refl l
    · rename_i q
      have := rnd_lt (want := want) (sh := sh) (g := g) (l := l) (fun z => q (Or.inl z))
      exact Nat.le_trans (splN_left f _ _) (by omega)
/-! splitting in HaggleWash: HeatSplit -/
def gI (g : Nat → Nat) : Row := fun i => nI (g i)
theorem gI_upd (g : Nat → Nat) (k x : Nat) : upd (gI g) k (nI x) = gI (updN g k x) := by
  funext i
  unfold upd gI updN
  split <;> rfl
def sX (h : Hp) (r : Nat) (f : Row) : Hp := (fun c => if c = r then f else hI h c, hL h, hR h, hT h, hN h)
theorem hI_sX (h : Hp) (r : Nat) (f : Row) : hI (sX h r f) r = f := if_pos rfl
theorem hI_sXn (h : Hp) (r : Nat) (f : Row) (c : Nat) (hc : c ≠ r) : hI (sX h r f) c = hI h c := if_neg hc
theorem hT_sX (h : Hp) (r : Nat) (f : Row) : hT (sX h r f) = hT h := rfl
theorem hR_sX (h : Hp) (r : Nat) (f : Row) : hR (sX h r f) = hR h := rfl
theorem hL_sX (h : Hp) (r : Nat) (f : Row) : hL (sX h r f) = hL h := rfl
theorem hN_sX (h : Hp) (r : Nat) (f : Row) : hN (sX h r f) = hN h := rfl
theorem sI_sX (h : Hp) (r k : Nat) (f : Row) (v : Int32) : sI (sX h r f) r k v = sX h r (upd f k v) := by
  unfold sI sX
  refine Prod.ext ?_ rfl
  funext c j
  show (if c = r ∧ j = k then v else (if c = r then f else hI h c) j) = (if c = r then upd f k v else hI h c) j
  by_cases q : c = r
  · subst q
    simp [upd]
  · simp [q]
theorem sX_sX (h : Hp) (r : Nat) (f g : Row) : sX (sX h r f) r g = sX h r g := by
  unfold sX
  refine Prod.ext ?_ rfl
  funext c
  show (if c = r then g else (if c = r then f else hI h c)) = (if c = r then g else hI h c)
  by_cases q : c = r
  · rw [if_pos q, if_pos q]
  · rw [if_neg q, if_neg q, if_neg q]
theorem sX_self (h : Hp) (r : Nat) : sX h r (hI h r) = h := by
  unfold sX
  have : (fun c => if c = r then hI h r else hI h c) = hI h := by
    funext c
    by_cases q : c = r
    · rw [if_pos q, q]
    · rw [if_neg q]
  rw [this]
  rfl
theorem Sh.s0 {h : Hp} (S : Sh h) : hT h 235 = (0, 0) := S.2.2.2.2.1.1
theorem Sh.s1 {h : Hp} (S : Sh h) : hR h 235 0 = 236 := S.2.2.2.2.1.2.1
theorem Sh.s2 {h : Hp} (S : Sh h) : hR h 235 1 = 237 := S.2.2.2.2.1.2.2.1
theorem Sh.s3 {h : Hp} (S : Sh h) : hR h 235 2 = 238 := S.2.2.2.2.1.2.2.2.1
theorem Sh.s6 {h : Hp} (S : Sh h) : hT h 236 = (20, 8) := S.2.2.2.2.1.2.2.2.2.1
theorem Sh.s7 {h : Hp} (S : Sh h) : hT h 237 = (20, 8) := S.2.2.2.2.1.2.2.2.2.2.1
theorem Sh.s8 {h : Hp} (S : Sh h) : hT h 238 = (20, 8) := S.2.2.2.2.1.2.2.2.2.2.2
/-- what the arrays of a split hold: wants, shares -/
def SP (h : Hp) (want sh : Nat → Nat) : Prop := (∀ i, i < 8 → hI h 236 i = nI (want i) ∧ hI h 237 i = nI (sh i) ∧ want i ≤ 250 ∧ sh i ≤ 1000)
theorem c_isWanting {h : Hp} (S : Sh h) {want sh g : Nat → Nat} (P : SP h want sh) (hg : ∀ i, g i ≤ want i) {i : Nat} (hi : i < 8) : s_X0_isWanting 235 (nI i) (sX h 238 (gI g)) = some (if g i < want i then 1 else 0, sX h 238 (gI g)) := by
  obtain ⟨p1, p2, p3, p4⟩ := P i hi
  have := hg i
  unfold s_X0_isWanting
  simp only [getI, getL, getR, putI, putZ, putL, putR, ldI, ldR, stI, stR, divI, divL, bnd, inv, retI, retZ, retC, retR, retU, hT_sI, hT_sL, hT_sR, hR_sI, hR_sL, hN_sI, hN_sL, hN_sR, hI_sL, hI_sR, hL_sI, hL_sR, ↓reduceIte, true_and, and_true, and_self, ne_eq, not_false_eq_true, not_true_eq_false, reduceCtorEq, if_true, if_false, hT_sX, hR_sX, S.s0, S.s1, S.s3, S.s6, S.s8, nI_ge0 (show i < 2 ^ 31 by omega), nI_clamp (show i < 2 ^ 31 by omega), hi, hI_sX, hI_sXn h 238 (gI g) 236 (by omega), p1, gI, nI_leE (show want i < 2 ^ 31 by omega) (show g i < 2 ^ 31 by omega), show ((236 : Nat) = 0) = False from eq_false (by decide), show ((238 : Nat) = 0) = False from eq_false (by decide)]
  by_cases q : g i < want i
  · rw [if_neg (by omega), if_pos q]
    simp
  · rw [if_pos (by omega), if_neg q]
    simp
theorem c_lowestL {h : Hp} (S : Sh h) {want sh g : Nat → Nat} (P : SP h want sh) (hg : ∀ i, g i ≤ want i) : ∀ (d k f : Nat), k + d = 8 → d < f → s_X0_lowestWanting_L2 f 235 (nI k) (sX h 238 (gI g)) = some (if lowF want g d k = 8 then -5 else nI (lowF want g d k), sX h 238 (gI g))
  | 0, k, f, hk, hf => by
    obtain ⟨m, rfl, -⟩ := fuel_succ hf
    rw [s_X0_lowestWanting_L2]
    have : k = 8 := by omega
    subst this
    rw [if_pos (show (8 : Int32) ≤ nI 8 by decide)]
    rfl
  | d + 1, k, f, hk, hf => by
    obtain ⟨m, rfl, hm⟩ := fuel_succ hf
    rw [s_X0_lowestWanting_L2]
    unfold lowF
    simp only [show (8 : Int32) = nI 8 from rfl, nI_leE (show 8 < 2 ^ 31 by omega) (show k < 2 ^ 31 by omega), show ¬ (8 ≤ k) by omega, if_false, inv, bnd, hT_sX, S.s0, c_isWanting S P hg (show k < 8 by omega), if_true, nI_1]
    by_cases q : g k < want k
    · rw [if_pos q, if_neg (show ¬ (1 : Int32) = 0 by decide), if_pos q, if_neg (by omega)]
      rfl
    · rw [if_neg q, if_pos rfl, if_neg q]
      exact c_lowestL S P hg d (k + 1) m (by omega) (by omega)
theorem c_lowest {h : Hp} (S : Sh h) {want sh g : Nat → Nat} (P : SP h want sh) (hg : ∀ i, g i ≤ want i) : s_X0_lowestWanting 235 (sX h 238 (gI g)) = some (if lowF want g 8 0 = 8 then -5 else nI (lowF want g 8 0), sX h 238 (gI g)) := c_lowestL S P hg 8 0 100000 rfl (by omega)
theorem c_sharesL {h : Hp} (S : Sh h) {want sh g : Nat → Nat} (P : SP h want sh) (hg : ∀ i, g i ≤ want i) : ∀ (d k f x : Nat), k + d = 8 → d < f → s_X0_sharesOfWanting_L4 f 235 (nI x) (nI k) (sX h 238 (gI g)) = some (nI (x + allF want sh g d k), sX h 238 (gI g))
  | 0, k, f, x, hk, hf => by
    obtain ⟨m, rfl, -⟩ := fuel_succ hf
    rw [s_X0_sharesOfWanting_L4]
    have : k = 8 := by omega
    subst this
    rw [if_pos (show (8 : Int32) ≤ nI 8 by decide)]
    rfl
  | d + 1, k, f, x, hk, hf => by
    obtain ⟨m, rfl, hm⟩ := fuel_succ hf
    rw [s_X0_sharesOfWanting_L4]
    unfold allF
    have hk8 : k < 8 := by omega
    simp only [show (8 : Int32) = nI 8 from rfl, nI_leE (show 8 < 2 ^ 31 by omega) (show k < 2 ^ 31 by omega), show ¬ (8 ≤ k) by omega, if_false, inv, bnd, hT_sX, hR_sX, S.s0, c_isWanting S P hg hk8, if_true, nI_1, getR, ldI, S.s2, S.s7, nI_ge0 (show k < 2 ^ 31 by omega), nI_clamp (show k < 2 ^ 31 by omega), hk8, hI_sXn h 238 (gI g) 237 (by omega), (P k hk8).2.1, nI_add, true_and, and_self, show ((237 : Nat) = 0) = False from eq_false (by decide), ne_eq, not_false_eq_true]
    by_cases q : g k < want k
    · rw [if_pos q, if_neg (show ¬ (1 : Int32) = 0 by decide), if_pos q, ← Nat.add_assoc]
      exact c_sharesL S P hg d (k + 1) m (x + sh k) (by omega) (by omega)
    · rw [if_neg q, if_pos rfl, if_neg q, Nat.zero_add, show (0 : Int32) = nI 0 from rfl, nI_add, Nat.add_zero]
      exact c_sharesL S P hg d (k + 1) m x (by omega) (by omega)
theorem c_sharesOf {h : Hp} (S : Sh h) {want sh g : Nat → Nat} (P : SP h want sh) (hg : ∀ i, g i ≤ want i) : s_X0_sharesOfWanting 235 (sX h 238 (gI g)) = some (nI (allF want sh g 8 0), sX h 238 (gI g)) := by
  have := c_sharesL S P hg 8 0 100000 0 rfl (by omega)
  rw [Nat.zero_add] at this
  exact this
theorem allF_le {want sh g : Nat → Nat} (hs : ∀ i, i < 8 → sh i ≤ 1000) : ∀ (d k : Nat), k + d ≤ 8 → allF want sh g d k ≤ 1000 * d
  | 0, _, _ => Nat.le_refl 0
  | d + 1, k, hk => by
    unfold allF
    have := allF_le (want := want) (g := g) hs d (k + 1) (by omega)
    have := hs k (by omega)
    split <;> omega
theorem c_partsL {h : Hp} (S : Sh h) {want sh : Nat → Nat} (P : SP h want sh) {all beg : Nat} (h0 : all ≠ 0) (ha : all < 2 ^ 20) (hb : beg ≤ 2000) : ∀ (d k f x : Nat) (g : Nat → Nat), k + d = 8 → d < f → (∀ i, g i ≤ want i) → s_X0_giveParts_L5 f 235 (nI beg) (nI all) (nI x) (nI k) (sX h 238 (gI g)) = some (nI (x + gvF want sh g all beg d k), sX h 238 (gI (giveF want sh g all beg d k)))
  | 0, k, f, x, g, hk, hf, hg => by
    obtain ⟨m, rfl, -⟩ := fuel_succ hf
    rw [s_X0_giveParts_L5]
    have : k = 8 := by omega
    subst this
    rw [giveF_zero]
    simp only [show (0 : Int32) = nI 0 from rfl, nI_leE (show all < 2 ^ 31 by omega) (show 0 < 2 ^ 31 by omega), show ¬ (all ≤ 0) by omega, if_false, if_pos (show (8 : Int32) ≤ nI 8 by decide)]
    rfl
  | d + 1, k, f, x, g, hk, hf, hg => by
    obtain ⟨m, rfl, hm⟩ := fuel_succ hf
    rw [s_X0_giveParts_L5]
    have hk8 : k < 8 := by omega
    obtain ⟨p1, p2, p3, p4⟩ := P k hk8
    have hgk := hg k
    have hpr : beg * sh k < 2 ^ 31 := by
      have : beg * sh k ≤ 2000 * 1000 := Nat.mul_le_mul hb p4
      omega
    have hdl : beg * sh k / all < 2 ^ 31 := Nat.lt_of_le_of_lt (Nat.div_le_self _ _) hpr
    have hmin : (if nI (want k - g k) < nI (beg * sh k / all) then nI (want k - g k) else nI (beg * sh k / all)) = nI (prt want sh all beg (g k) k) := by
      unfold prt
      rw [if_neg h0]
      by_cases q : want k - g k < beg * sh k / all
      · rw [if_pos ((nI_ltI (by omega) hdl).mpr q), Nat.min_eq_right (by omega)]
      · rw [if_neg (fun z => q ((nI_ltI (by omega) hdl).mp z)), Nat.min_eq_left (by omega)]
    have hne : ¬ nI all = 0 := by rw [nI_0' _ (by omega)]; exact h0
    simp only [show (0 : Int32) = nI 0 from rfl, show (8 : Int32) = nI 8 from rfl, nI_leE (show all < 2 ^ 31 by omega) (show 0 < 2 ^ 31 by omega), nI_leE (show 8 < 2 ^ 31 by omega) (show k < 2 ^ 31 by omega), show ¬ (all ≤ 0) by omega, show ¬ (8 ≤ k) by omega, if_false]
    simp only [getI, getL, getR, putI, putZ, putL, putR, ldI, ldR, stI, stR, divI, divL, bnd, inv, retI, retZ, retC, retR, retU, hT_sI, hT_sL, hT_sR, hR_sI, hR_sL, hN_sI, hN_sL, hN_sR, hI_sL, hI_sR, hL_sI, hL_sR, ↓reduceIte, true_and, and_true, and_self, ne_eq, not_false_eq_true, not_true_eq_false, reduceCtorEq, if_true, if_false, hT_sX, hR_sX, S.s0, S.s1, S.s2, S.s3, S.s6, S.s7, S.s8, nI_ge0 (show k < 2 ^ 31 by omega), nI_clamp (show k < 2 ^ 31 by omega), hk8, hI_sX, hI_sXn h 238 (gI g) 236 (by omega), hI_sXn h 238 (gI g) 237 (by omega), p1, p2, nI_mul, hne, nI_div hpr (show all < 2 ^ 31 by omega) h0, show gI g k = nI (g k) from rfl, nI_sub hgk, hmin, nI_add, sI_sX, gI_upd, nI_1, show ((236 : Nat) = 0) = False from eq_false (by decide), show ((237 : Nat) = 0) = False from eq_false (by decide), show ((238 : Nat) = 0) = False from eq_false (by decide), show (nI 0 ≤ nI k) = True from eq_true (nI_le (by omega) (by omega))]
    have hp2 := Nat.min_le_right (if all = 0 then 0 else beg * sh k / all) (want k - g k)
    have ih := c_partsL S P h0 ha hb d (k + 1) m (x + prt want sh all beg (g k) k) (updN g k (g k + prt want sh all beg (g k) k)) (by omega) (by omega) (fun i => by
      unfold updN
      split
      · rename_i q
        rw [q]
        unfold prt
        omega
      · exact hg i)
    rw [giveF_succ, gvF_congr d (k + 1) (g := g) (fun i hi => by unfold updN; rw [if_neg (by omega)]), Nat.add_assoc] at ih
    exact ih
