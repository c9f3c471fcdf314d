/-! the reference's split -/
def nonB (want g : Nat → Nat) (n : Nat) : Prop := ∀ i, n ≤ i → i < 8 → ¬ g i < want i
theorem allF_ext {want sh g : Nat → Nat} : ∀ (d e k : Nat), (∀ i, k + d ≤ i → i < k + d + e → ¬ g i < want i) → allF want sh g (d + e) k = allF want sh g d k
  | 0, 0, _, _ => rfl
  | 0, e + 1, k, h => by
    rw [show 0 + (e + 1) = (0 + e) + 1 by omega]
    unfold allF
    rw [if_neg (h k (by omega) (by omega)), Nat.zero_add, allF_ext 0 e (k + 1) (fun i h1 h2 => h i (by omega) (by omega))]
    rfl
  | d + 1, e, k, h => by
    rw [show d + 1 + e = (d + e) + 1 by omega]
    unfold allF
    rw [allF_ext d e (k + 1) (fun i h1 h2 => h i (by omega) (by omega))]
theorem gvF_ext {want sh g : Nat → Nat} {all beg : Nat} : ∀ (d e k : Nat), (∀ i, k + d ≤ i → i < k + d + e → ¬ g i < want i) → gvF want sh g all beg (d + e) k = gvF want sh g all beg d k
  | 0, 0, _, _ => rfl
  | 0, e + 1, k, h => by
    rw [show 0 + (e + 1) = (0 + e) + 1 by omega]
    unfold gvF
    rw [prt_0 (h k (by omega) (by omega)), Nat.zero_add, gvF_ext 0 e (k + 1) (fun i h1 h2 => h i (by omega) (by omega))]
    rfl
  | d + 1, e, k, h => by
    rw [show d + 1 + e = (d + e) + 1 by omega]
    unfold gvF
    rw [gvF_ext d e (k + 1) (fun i h1 h2 => h i (by omega) (by omega))]
theorem lowF_ext {want g : Nat → Nat} : ∀ (d e k : Nat), (∀ i, k + d ≤ i → i < k + d + e → ¬ g i < want i) → lowF want g (d + e) k = lowF want g d k
  | 0, 0, _, _ => rfl
  | 0, e + 1, k, h => by
    rw [show 0 + (e + 1) = (0 + e) + 1 by omega]
    unfold lowF
    rw [if_neg (h k (by omega) (by omega)), lowF_ext 0 e (k + 1) (fun i h1 h2 => h i (by omega) (by omega))]
    rfl
  | d + 1, e, k, h => by
    rw [show d + 1 + e = (d + e) + 1 by omega]
    unfold lowF
    rw [lowF_ext d e (k + 1) (fun i h1 h2 => h i (by omega) (by omega))]
theorem giveF_ext {want sh g : Nat → Nat} {all beg d e k : Nat} (h : ∀ i, k + d ≤ i → i < k + d + e → ¬ g i < want i) : giveF want sh g all beg (d + e) k = giveF want sh g all beg d k := by
  funext i
  unfold giveF
  by_cases q : k ≤ i ∧ i < k + d
  · rw [if_pos q, if_pos (by omega)]
  · by_cases r : k ≤ i ∧ i < k + (d + e)
    · rw [if_pos r, if_neg q, prt_0 (h i (by omega) (by omega)), Nat.add_zero]
    · rw [if_neg r, if_neg q]
/-- what the reference's split looks at: n houses, their wants in the row a, their shares -/
def RP (h : Hp) (w a : Row) (n : Nat) (want sh : Nat → Nat) : Prop := n ≤ 8 ∧ w 2 = nI n ∧ (∀ i, i < 8 → a i = nI (want i) ∧ want i ≤ 250 ∧ sh i ≤ 1000 ∧ (n ≤ i → want i = 0)) ∧ ∀ i, i < n → ∀ b, s_X9_sharesOf 241 (nI i) (sQ h w a b) = some (nI (sh i), sQ h w a b)
theorem r_wshL {h : Hp} (S : Sh h) {w a : Row} {n : Nat} {want sh g : Nat → Nat} (P : RP h w a n want sh) (hg : ∀ i, g i ≤ want i) : ∀ (d k f x : Nat), k + d = n → d < f → s_X9_wantingShares_L4 f 241 (nI x) (nI k) (sQ h w a (gI g)) = some (nI (x + allF want sh g d k), sQ h w a (gI g))
  | 0, k, f, x, hk, hf => by
    obtain ⟨m, rfl, -⟩ := fuel_succ hf
    obtain ⟨h8, hn, hp, hs⟩ := P
    rw [s_X9_wantingShares_L4]
    simp only [getR, ldI, hT_sQ, hR_sQ, S.m0, S.m1, S.m2, hI_sQ2, cl_2, hn, nI_leE (show n < 2 ^ 31 by omega) (show k < 2 ^ 31 by omega), show n ≤ k by omega, true_and, show ((242 : Nat) = 0) = False from eq_false (by decide), ne_eq, not_false_eq_true, if_true, show ((0 : Int32) ≤ 2) = True from eq_true (by decide), show ((2 : Nat) < 401) = True from eq_true (by decide)]
    rfl
  | d + 1, k, f, x, hk, hf => by
    obtain ⟨m, rfl, hm⟩ := fuel_succ hf
    have P' := P
    obtain ⟨h8, hn, hp, hs⟩ := P
    have hk8 : k < 8 := by omega
    obtain ⟨p1, p2, p3, p4⟩ := hp k hk8
    have hgk := hg k
    rw [s_X9_wantingShares_L4]
    unfold allF
    simp only [getR, ldI, inv, bnd, hT_sQ, hR_sQ, S.m0, S.m1, S.m2, S.m7, S.m8, S.m9, S.m48, hI_sQ2, hI_sQ7, hI_sQ8, cl_2, hn, nI_leE (show n < 2 ^ 31 by omega) (show k < 2 ^ 31 by omega), show ¬ (n ≤ k) by omega, true_and, show ((242 : Nat) = 0) = False from eq_false (by decide), show ((247 : Nat) = 0) = False from eq_false (by decide), show ((248 : Nat) = 0) = False from eq_false (by decide), ne_eq, not_false_eq_true, if_true, if_false, show ((0 : Int32) ≤ 2) = True from eq_true (by decide), show ((2 : Nat) < 401) = True from eq_true (by decide), nI_ge0 (show k < 2 ^ 31 by omega), nI_clamp (show k < 2 ^ 31 by omega), hk8, p1, show gI g k = nI (g k) from rfl, nI_leE (show want k < 2 ^ 31 by omega) (show g k < 2 ^ 31 by omega), hs k (show k < n by omega) (gI g), nI_add, nI_1]
    by_cases q : g k < want k
    · rw [if_neg (by omega), if_pos q, ← Nat.add_assoc]
      exact r_wshL S P' hg d (k + 1) m (x + sh k) (by omega) (by omega)
    · rw [if_pos (by omega), if_neg q, Nat.zero_add, show (0 : Int32) = nI 0 from rfl, nI_add, Nat.add_zero]
      exact r_wshL S P' hg d (k + 1) m x (by omega) (by omega)
def loI (lo : Nat) : Int32 := if lo = 8 then -5 else nI lo
theorem loI_ne {lo : Nat} (h : lo < 8) : ¬ (nI lo = -5) := by
  intro z
  have := congrArg Int32.toInt z
  rw [nI_toInt (by omega), show (-5 : Int32).toInt = -5 from by decide] at this
  omega
theorem r_L75 {h : Hp} (S : Sh h) {w a : Row} {n : Nat} {want sh : Nat → Nat} (P : RP h w a n want sh) {all beg : Nat} {v1 : Int32} {k204 : Nat → Int32 → Int32 → Int32 → Int32 → Hp → Rv Int32} (ha : all < 2 ^ 20) (hb : beg ≤ 2000) : ∀ (d k f l lo : Nat) (g : Nat → Nat), k + d = n → d < f → (∀ i, g i ≤ want i) → gvF want sh g all beg d k ≤ l → (lo < 8 ∨ lo = 8) →
    s_X9_split_L75 k204 f 241 v1 (nI l) (loI lo) (nI all) (nI beg) (nI k) (sQ h w a (gI g)) = k204 241 v1 (nI (rL want sh all beg d k g l lo).2.1) (loI (rL want sh all beg d k g l lo).2.2) (nI beg) (sQ h w a (gI (rL want sh all beg d k g l lo).1))
  | 0, k, f, l, lo, g, hk, hf, hg, hl, hlo => by
    obtain ⟨m, rfl, -⟩ := fuel_succ hf
    obtain ⟨h8, hn, hp, hs⟩ := P
    rw [s_X9_split_L75]
    simp only [getR, ldI, hT_sQ, hR_sQ, S.m0, S.m1, S.m2, hI_sQ2, cl_2, hn, nI_leE (show n < 2 ^ 31 by omega) (show k < 2 ^ 31 by omega), show n ≤ k by omega, true_and, show ((242 : Nat) = 0) = False from eq_false (by decide), ne_eq, not_false_eq_true, if_true, show ((0 : Int32) ≤ 2) = True from eq_true (by decide), show ((2 : Nat) < 401) = True from eq_true (by decide)]
    rfl
  | d + 1, k, f, l, lo, g, hk, hf, hg, hl, hlo => by
    obtain ⟨m, rfl, hm⟩ := fuel_succ hf
    have P' := P
    obtain ⟨h8, hn, hp, hs⟩ := P
    have hk8 : k < 8 := by omega
    obtain ⟨p1, p2, p3, p4⟩ := hp k hk8
    have hgk := hg k
    have hpr : beg * sh k < 2 ^ 31 := by
      have : beg * sh k ≤ 2000 * 1000 := Nat.mul_le_mul hb p3
      omega
    have hdl : beg * sh k / all < 2 ^ 31 := Nat.lt_of_le_of_lt (Nat.div_le_self _ _) hpr
    unfold gvF at hl
    have cg : ∀ i, k + 1 ≤ i → updN g k (g k + prt want sh all beg (g k) k) i = g i := fun i hi => by
      unfold updN
      rw [if_neg (by omega)]
    have hp2 := Nat.min_le_right (if all = 0 then 0 else beg * sh k / all) (want k - g k)
    have hg2 : ∀ i, updN g k (g k + prt want sh all beg (g k) k) i ≤ want i := fun i => by
      unfold updN
      split
      · rename_i q
        rw [q]
        unfold prt
        omega
      · exact hg i
    rw [s_X9_split_L75]
    unfold rL
    simp only [getR, ldI, inv, bnd, hT_sQ, hR_sQ, S.m0, S.m1, S.m2, S.m7, S.m8, S.m9, S.m48, hI_sQ2, hI_sQ7, hI_sQ8, cl_2, hn, nI_leE (show n < 2 ^ 31 by omega) (show k < 2 ^ 31 by omega), show ¬ (n ≤ k) by omega, true_and, show ((242 : Nat) = 0) = False from eq_false (by decide), show ((247 : Nat) = 0) = False from eq_false (by decide), show ((248 : Nat) = 0) = False from eq_false (by decide), ne_eq, not_false_eq_true, if_true, if_false, show ((0 : Int32) ≤ 2) = True from eq_true (by decide), show ((2 : Nat) < 401) = True from eq_true (by decide), nI_ge0 (show k < 2 ^ 31 by omega), nI_clamp (show k < 2 ^ 31 by omega), hk8, p1, show gI g k = nI (g k) from rfl, nI_leE (show want k < 2 ^ 31 by omega) (show g k < 2 ^ 31 by omega), hs k (show k < n by omega) (gI g), nI_mul, nI_1, nI_0' all (show all < 2 ^ 31 by omega)]
    by_cases q : g k < want k
    · rw [if_neg (by omega), if_pos q]
      have J124 : ∀ x : Nat, x < 2 ^ 31 → prt want sh all beg (g k) k = min x (want k - g k) → s_X9_split_J124 (fun y0 y1 y2 y3 y4 y5 y6 h => s_X9_split_L75 k204 m y0 y1 y2 y3 y4 y5 y6 h) 241 v1 (nI l) (loI lo) (nI all) (nI beg) (nI k) (nI x) (sQ h w a (gI g)) = k204 241 v1 (nI (rL want sh all beg d (k + 1) (updN g k (g k + prt want sh all beg (g k) k)) (l - prt want sh all beg (g k) k) (if lo = 8 then k else lo)).2.1) (loI (rL want sh all beg d (k + 1) (updN g k (g k + prt want sh all beg (g k) k)) (l - prt want sh all beg (g k) k) (if lo = 8 then k else lo)).2.2) (nI beg) (sQ h w a (gI (rL want sh all beg d (k + 1) (updN g k (g k + prt want sh all beg (g k) k)) (l - prt want sh all beg (g k) k) (if lo = 8 then k else lo)).1)) := by
        intro x hx hpx
        have J180 : ∀ (y z : Int32), y = nI (prt want sh all beg (g k) k) → z = loI (if lo = 8 then k else lo) → s_X9_split_J180 (fun y0 y1 y2 y3 y4 y5 y6 h => s_X9_split_L75 k204 m y0 y1 y2 y3 y4 y5 y6 h) 241 v1 (nI l) (nI all) (nI beg) (nI k) y z (sQ h w a (gI g)) = k204 241 v1 (nI (rL want sh all beg d (k + 1) (updN g k (g k + prt want sh all beg (g k) k)) (l - prt want sh all beg (g k) k) (if lo = 8 then k else lo)).2.1) (loI (rL want sh all beg d (k + 1) (updN g k (g k + prt want sh all beg (g k) k)) (l - prt want sh all beg (g k) k) (if lo = 8 then k else lo)).2.2) (nI beg) (sQ h w a (gI (rL want sh all beg d (k + 1) (updN g k (g k + prt want sh all beg (g k) k)) (l - prt want sh all beg (g k) k) (if lo = 8 then k else lo)).1)) := by
          intro y z hy hz
          unfold s_X9_split_J180
          subst hy
          subst hz
          simp only [getR, ldI, stI, hT_sQ, hR_sQ, S.m0, S.m9, S.m48, hI_sQ8, true_and, and_self, show ((248 : Nat) = 0) = False from eq_false (by decide), ne_eq, not_false_eq_true, if_true, nI_ge0 (show k < 2 ^ 31 by omega), nI_clamp (show k < 2 ^ 31 by omega), hk8, show gI g k = nI (g k) from rfl, nI_add, sI_sQ8, gI_upd, nI_1, nI_sub (show prt want sh all beg (g k) k ≤ l by omega)]
          exact r_L75 S P' ha hb d (k + 1) m _ _ _ (by omega) (by omega) hg2 (by rw [gvF_congr d (k + 1) cg]; omega) (by split <;> omega)
        have J166 : ∀ (y : Int32), y = nI (prt want sh all beg (g k) k) → s_X9_split_J166 (fun y0 y1 y2 y3 y4 y5 y6 h => s_X9_split_L75 k204 m y0 y1 y2 y3 y4 y5 y6 h) 241 v1 (nI l) (loI lo) (nI all) (nI beg) (nI k) y (sQ h w a (gI g)) = k204 241 v1 (nI (rL want sh all beg d (k + 1) (updN g k (g k + prt want sh all beg (g k) k)) (l - prt want sh all beg (g k) k) (if lo = 8 then k else lo)).2.1) (loI (rL want sh all beg d (k + 1) (updN g k (g k + prt want sh all beg (g k) k)) (l - prt want sh all beg (g k) k) (if lo = 8 then k else lo)).2.2) (nI beg) (sQ h w a (gI (rL want sh all beg d (k + 1) (updN g k (g k + prt want sh all beg (g k) k)) (l - prt want sh all beg (g k) k) (if lo = 8 then k else lo)).1)) := by
          intro y hy
          unfold s_X9_split_J166
          by_cases e : lo = 8
          · have e1 : loI lo = -5 := by unfold loI; rw [if_pos e]
            rw [if_pos e1]
            exact J180 y (nI k) hy (by rw [if_pos e]; unfold loI; rw [if_neg (by omega)])
          · have e1 : loI lo = nI lo := by unfold loI; rw [if_neg e]
            rw [if_neg (by rw [e1]; exact loI_ne (by omega))]
            exact J180 y (loI lo) hy (by rw [if_neg e])
        unfold s_X9_split_J124
        simp only [getR, ldI, hT_sQ, hR_sQ, S.m0, S.m7, S.m8, S.m9, S.m48, hI_sQ7, hI_sQ8, true_and, show ((247 : Nat) = 0) = False from eq_false (by decide), show ((248 : Nat) = 0) = False from eq_false (by decide), ne_eq, not_false_eq_true, if_true, nI_ge0 (show k < 2 ^ 31 by omega), nI_clamp (show k < 2 ^ 31 by omega), hk8, p1, show gI g k = nI (g k) from rfl, nI_sub hgk, nI_leE (show want k - g k < 2 ^ 31 by omega) hx]
        by_cases c : want k - g k ≤ x
        · rw [if_pos c]
          exact J166 _ (by rw [hpx, Nat.min_eq_right c])
        · rw [if_neg c]
          exact J166 _ (by rw [hpx, Nat.min_eq_left (by omega)])
      by_cases e : all = 0
      · rw [if_pos e]
        exact J124 0 (by omega) (by unfold prt; rw [if_pos e])
      · rw [if_neg e]
        simp only [divI, nI_0' all (show all < 2 ^ 31 by omega), if_neg e, nI_div hpr (show all < 2 ^ 31 by omega) e]
        exact J124 (beg * sh k / all) hdl (by unfold prt; rw [if_neg e])
    · rw [if_pos (by omega), if_neg q]
      rw [prt_0 q, Nat.zero_add] at hl
      exact r_L75 S P' ha hb d (k + 1) m l lo g (by omega) (by omega) hg hl hlo
theorem r_splitL {h : Hp} (S : Sh h) {w a : Row} {n : Nat} {want sh : Nat → Nat} (P : RP h w a n want sh) {v1 : Int32} : ∀ (l f lo : Nat) (g : Nat → Nat), l + 1 < f → l ≤ 2000 → lo < 8 → (∀ i, g i ≤ want i) →
    s_X9_split_L50 f 241 v1 (nI l) (nI lo) (sQ h w a (gI g)) = some (v1 - nI (splN want sh l g l).2, sQ h w a (gI (splN want sh l g l).1)) := by
  intro l
  induction l using Nat.strongRecOn with
  | ind l ih =>
    intro f lo g hf hl2 hlo hg
    obtain ⟨m, rfl, hm⟩ := fuel_succ hf
    obtain ⟨h8, hn, hp, hs⟩ := id P
    rw [s_X9_split_L50]
    by_cases hl : l = 0
    · subst hl
      rw [if_pos (show nI 0 ≤ 0 by decide)]
      rfl
    · have c2 : ¬ (nI l ≤ 0) := nI_nle (by omega) (by omega)
      obtain ⟨l', rfl⟩ : ∃ l', l = l' + 1 := ⟨l - 1, by omega⟩
      have hws := r_wshL S P hg n 0 100000 0 (by omega) (by omega)
      rw [Nat.zero_add] at hws
      have hws' : s_X9_wantingShares 241 (sQ h w a (gI g)) = some (nI (allF want sh g n 0), sQ h w a (gI g)) := hws
      have nb : ∀ i, 0 + n ≤ i → i < 0 + n + (8 - n) → ¬ g i < want i := fun i i1 i2 => by
        have := (hp i (by omega)).2.2.2 (by omega)
        omega
      have e8 : n + (8 - n) = 8 := by omega
      have eall := allF_ext (want := want) (sh := sh) (g := g) n (8 - n) 0 nb
      have elow := lowF_ext (want := want) (g := g) n (8 - n) 0 nb
      rw [e8] at eall elow
      have ha := allF_le (want := want) (g := g) (fun i hi => (hp i hi).2.2.1) 8 0 (by omega)
      have egv := gvF_ext (want := want) (sh := sh) (g := g) (all := allF want sh g 8 0) (beg := l' + 1) n (8 - n) 0 nb
      have egi := giveF_ext (want := want) (sh := sh) (g := g) (all := allF want sh g 8 0) (beg := l' + 1) (k := 0) (d := n) (e := 8 - n) nb
      rw [e8] at egv egi
      have hgv := gv_left (want := want) (sh := sh) (g := g) (beg := l' + 1) 8 0
      rw [if_neg c2, if_neg (loI_ne hlo)]
      simp only [inv, bnd, hT_sQ, S.m0, if_true, hws', ← eall]
      have h75 := r_L75 S P (all := allF want sh g 8 0) (beg := l' + 1) (v1 := v1) (k204 := fun y0 y1 y2 y3 y4 h => if y3 = (-5) then s_X9_split_L50 m y0 y1 y2 y3 h
  else if y2 = y4 then getR h y0 9 9 fun x26 =>
  ldI h x26 20 y3 fun x27 =>
  stI h x26 20 y3 (x27 + 1) fun h =>
  s_X9_split_L50 m y0 y1 (y2 + (-1)) y3 h
  else s_X9_split_L50 m y0 y1 y2 y3 h) (by omega) hl2 n 0 100000 (l' + 1) 8 g (by omega) (by omega) hg (by rw [← egv]; exact hgv) (Or.inr rfl)
      rw [rL_eq n 0 g (l' + 1) 8 (by omega), if_pos rfl, ← egv, ← egi, ← elow] at h75
      rw [show (-5 : Int32) = loI 8 from rfl, show (0 : Int32) = nI 0 from rfl]
      rw [show loI 8 = (-5 : Int32) from rfl] at *
      refine h75.trans ?_
      by_cases h88 : lowF want g 8 0 = 8
      · have e : splN want sh (l' + 1) g (l' + 1) = (g, l' + 1) := by
          unfold splN
          rw [if_pos (Or.inr h88)]
        have none : ∀ i, i < 8 → ¬ g i < want i := by
          rcases lowF_is (want := want) (g := g) 8 0 (by omega) with ⟨a, b⟩ | ⟨a, b, c, -⟩
          · exact fun i hi => b i (by omega) (by omega)
          · omega
        have hz' : ∀ (d k : Nat), k + d ≤ 8 → gvF want sh g (allF want sh g 8 0) (l' + 1) d k = 0 ∧ giveF want sh g (allF want sh g 8 0) (l' + 1) d k = g := by
          intro d
          induction d with
          | zero => intro k _; exact ⟨rfl, giveF_zero _ _ _ _ _ _⟩
          | succ d ihd =>
            intro k e
            obtain ⟨i1, i2⟩ := ihd (k + 1) (by omega)
            refine ⟨?_, ?_⟩
            · unfold gvF
              rw [i1, prt_0 (none k (by omega))]
            · rw [← giveF_skip (none k (by omega))]
              exact i2
        obtain ⟨z1, z2⟩ := hz' 8 0 (by omega)
        rw [h88, z1, z2, e, if_pos (show loI 8 = -5 from rfl)]
        obtain ⟨m', rfl, -⟩ := fuel_succ (show 0 < m by omega)
        rw [s_X9_split_L50, Nat.sub_zero, if_neg c2, if_pos (show loI 8 = -5 from rfl)]
        rfl
      · rcases lowF_is (want := want) (g := g) 8 0 (by omega) with ⟨a', -⟩ | ⟨a', b', c', -⟩
        · exact absurd a' h88
        · have elo : loI (lowF want g 8 0) = nI (lowF want g 8 0) := by unfold loI; rw [if_neg h88]
          have hrl := rnd_lt (want := want) (sh := sh) (g := g) (l := l' + 1) (by omega)
          have hrw := rnd_le (want := want) (sh := sh) (g := g) (l := l' + 1) hg h88
          have hst2 : splN want sh (l' + 1) g (l' + 1) = splN want sh (rnd want sh g (l' + 1)).2 (rnd want sh g (l' + 1)).1 (rnd want sh g (l' + 1)).2 := by
            conv => lhs; unfold splN
            rw [if_neg (by rintro (q | q); omega; exact h88 q)]
            exact splN_stable _ _ _ _ (by omega) (by omega)
          have hrec := ih (rnd want sh g (l' + 1)).2 hrl m (lowF want g 8 0) (rnd want sh g (l' + 1)).1 (by omega) (by omega) a' hrw
          rw [hst2]
          rw [elo, if_neg (loI_ne a')]
          by_cases hz : gvF want sh g (allF want sh g 8 0) (l' + 1) 8 0 = 0
          · have hgive : giveF want sh g (allF want sh g 8 0) (l' + 1) 8 0 = g := by
              have hz' : ∀ (d k : Nat), gvF want sh g (allF want sh g 8 0) (l' + 1) d k = 0 → giveF want sh g (allF want sh g 8 0) (l' + 1) d k = g := by
                intro d
                induction d with
                | zero => intro k _; exact giveF_zero _ _ _ _ _ _
                | succ d ihd =>
                  intro k e
                  unfold gvF at e
                  have e1 : prt want sh (allF want sh g 8 0) (l' + 1) (g k) k = 0 := by omega
                  rw [← giveF_succ, e1, Nat.add_zero, updN_self]
                  exact ihd (k + 1) (by omega)
              exact hz' 8 0 hz
            have hr1 : rnd want sh g (l' + 1) = (updN g (lowF want g 8 0) (g (lowF want g 8 0) + 1), l') := by
              unfold rnd
              rw [if_pos hz, Nat.add_sub_cancel]
            rw [hr1] at hrec ⊢
            have em1 : nI (l' + 1) + -1 = nI l' := by
              rw [← nI_1, Int32.add_assoc, show (1 : Int32) + -1 = 0 from by decide, Int32.add_zero]
            rw [hz, hgive, Nat.sub_zero, if_pos rfl]
            simp only [getR, ldI, stI, hT_sQ, hR_sQ, S.m0, S.m9, S.m48, hI_sQ8, true_and, and_self, show ((248 : Nat) = 0) = False from eq_false (by decide), ne_eq, not_false_eq_true, if_true, nI_ge0 (show lowF want g 8 0 < 2 ^ 31 by omega), nI_clamp (show lowF want g 8 0 < 2 ^ 31 by omega), a', show gI g (lowF want g 8 0) = nI (g (lowF want g 8 0)) from rfl, nI_1, sI_sQ8, gI_upd, em1]
            exact hrec
          · have hr1 : rnd want sh g (l' + 1) = (giveF want sh g (allF want sh g 8 0) (l' + 1) 8 0, l' + 1 - gvF want sh g (allF want sh g 8 0) (l' + 1) 8 0) := by
              unfold rnd
              rw [if_neg hz]
            rw [hr1] at hrec ⊢
            have hne : ¬ nI (l' + 1 - gvF want sh g (allF want sh g 8 0) (l' + 1) 8 0) = nI (l' + 1) := by rw [nI_eq (by omega) (by omega)]; omega
            exact (if_neg hne).trans hrec
