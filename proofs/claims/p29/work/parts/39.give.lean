/-! the heat of a minute in HaggleWash, and its work -/
def SPP (x : Nat) : Prop := x = 236 ∨ x = 237 ∨ x = 238
theorem SPP.mut {x : Nat} (h : SPP x) : Mut x := by
  refine ⟨by rcases h with h | h | h <;> omega, fun T t => ?_⟩
  unfold isSt at t
  rcases h with h | h | h <;> omega
theorem SPP.far {x T : Nat} (t : isSt T) (h : SPP x) : ¬ (T ≤ x ∧ x < T + 33) := by
  have := t.pos
  rcases h with h | h | h <;> omega
theorem SR.sp {h h' : Hp} {T n nl : Nat} {w : Row} (t : isSt T) (S : Sh h) (R : SR h T w n nl) (a : Ch SPP h h') : SR h' T w n nl := R.ch a (fun _ hx => hx.mut) t S.2.2.2.2.2.2.2.2 (fun _ hx => hx.far t)
theorem c_divL {T n nl t : Nat} {w : Row} (st : isSt T) (ht : t ≤ 40000) (B : WB w) (L : WL w n nl) (H : ∀ i, i < n → WH w i t) : ∀ (d k f : Nat) (h : Hp), k + d = 8 → d < f → Sh h → SR h T w n nl → (∀ i, 8 ≤ i → hI h 238 i = 0) → (∀ i, i < k → hI h 236 i = nI (wanA w n i) ∧ hI h 237 i = nI (if 0 < wanA w n i then shA w n nl i else 0)) →
    ∃ h', s_X6_divideHeat_L2 f T 235 (nI k) h = some ((), h') ∧ Ch SPP h h' ∧ hR h' = hR h ∧ hT h' = hT h ∧ hI h' 238 = gI (getA w n nl).1
  | 0, k, f, h, hk, hf, S, R, hz, hv => by
    obtain ⟨m, rfl, -⟩ := fuel_succ hf
    have : k = 8 := by omega
    subst this
    obtain ⟨e1, h1, e2, h2, e3, h3, e4, h4⟩ := B.n
    have s2 := R.2.2.1 2 (by omega)
    have h10 := R.1.2.2.2
    have hsw := c_storeWithInput S st R B
    have hmin := (nI_min (a := filN w) (b := outN w) (by unfold filN; omega) (by omega)).1
    have hP : SP h (wanA w n) (fun i => if 0 < wanA w n i then shA w n nl i else 0) := fun i hi => by
      obtain ⟨v1, v2⟩ := hv i hi
      refine ⟨v1, v2, ?_, ?_⟩
      · unfold wanA
        split
        · exact wanN_le w i
        · omega
      · show (if 0 < wanA w n i then shA w n nl i else 0) ≤ 1000
        split
        · unfold shA
          split
          · rename_i q
            exact (sharesF_N L h10 q).2
          · omega
        · omega
    have hdv := c_divide S hP hz (l := heaN w) (by unfold heaN; omega)
    rw [splN_sh (sh' := shA w n nl) (fun i hi => by show (if 0 < wanA w n i then shA w n nl i else 0) = _; rw [if_pos hi])] at hdv
    refine ⟨sX h 238 (gI (getA w n nl).1), ?_, ?_, rfl, rfl, hI_sX _ _ _⟩
    · rw [s_X6_divideHeat_L2, if_pos (show (8 : Int32) ≤ nI 8 by decide)]
      simp only [getI, getL, getR, putI, putZ, putL, putR, ldI, ldR, stI, stR, divI, divL, bnd, inv, retI, retZ, retC, retR, retU, hT_sI, hT_sL, hT_sR, hR_sI, hR_sL, hN_sI, hN_sL, hN_sR, hI_sL, hI_sR, hL_sI, hL_sR, ↓reduceIte, true_and, and_true, and_self, ne_eq, not_false_eq_true, not_true_eq_false, reduceCtorEq, if_true, if_false, S.t0 st, S.t1 st, S.r0 st, cl_2, s2, show ¬ (T + 1 = 0) by omega, show ((0 : Int32) ≤ 2) = True from eq_true (by decide), show ((2 : Nat) < 4) = True from eq_true (by decide), show (3 + 2 : Nat) = 5 from rfl, e3, hsw, hmin, S.s0]
      rw [show min (outN w) (filN w) = heaN w from rfl, hdv]
      rfl
    · refine ⟨Nat.le_refl _, fun _ _ => rfl, fun b _ hb => ⟨?_, rfl, rfl⟩⟩
      exact hI_sXn _ _ _ _ (fun q => hb (Or.inr (Or.inr q)))
  | d + 1, k, f, h, hk, hf, S, R, hz, hv => by
    obtain ⟨m, rfl, hm⟩ := fuel_succ hf
    have h8 := R.n8
    have h10 := R.1.2.2.2
    have hk8 : k < 8 := by omega
    have hn : hI h T 3 = nI n := by rw [R.2.1.1, R.1.1]
    rw [s_X6_divideHeat_L2]
    have J : ∀ (x : Nat), x = wanA w n k → x ≤ 250 → ∃ h', s_X6_divideHeat_J33 (fun y0 y1 y2 h => s_X6_divideHeat_L2 m y0 y1 y2 h) T 235 (nI k) 236 (nI k) (nI x) h = some ((), h') ∧ Ch SPP h h' ∧ hR h' = hR h ∧ hT h' = hT h ∧ hI h' 238 = gI (getA w n nl).1 := by
      intro x hx hx2
      have c1 : Ch SPP h (sI h 236 k (nI x)) := (Ch.rfl' (P := SPP)).sI 236 k _ (Or.inl rfl)
      have R1 : SR (sI h 236 k (nI x)) T w n nl := R.sp st S c1
      have S1 : Sh (sI h 236 k (nI x)) := S
      have go : ∀ y : Nat, y = (if 0 < wanA w n k then shA w n nl k else 0) → ∃ h', s_X6_divideHeat_L2 m T 235 (nI (k + 1)) (sI (sI h 236 k (nI x)) 237 k (nI y)) = some ((), h') ∧ Ch SPP h h' ∧ hR h' = hR h ∧ hT h' = hT h ∧ hI h' 238 = gI (getA w n nl).1 := by
        intro y hy
        have c2 : Ch SPP h (sI (sI h 236 k (nI x)) 237 k (nI y)) := c1.sI 237 k _ (Or.inr (Or.inl rfl))
        obtain ⟨h', d1, d2, d3, d4, d5⟩ := c_divL st ht B L H d (k + 1) m (sI (sI h 236 k (nI x)) 237 k (nI y)) (by omega) (by omega) S (R.sp st S c2) (fun i hi => by
          rw [hI_sIn _ _ _ _ _ (by omega), hI_sIn _ _ _ _ _ (by omega)]
          exact hz i hi) (fun i hi => by
          rw [hI_sIn (sI h 236 k (nI x)) _ _ _ 236 (by omega), hI_sI, hI_sI, hI_sIn h _ _ _ 237 (by omega)]
          by_cases q : i = k
          · rw [if_pos ⟨rfl, q⟩, if_pos ⟨rfl, q⟩, q, hx, hy]
            exact ⟨rfl, rfl⟩
          · rw [if_neg (fun z => q z.2), if_neg (fun z => q z.2)]
            exact hv i (by omega))
        exact ⟨h', d1, c2.trans d2, d3, d4, d5⟩
      unfold s_X6_divideHeat_J33
      simp only [getI, getL, getR, putI, putZ, putL, putR, ldI, ldR, stI, stR, divI, divL, bnd, inv, retI, retZ, retC, retR, retU, hT_sI, hT_sL, hT_sR, hR_sI, hR_sL, hN_sI, hN_sL, hN_sR, hI_sL, hI_sR, hL_sI, hL_sR, ↓reduceIte, true_and, and_true, and_self, ne_eq, not_false_eq_true, not_true_eq_false, reduceCtorEq, if_true, if_false, S.s0, S.s1, S.s2, S.s6, S.s7, nI_ge0 (show k < 2 ^ 31 by omega), nI_clamp (show k < 2 ^ 31 by omega), hk8, hI_sI, and_self, show ((236 : Nat) = 0) = False from eq_false (by decide), show ((237 : Nat) = 0) = False from eq_false (by decide), nI_1, S.t0 st]
      by_cases q : x = 0
      · rw [if_pos (show nI x ≤ 0 by rw [q]; decide)]
        exact go 0 (by rw [← hx, q]; rfl)
      · have hkn : k < n := by
          rcases Nat.lt_or_ge k n with z | z
          · exact z
          · rw [hx] at q
            unfold wanA at q
            rw [if_neg (by omega)] at q
            exact absurd rfl q
        have hsh := c_sharesOf6 S1 st R1 hkn
        rw [(sharesF_N L h10 hkn).1] at hsh
        rw [if_neg (nI_nle (by omega) (by omega)), hsh]
        simp only [hT_sI, S.s7, hk8, and_self, true_and, if_true]
        exact go (shN w nl k) (by rw [← hx, if_pos (by omega)]; unfold shA; rw [if_pos hkn])
    simp only [show (8 : Int32) = nI 8 from rfl, nI_leE (show 8 < 2 ^ 31 by omega) (show k < 2 ^ 31 by omega), show ¬ (8 ≤ k) by omega, if_false, getR, getI, S.s0, S.s1, true_and, show ((236 : Nat) = 0) = False from eq_false (by decide), ne_eq, not_false_eq_true, if_true, S.t0 st, hn, nI_leE (show n < 2 ^ 31 by omega) (show k < 2 ^ 31 by omega)]
    by_cases q : n ≤ k
    · rw [if_pos q]
      exact J 0 (by unfold wanA; rw [if_neg (by omega)]) (by omega)
    · have hkn : k < n := by omega
      rw [if_neg q]
      simp only [inv, bnd, S.t0 st, if_true, c_washerOf S st hk8, S.tW st hk8, c_want (S.tW st hk8) (R.hr hkn).w (H k hkn) ht]
      exact J (wanN w k) (by unfold wanA; rw [if_pos hkn]) (wanN_le w k)
theorem c_divideHeat {h : Hp} {T n nl t : Nat} {w : Row} (st : isSt T) (ht : t ≤ 40000) (S : Sh h) (R : SR h T w n nl) (B : WB w) (L : WL w n nl) (H : ∀ i, i < n → WH w i t) (hz : ∀ i, 8 ≤ i → hI h 238 i = 0) :
    ∃ h', s_X6_divideHeat T 235 h = some ((), h') ∧ Ch SPP h h' ∧ hR h' = hR h ∧ hT h' = hT h ∧ hI h' 238 = gI (getA w n nl).1 :=
  c_divL st ht B L H 8 0 100000 h (by omega) (by omega) S R hz (fun i hi => by omega)
/-- a change of a house's own cell -/
theorem SR.cell {h h' : Hp} {T n nl i : Nat} {w w' : Row} (t : isSt T) (S : Sh h) (R : SR h T w n nl) (hi : i < n) (a : Ch (fun x => x = T + 7 + 2 * i) h h') (hw : ∀ j, (j < 15 + 42 * i ∨ 15 + 42 * i + 42 ≤ j) → j ≠ 12 → j ≠ 9 → j ≠ 10 → w' j = w j) (hp : ∀ k, 9 ≤ k → k < 42 → pt w' i k = pt w i k)
    (hv : hI h' (T + 7 + 2 * i) 1 = pt w' i 0 ∧ hI h' (T + 7 + 2 * i) 2 = pt w' i 1 ∧ hI h' (T + 7 + 2 * i) 3 = pt w' i 2 ∧ hI h' (T + 7 + 2 * i) 4 = pt w' i 3 ∧ hI h' (T + 7 + 2 * i) 5 = pt w' i 4 ∧ hI h' (T + 7 + 2 * i) 6 = pt w' i 5 ∧ hI h' (T + 7 + 2 * i) 7 = pt w' i 6 ∧ hI h' (T + 7 + 2 * i) 8 = pt w' i 7 ∧ hI h' (T + 7 + 2 * i) 9 = pt w' i 8) : SR h' T w' n nl := by
  have n8 := R.n8
  have hN0 : 245 ≤ hN h := S.2.2.2.2.2.2.2.2
  have tp := t.pos
  have hPm : ∀ x, (fun x => x = T + 7 + 2 * i) x → Mut x := fun x hx => by rw [hx]; exact Mut_H t (by omega)
  refine R.house a hPm t hN0 hi (fun x hx _ => Or.inl hx) hw ⟨hv, ?_⟩
  obtain ⟨⟨q1, q2, q3, q4, q5, q6⟩, q7⟩ := (R.hr hi).w
  have aW := a.2.2 (T + 8 + 2 * i) (by omega) (by omega)
  have r : WR h' (T + 8 + 2 * i) w' i := by
    refine ⟨?_, ?_⟩
    · rw [aW.1, aW.2.1, hp 9 (by omega) (by omega), hp 10 (by omega) (by omega), hp 14 (by omega) (by omega), hp 11 (by omega) (by omega), hp 12 (by omega) (by omega), hp 13 (by omega) (by omega), hp 17 (by omega) (by omega)]
      exact ⟨q1, q2, q3, q4, q5, q6⟩
    · rw [aW.2.2]
      exact q7.ch a hPm (fun k k1 k2 _ _ => hp k (by omega) k2)
  exact r
theorem HR.c {h : Hp} {A W i : Nat} {w : Row} (q : HR h A W w (15 + 42 * i)) : hI h A 1 = pt w i 0 ∧ hI h A 2 = pt w i 1 ∧ hI h A 3 = pt w i 2 ∧ hI h A 4 = pt w i 3 ∧ hI h A 5 = pt w i 4 ∧ hI h A 6 = pt w i 5 ∧ hI h A 7 = pt w i 6 ∧ hI h A 8 = pt w i 7 ∧ hI h A 9 = pt w i 8 := q.1
/-- a change of the street's own numbers -/
theorem SR.scal {h h' : Hp} {T n nl nl' : Nat} {w w' : Row} (t : isSt T) (S : Sh h) (R : SR h T w n nl) (a : Ch (fun x => x = T) h h') (hl : nl' ≤ nl) (hw : ∀ j, 15 ≤ j → w' j = w j) (h2 : w' 2 = w 2) (h8 : w' 8 = nI nl') (h3 : ∀ k, k < 4 → w' (3 + k) = w (3 + k))
    (hv : hI h' T 3 = w' 2 ∧ hI h' T 4 = w' 8 ∧ hI h' T 5 = w' 0 ∧ hI h' T 6 = w' 11 ∧ hI h' T 7 = w' 1 ∧ hI h' T 8 = w' 7 ∧ hI h' T 9 = w' 13 ∧ hI h' T 10 = w' 14) : SR h' T w' n nl' := by
  obtain ⟨q1, q2, q3, q4, q5, q6⟩ := R
  have hN0 : 245 ≤ hN h := S.2.2.2.2.2.2.2.2
  have tp := t.pos
  have n8 := q1.2.1
  have hPm : ∀ x, (fun x => x = T) x → Mut x := fun x hx => by rw [hx]; exact ST.mut t ST.T
  refine ⟨⟨by rw [h2]; exact q1.1, n8, h8, by omega⟩, hv, fun k hk => ?_, fun i hi => ?_, fun i i1 i2 => ?_, fun j hj k hk => ?_⟩
  · rw [(a.2.2 (T + 1) (by omega) (by omega)).1, h3 k hk]
    exact q3 k hk
  · exact (q4 i hi).ch a hPm (by omega) (by omega) (by omega) (by omega) (fun k hk => hw _ (by omega))
  · exact (q5 i i1 i2).ch a hPm (by omega) (by omega) (by omega) (by omega)
  · rw [(a.2.2 (T + 23 + j) (by omega) (by omega)).1, hw _ (by omega)]
    exact q6 j (by omega) k hk
def heatF (g : Nat → Nat) (w : Row) (i : Nat) : Row := sp w i 3 (pt w i 3 + nI (g i))
theorem c_heatL {T n nl : Nat} {g : Nat → Nat} {fil : Int32} (st : isSt T) : ∀ (d k f x : Nat) (h : Hp) (w : Row), k + d = n → d < f → Sh h → SR h T w n nl → hI h 238 = gI g →
    ∃ h', s_X6_giveHeat_L30 f T 235 fil (nI x) (nI k) h = (putI h' T 6 8 (fil - nI (x + sumNN g d k)) fun h => getI h T 6 10 fun x5 => putI h T 6 10 (x5 + nI (x + sumNN g d k)) fun h => retI (nI (x + sumNN g d k)) h) ∧ Ch (ST T) h h' ∧ hR h' = hR h ∧ hT h' = hT h ∧ SR h' T (itF (heatF g) k d w) n nl
  | 0, k, f, x, h, w, hk, hf, S, R, hg => by
    obtain ⟨m, rfl, -⟩ := fuel_succ hf
    have n8 := R.n8
    have hn : hI h T 3 = nI n := by rw [R.2.1.1, R.1.1]
    refine ⟨h, ?_, Ch.rfl', rfl, rfl, R⟩
    rw [s_X6_giveHeat_L30]
    simp only [getI, S.t0 st, hn, if_true, nI_leE (show n < 2 ^ 31 by omega) (show k < 2 ^ 31 by omega), show n ≤ k by omega]
    rfl
  | d + 1, k, f, x, h, w, hk, hf, S, R, hg => by
    obtain ⟨m, rfl, hm⟩ := fuel_succ hf
    have n8 := R.n8
    have hkn : k < n := by omega
    have hk8 : k < 8 := by omega
    have tp := st.pos
    have hn : hI h T 3 = nI n := by rw [R.2.1.1, R.1.1]
    obtain ⟨v1, v2, v3, v4, v5, v6, v7, v8, v9⟩ := (R.hr hkn).c
    have c1 : Ch (fun y => y = T + 7 + 2 * k) h (sI h (T + 7 + 2 * k) 4 (pt w k 3 + nI (g k))) := (Ch.rfl' (P := fun y => y = T + 7 + 2 * k)).sI _ 4 _ rfl
    have R1 : SR (sI h (T + 7 + 2 * k) 4 (pt w k 3 + nI (g k))) T (heatF g w k) n nl := by
      refine R.cell st S hkn c1 (fun j hj _ _ _ => upd_ne _ _ (by omega)) (fun k' h1 h2 => ?_) ?_
      · unfold heatF
        rw [pt_sp, if_neg (by omega)]
      · unfold heatF
        simp only [hI_sI, pt_sp, v1, v2, v3, v4, v5, v6, v7, v8, v9]
        simp
    have hg1 : hI (sI h (T + 7 + 2 * k) 4 (pt w k 3 + nI (g k))) 238 = gI g := by
      rw [hI_sIn _ _ _ _ _ (by omega)]
      exact hg
    obtain ⟨h', d1, d2, d3, d4, d5⟩ := c_heatL (fil := fil) st d (k + 1) m (x + g k) (sI h (T + 7 + 2 * k) 4 (pt w k 3 + nI (g k))) (heatF g w k) (by omega) (by omega) S R1 hg1
    refine ⟨h', ?_, (c1.mono (fun y hy => by rw [hy]; exact ST.H hk8)).trans d2, d3, d4, d5⟩
    have key : s_X6_giveHeat_L30 (m + 1) T 235 fil (nI x) (nI k) h = s_X6_giveHeat_L30 m T 235 fil (nI (x + g k)) (nI (k + 1)) (sI h (T + 7 + 2 * k) 4 (pt w k 3 + nI (g k))) := by
      rw [s_X6_giveHeat_L30]
      simp only [getI, S.t0 st, hn, if_true, nI_leE (show n < 2 ^ 31 by omega) (show k < 2 ^ 31 by omega), show ¬ (n ≤ k) by omega, if_false, c_house S st hk8]
      simp only [getI, getL, getR, putI, putZ, putL, putR, ldI, ldR, stI, stR, divI, divL, bnd, inv, retI, retZ, retC, retR, retU, hT_sI, hT_sL, hT_sR, hR_sI, hR_sL, hN_sI, hN_sL, hN_sR, hI_sL, hI_sR, hL_sI, hL_sR, ↓reduceIte, true_and, and_true, and_self, ne_eq, not_false_eq_true, not_true_eq_false, reduceCtorEq, if_true, if_false, S.tH st hk8, S.s0, S.s3, S.s8, nI_ge0 (show k < 2 ^ 31 by omega), nI_clamp (show k < 2 ^ 31 by omega), hk8, hg, hI_sIn h (T + 7 + 2 * k) 4 (pt w k 3 + nI (g k)) 238 (by omega), v4, show gI g k = nI (g k) from rfl, nI_add, nI_1, show ((238 : Nat) = 0) = False from eq_false (by decide)]
    rw [key, d1, show sumNN g (d + 1) k = g k + sumNN g d (k + 1) from rfl, Nat.add_assoc]
