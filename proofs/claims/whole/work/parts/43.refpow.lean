/-! the reference's minute, whole -/
theorem r_fillStore {h : Hp} (S : Sh h) {w : Row} (B : WB w) (a b : Row) : s_X9_fillStore 241 (sQ h w a b) = some ((), sQ h (upd (upd w 7 (nI (filN w))) 13 (w 13 + (nI (filN w) - w 7))) a b) := by
  obtain ⟨e1, h1, e2, h2, e3, h3, e4, h4⟩ := B.n
  unfold s_X9_fillStore s_X9_fillStore_J48
  simp only [qg S, ql_7 S, ql_4 S, ql_3 S, ql_13 S, qs_7 S, qs_13 S, upd_eq, upd_ne w (k := 7) _ (show (13 : Nat) ≠ 7 by omega), retU, e1, e2, e4, nI_add, nI_leE (show capN w < 2 ^ 31 by omega) (show stoN w + inpN w < 2 ^ 31 by omega)]
  unfold filN
  by_cases q : capN w ≤ stoN w + inpN w
  · rw [if_pos q, Nat.min_eq_left q]
  · rw [if_neg q, Nat.min_eq_right (by omega)]
theorem r_heatNow {h : Hp} (S : Sh h) {w : Row} {o f : Nat} (h5 : w 5 = nI o) (h7 : w 7 = nI f) (ho : o < 2 ^ 31) (hf : f < 2 ^ 31) (a b : Row) : s_X9_heatNow 241 (sQ h w a b) = some (nI (min o f), sQ h w a b) := by
  unfold s_X9_heatNow
  simp only [qg S, ql_7 S, ql_5 S, retI, h5, h7, nI_leE hf ho]
  by_cases q : f ≤ o
  · rw [if_pos q, Nat.min_eq_right q]
  · rw [if_neg q, Nat.min_eq_left (by omega)]
theorem gI_upd0 {b : Row} {k : Nat} (hb : ∀ i, i < k ∨ 8 ≤ i → b i = 0) : ∀ i, i < k + 1 ∨ 8 ≤ i → upd b k 0 i = 0 := fun i hi => by
  unfold upd
  split
  · rfl
  · exact hb i (by omega)
theorem r_wantL {h : Hp} (S : Sh h) {w : Row} {n t : Nat} (h8 : n ≤ 8) (hn : w 2 = nI n) (H : ∀ i, i < n → WH w i t) (ht : t ≤ 40000) {v1 : Int32} {k46 : Nat → Int32 → Hp → Rv Int32} : ∀ (d k f : Nat) (a b : Row), k + d = 8 → d < f → (∀ i, i < k → a i = nI (wanA w n i)) → (∀ i, i < k ∨ 8 ≤ i → b i = 0) →
    ∃ a', (∀ i, i < 8 → a' i = nI (wanA w n i)) ∧ s_X9_split_L2 k46 f 241 v1 (nI k) (sQ h w a b) = k46 241 v1 (sQ h w a' (gI zeroN))
  | 0, k, f, a, b, hk, hf, ha, hb => by
    obtain ⟨m, rfl, -⟩ := fuel_succ hf
    refine ⟨a, fun i hi => ha i (by omega), ?_⟩
    have eb : b = gI zeroN := funext fun i => hb i (by omega)
    rw [s_X9_split_L2, show (8 : Int32) = nI 8 from rfl, eb]
    simp only [nI_leE (show 8 < 2 ^ 31 by omega) (show k < 2 ^ 31 by omega), show 8 ≤ k by omega, if_true]
  | d + 1, k, f, a, b, hk, hf, ha, hb => by
    obtain ⟨m, rfl, hm⟩ := fuel_succ hf
    have hk8 : k < 8 := by omega
    rw [s_X9_split_L2, show (8 : Int32) = nI 8 from rfl]
    simp only [nI_leE (show 8 < 2 ^ 31 by omega) (show k < 2 ^ 31 by omega), show ¬ (8 ≤ k) by omega, if_false, getR, ldI, stI, hT_sQ, hR_sQ, S.m0, S.m1, S.m2, S.m7, S.m8, S.m9, S.m48, hI_sQ2, cl_2, hn, nI_leE (show n < 2 ^ 31 by omega) (show k < 2 ^ 31 by omega), true_and, and_self, show ((242 : Nat) = 0) = False from eq_false (by decide), show ((247 : Nat) = 0) = False from eq_false (by decide), show ((248 : Nat) = 0) = False from eq_false (by decide), ne_eq, not_false_eq_true, if_true, show ((0 : Int32) ≤ 2) = True from eq_true (by decide), show ((2 : Nat) < 401) = True from eq_true (by decide), nI_ge0 (show k < 2 ^ 31 by omega), nI_clamp (show k < 2 ^ 31 by omega), hk8, sI_sQ7, sI_sQ8, inv, nI_1]
    by_cases q : n ≤ k
    · rw [if_pos q]
      refine r_wantL S h8 hn H ht d (k + 1) m (upd a k 0) (upd b k 0) (by omega) (by omega) (fun i hi => ?_) (gI_upd0 hb)
      by_cases e : i = k
      · rw [e, upd_eq]; unfold wanA; rw [if_neg (by omega)]; rfl
      · rw [upd_ne _ _ e]; exact ha i (by omega)
    · rw [if_neg q, r_wantOf S hk8 (H k (by omega)) ht]
      simp only [bnd, stI, getR, hT_sQ, hR_sQ, S.m0, S.m7, S.m9, S.m48, true_and, and_self, show ((247 : Nat) = 0) = False from eq_false (by decide), show ((248 : Nat) = 0) = False from eq_false (by decide), ne_eq, not_false_eq_true, if_true, nI_ge0 (show k < 2 ^ 31 by omega), nI_clamp (show k < 2 ^ 31 by omega), hk8, sI_sQ7, sI_sQ8]
      refine r_wantL S h8 hn H ht d (k + 1) m (upd a k (nI (wanN w k))) (upd b k 0) (by omega) (by omega) (fun i hi => ?_) (gI_upd0 hb)
      by_cases e : i = k
      · rw [e, upd_eq]; unfold wanA; rw [if_pos (by omega)]
      · rw [upd_ne _ _ e]; exact ha i (by omega)
theorem r_split {h : Hp} (S : Sh h) {w : Row} {n nl t x : Nat} (h8 : n ≤ 8) (h10 : nl ≤ 10) (hn : w 2 = nI n) (hl : w 8 = nI nl) (L : WL w n nl) (H : ∀ i, i < n → WH w i t) (ht : t ≤ 40000) (hx : x ≤ 2000) (a b : Row) (hb : ∀ i, 8 ≤ i → b i = 0) :
    ∃ a', s_X9_split 241 (nI x) (sQ h w a b) = some (nI x - nI (splN (wanA w n) (shA w n nl) x zeroN x).2, sQ h w a' (gI (splN (wanA w n) (shA w n nl) x zeroN x).1)) := by
  obtain ⟨a', ha, e⟩ := r_wantL S (v1 := nI x) (k46 := fun y0 y1 h => s_X9_split_L50 100000 y0 y1 y1 0 h) h8 hn H ht 8 0 100000 a b (by omega) (by omega) (fun i hi => by omega) (fun i hi => hb i (by omega))
  refine ⟨a', e.trans ?_⟩
  refine r_splitL S (n := n) ⟨h8, hn, fun i hi => ⟨ha i hi, ?_, ?_, fun z => ?_⟩, fun i hi b' => ?_⟩ x 100000 0 zeroN (by omega) hx (by omega) (fun i => Nat.zero_le _)
  · unfold wanA
    split
    · exact wanN_le _ _
    · omega
  · unfold shA
    split
    · exact (sharesF_N L h10 (by assumption)).2
    · omega
  · unfold wanA
    rw [if_neg (by omega)]
  · rw [r_sharesOf S h10 hl (by omega), (sharesF_N L h10 hi).1]
    unfold shA
    rw [if_pos hi]
theorem r_powL {h : Hp} (S : Sh h) {n t : Nat} {g : Nat → Nat} (h8 : n ≤ 8) (ht : t ≤ 39000) (hg : ∀ i, g i ≤ 250) {v1 : Int32} {a : Row} : ∀ (d k f : Nat) (w : Row), k + d = n → d < f → w 2 = nI n → (∀ i, k ≤ i → i < n → WH w i t) →
    s_X9_powered_L37 f 241 v1 (nI k) (sQ h w a (gI g)) = some (v1, sQ h (itF (fun w i => workF g (heatF g w i) i) k d w) a (gI g))
  | 0, k, f, w, hk, hf, hn, H => by
    obtain ⟨m, rfl, -⟩ := fuel_succ hf
    rw [s_X9_powered_L37]
    simp only [qg S, ql_2 S, hn, nI_leE (show n < 2 ^ 31 by omega) (show k < 2 ^ 31 by omega), show n ≤ k by omega, if_true]
    rfl
  | d + 1, k, f, w, hk, hf, hn, H => by
    obtain ⟨m, rfl, hm⟩ := fuel_succ hf
    have hk8 : k < 8 := by omega
    have H1 : WH (heatF g w k) k t := (H k (by omega) (by omega)).heat
    rw [s_X9_powered_L37]
    simp only [hI_sQ2, cl_2, S.m1, S.m2, show ((242 : Nat) = 0) = False from eq_false (by decide), show ((0 : Int32) ≤ 2) = True from eq_true (by decide), show ((2 : Nat) < 401) = True from eq_true (by decide), hn, nI_leE (show n < 2 ^ 31 by omega) (show k < 2 ^ 31 by omega), show ¬ (n ≤ k) by omega, if_false, getR, ldI, hT_sQ, hR_sQ, S.m0, S.m9, S.m48, hI_sQ8, true_and, show ((248 : Nat) = 0) = False from eq_false (by decide), ne_eq, not_false_eq_true, if_true, nI_ge0 (show k < 2 ^ 31 by omega), nI_clamp (show k < 2 ^ 31 by omega), hk8, inv, bnd, ra_3 S hk8, r_runs S hk8, nI_1, show gI g k = nI (g k) from rfl]
    show _ = some (v1, sQ h (itF (fun w i => workF g (heatF g w i) i) (k + 1) d (workF g (heatF g w k) k)) a (gI g))
    have o2 : workF g (heatF g w k) k 2 = nI n := (workF_off _ _ _ _ (by omega) (by omega)).trans ((heatF_off _ _ _ _ (by omega)).trans hn)
    have HH : ∀ i, k + 1 ≤ i → i < n → WH (workF g (heatF g w k) k) i t := fun i i1 i2 => (H i (by omega) i2).congr (fun k' hk' => (workF_off _ _ _ _ (by omega) (by omega)).trans (heatF_off _ _ _ _ (by omega)))
    have ih := r_powL S h8 ht hg (v1 := v1) (a := a) d (k + 1) m (workF g (heatF g w k) k) (by omega) (by omega) o2 HH
    rw [← ih]
    have eh : sp w k 3 (pt w k 3 + nI (g k)) = heatF g w k := rfl
    rw [eh]
    unfold workF
    by_cases q : pt (heatF g w k) k 9 = 1
    · obtain ⟨q1, q2, ⟨wt, wm, w1, w2, w3, w4, w5⟩, np, n3, n4, n5, n6⟩ := H1
      obtain ⟨ph, p1, p2, p3⟩ := n6 q
      have hw := r_works S hk8 (w := heatF g w k) (i := k) (ph := ph) (wt := wt) (wm := wm) ⟨p2, by omega, w1, w2, by omega, by omega, w5⟩ a (gI g) (n5 ph p1) (fun z => by
        obtain ⟨g1, m1, r1, r2, r3, r4, r5⟩ := p3 z
        exact ⟨6 * g1, m1, r2, r3, by omega, r5⟩) ⟨g k, rfl, hg k⟩
      rw [if_pos q, if_pos q, if_neg (by decide), hw]
      rfl
    · rw [if_neg q, if_neg q, if_pos rfl]
