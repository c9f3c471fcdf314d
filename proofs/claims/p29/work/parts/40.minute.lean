/-! what a minute's work does in HaggleWash -/
def workF (g : Nat → Nat) (w : Row) (i : Nat) : Row := if pt w i 9 = 1 then worksF w i (nI (g i)) else w
theorem workF_off (g : Nat → Nat) (w : Row) (i j : Nat) (hj : j < 15 + 42 * i ∨ 15 + 42 * i + 42 ≤ j) (h12 : j ≠ 12) : workF g w i j = w j := by
  unfold workF
  split
  · exact worksF_off w i _ j hj h12
  · rfl
theorem WR.congr {h : Hp} {W i : Nat} {w w' : Row} (R : WR h W w i) (hp : ∀ k, 9 ≤ k → k < 42 → pt w' i k = pt w i k) : WR h W w' i := by
  obtain ⟨⟨q1, q2, q3, q4, q5, q6⟩, q7⟩ := R
  refine ⟨?_, ?_⟩
  · rw [hp 9 (by omega) (by omega), hp 10 (by omega) (by omega), hp 14 (by omega) (by omega), hp 11 (by omega) (by omega), hp 12 (by omega) (by omega), hp 13 (by omega) (by omega), hp 17 (by omega) (by omega)]
    exact ⟨q1, q2, q3, q4, q5, q6⟩
  · exact q7.ch (P := fun _ => False) Ch.rfl' (fun _ z => z.elim) (fun k k1 k2 _ _ => hp k (by omega) k2)
theorem c_workL {T n nl t : Nat} {g : Nat → Nat} (st : isSt T) (ht : t ≤ 39000) (hg : ∀ i, g i ≤ 250) : ∀ (d k f : Nat) (h : Hp) (w : Row), k + d = n → d < f → Sh h → SR h T w n nl → hI h 238 = gI g → (∀ i, i < n → k ≤ i → WH w i t) → (∀ i, i < k → WH w i (t + 1)) →
    ∃ h', s_X6_work_L2 f T 235 (nI k) h = some ((), h') ∧ Ch (ST T) h h' ∧ hR h' = hR h ∧ hT h' = hT h ∧ SR h' T (itF (workF g) k d w) n nl ∧ ∀ i, i < n → WH (itF (workF g) k d w) i (t + 1)
  | 0, k, f, h, w, hk, hf, S, R, hgg, H1, H2 => by
    obtain ⟨m, rfl, -⟩ := fuel_succ hf
    have n8 := R.n8
    have hn : hI h T 3 = nI n := by rw [R.2.1.1, R.1.1]
    refine ⟨h, ?_, Ch.rfl', rfl, rfl, R, fun i hi => H2 i (by omega)⟩
    rw [s_X6_work_L2]
    simp only [getI, S.t0 st, hn, if_true, nI_leE (show n < 2 ^ 31 by omega) (show k < 2 ^ 31 by omega), show n ≤ k by omega]
    rfl
  | d + 1, k, f, h, w, hk, hf, S, R, hgg, H1, H2 => by
    obtain ⟨m, rfl, hm⟩ := fuel_succ hf
    have n8 := R.n8
    have hkn : k < n := by omega
    have hk8 : k < 8 := by omega
    have tp := st.pos
    have hN0 : 245 ≤ hN h := S.2.2.2.2.2.2.2.2
    have hn : hI h T 3 = nI n := by rw [R.2.1.1, R.1.1]
    have hr := (R.hr hkn).w
    have hst : hI h (T + 8 + 2 * k) 1 = pt w k 9 := hr.1.1
    show ∃ h', _ ∧ Ch (ST T) h h' ∧ hR h' = hR h ∧ hT h' = hT h ∧ SR h' T (itF (workF g) (k + 1) d (workF g w k)) n nl ∧ ∀ i, i < n → WH (itF (workF g) (k + 1) d (workF g w k)) i (t + 1)
    rw [s_X6_work_L2]
    simp only [getI, inv, bnd, S.t0 st, hn, if_true, nI_leE (show n < 2 ^ 31 by omega) (show k < 2 ^ 31 by omega), show ¬ (n ≤ k) by omega, if_false, c_washerOf S st hk8, S.tW st hk8, hst]
    unfold workF
    by_cases q : pt w k 9 = 1
    · obtain ⟨r, h1, c1, c2, c3, c4, c5, c6, c7, c8⟩ := c_ends (S.tW st hk8) (Mut_W st hk8) (by omega) hr (H1 k hkn (Nat.le_refl k)) ht q (hg k)
      have S1 : Sh h1 := S.of c3 c4 c2.1
      have up : ∀ x, (fun x => x = T + 8 + 2 * k) x → ST T x := fun x hx => by rw [hx]; exact ST.W hk8
      have g1 : hI h1 238 = gI g := by rw [(c2.2.2 238 (by omega) (by omega)).1]; exact hgg
      have HH : (∀ i, i < n → k + 1 ≤ i → WH (worksF w k (nI (g k))) i t) ∧ (∀ i, i < k + 1 → WH (worksF w k (nI (g k))) i (t + 1)) := by
        have cg : ∀ i, i ≠ k → ∀ k', k' < 42 → pt (worksF w k (nI (g k))) i k' = pt w i k' := fun i hi k' hk' => worksF_off _ _ _ _ (by omega) (by omega)
        refine ⟨fun i h1 h2 => (H1 i h1 (by omega)).congr (cg i (by omega)), fun i hi => ?_⟩
        by_cases e : i = k
        · rw [e]; exact c6
        · exact (H2 i (by omega)).congr (cg i e)
      simp only [if_pos q]
      simp only [getR, ldI, S.s0, S.s3, S.s8, nI_ge0 (show k < 2 ^ 31 by omega), nI_clamp (show k < 2 ^ 31 by omega), hk8, hgg, show gI g k = nI (g k) from rfl, c1, true_and, and_self, if_true, show ((238 : Nat) = 0) = False from eq_false (by decide), ne_eq, not_false_eq_true]
      rcases c7 with ⟨e0, e4, e12⟩ | ⟨e0, e4, e12⟩
      · rw [e0, if_pos rfl]
        have R1 : SR h1 T (worksF w k (nI (g k))) n nl := R.washer st S hkn c2 (fun j hj h12 => worksF_off _ _ _ _ hj h12) (fun k' hk' => by
          by_cases z : k' = 4
          · rw [z]; exact e4
          · exact c8 k' z (by omega) (by omega) (by omega) (by omega) (by omega) (by omega) (by omega)) c5
        obtain ⟨h', d1, d2, d3, d4, d5, d6⟩ := c_workL st ht hg d (k + 1) m h1 _ (by omega) (by omega) S1 R1 g1 HH.1 HH.2
        refine ⟨h', ?_, (c2.mono up).trans d2, d3.trans c3, d4.trans c4, d5, d6⟩
        rw [nI_1]
        exact d1
      · rw [e0, if_neg (by decide)]
        have R1 : SR h1 T (sp (worksF w k (nI (g k))) k 4 (pt w k 4)) n nl := R.washer st S hkn c2 (fun j hj h12 => by
          unfold sp
          rw [upd_ne _ _ (by omega)]
          exact worksF_off _ _ _ _ hj h12) (fun k' hk' => by
          rw [pt_sp]
          by_cases z : k' = 4
          · rw [if_pos z, z]
          · rw [if_neg z]
            exact c8 k' z (by omega) (by omega) (by omega) (by omega) (by omega) (by omega) (by omega)) (c5.congr (fun k' h1 h2 => by rw [pt_sp, if_neg (by omega)]))
        obtain ⟨v1, v2, v3, v4, v5, v6, v7, v8, v9⟩ := (R1.hr hkn).c
        simp only [pt_sp, show ((0 : Nat) = 4) = False from eq_false (by decide), show ((1 : Nat) = 4) = False from eq_false (by decide), show ((2 : Nat) = 4) = False from eq_false (by decide), show ((3 : Nat) = 4) = False from eq_false (by decide), show ((5 : Nat) = 4) = False from eq_false (by decide), show ((6 : Nat) = 4) = False from eq_false (by decide), show ((7 : Nat) = 4) = False from eq_false (by decide), show ((8 : Nat) = 4) = False from eq_false (by decide), if_false, if_true] at v1 v2 v3 v4 v5 v6 v7 v8 v9
        have c9 : Ch (fun x => x = T + 7 + 2 * k) h1 (sI h1 (T + 7 + 2 * k) 5 (pt w k 4 + 1)) := (Ch.rfl' (P := fun x => x = T + 7 + 2 * k)).sI _ 5 _ rfl
        have R2 : SR (sI h1 (T + 7 + 2 * k) 5 (pt w k 4 + 1)) T (worksF w k (nI (g k))) n nl := by
          refine R1.cell st S1 hkn c9 (fun j hj _ _ _ => ?_) (fun k' h1 h2 => ?_) ?_
          · unfold sp
            rw [upd_ne _ _ (by omega)]
          · rw [pt_sp, if_neg (by omega)]
          · simp only [hI_sI, e4, v1, v2, v3, v4, v5, v6, v7, v8, v9]
            simp
        have g2 : hI (sI h1 (T + 7 + 2 * k) 5 (pt w k 4 + 1)) 238 = gI g := by
          rw [hI_sIn _ _ _ _ _ (by omega)]
          exact g1
        obtain ⟨h', d1, d2, d3, d4, d5, d6⟩ := c_workL st ht hg d (k + 1) m (sI h1 (T + 7 + 2 * k) 5 (pt w k 4 + 1)) _ (by omega) (by omega) S1 R2 g2 HH.1 HH.2
        have key := c_house S1 st hk8 (fun x9 => getI h1 x9 2 5 fun x10 => putI h1 x9 2 5 (x10 + 1) fun h => s_X6_work_L2 m T 235 (nI k + 1) h)
        refine ⟨h', ?_, ((c2.mono up).trans (c9.mono (fun x hx => by rw [hx]; exact ST.H hk8))).trans d2, d3.trans c3, d4.trans c4, d5, d6⟩
        refine key.trans ?_
        simp only [getI, putI, S1.tH st hk8, if_true, v5, nI_1]
        exact d1
    · simp only [if_neg q]
      obtain ⟨h', d1, d2, d3, d4, d5, d6⟩ := c_workL st ht hg d (k + 1) m h w (by omega) (by omega) S R hgg (fun i h1 h2 => H1 i h1 (by omega)) (fun i hi => by
        by_cases e : i = k
        · rw [e]; exact (H1 k hkn (Nat.le_refl k)).mono (by omega)
        · exact H2 i (by omega))
      refine ⟨h', ?_, d2, d3, d4, d5, d6⟩
      rw [nI_1]
      exact d1
/-- rows: the heat given, the work done, houses at rest, leases; a whole minute -/
def givR (w : Row) (n nl : Nat) : Row := upd (upd (itF (heatF (getA w n nl).1) 0 n (upd w 13 (w 13 + (nI (filN w) - w 7)))) 7 (nI (filN w) - nI (sumNN (getA w n nl).1 n 0))) 14 (w 14 + nI (sumNN (getA w n nl).1 n 0))
def midR (w : Row) (n nl : Nat) : Row := if w 1 = 0 then upd w 11 (w 11 + 1) else itF (workF (getA w n nl).1) 0 n (givR w n nl)
def aftR (w : Row) (n nl : Nat) : Row := itF restF 0 n (midR w n nl)
def minR (w : Row) (n nl : Nat) : Row := upd (upd (lsF nl 0 0 (aftR w n nl)).1 8 (nI (lsF nl 0 0 (aftR w n nl)).2)) 0 ((lsF nl 0 0 (aftR w n nl)).1 0 + 1)
def minL (w : Row) (n nl : Nat) : Nat := (lsF nl 0 0 (aftR w n nl)).2
def minH (w : Row) (n nl : Nat) : Int32 := if w 1 = 0 then 0 else nI (sumNN (getA w n nl).1 n 0)
theorem heatF_off (g : Nat → Nat) (w : Row) (i j : Nat) (hj : j < 15 + 42 * i ∨ 15 + 42 * i + 42 ≤ j) : heatF g w i j = w j := upd_ne _ _ (by omega)
theorem itF_lo {f : Row → Nat → Row} {j : Nat} (hf : ∀ w i, f w i j = w j) : ∀ (d k : Nat) (w : Row), itF f k d w j = w j
  | 0, _, _ => rfl
  | d + 1, k, w => (itF_lo hf d (k + 1) (f w k)).trans (hf w k)
theorem WH.heat {g : Nat → Nat} {w : Row} {i j t : Nat} (q : WH w j t) : WH (heatF g w i) j t := by
  by_cases e : i = j
  · subst e
    obtain ⟨q1, q2, ⟨wt', wm', w1, w2, w3, w4, w5⟩, np, n3, n4, n5, n6⟩ := q
    have f : ∀ k, k ≠ 3 → pt (heatF g w i) i k = pt w i k := fun k hk => by unfold heatF; rw [pt_sp, if_neg hk]
    refine ⟨by rw [f 0 (by omega)]; exact q1, by rw [f 9 (by omega)]; exact q2, ⟨wt', wm', by rw [f 11 (by omega)]; exact w1, by rw [f 12 (by omega)]; exact w2, w3, w4, w5⟩, np, by rw [f 15 (by omega)]; exact n3, n4, fun k hk => ?_, fun z => ?_⟩
    · rw [f _ (by omega), f _ (by omega)]
      exact n5 k hk
    · rw [f 9 (by omega)] at z
      obtain ⟨ph, p1, p2, p3⟩ := n6 z
      refine ⟨ph, p1, by rw [f 10 (by omega)]; exact p2, fun y => ?_⟩
      rw [f _ (by omega)] at y
      obtain ⟨g, m, r1, r2, r3, r4⟩ := p3 y
      exact ⟨g, m, by rw [f 14 (by omega)]; exact r1, by rw [f 16 (by omega)]; exact r2, by rw [f _ (by omega)]; exact r3, r4⟩
  · exact q.congr (fun k hk => pt_sp_ne _ _ e (by omega) hk)
theorem WH.lo {w : Row} {i j t : Nat} {v : Int32} (hj : j < 15) (q : WH w i t) : WH (upd w j v) i t := q.congr (fun k _ => pt_upd _ _ _ _ _ hj)
theorem givR_WH {w : Row} {n nl t : Nat} (H : ∀ i, i < n → WH w i t) : ∀ i, i < n → WH (givR w n nl) i t := by
  intro i hi
  unfold givR
  refine WH.lo (by omega) (WH.lo (by omega) ?_)
  exact itF_keep (P := fun w => WH w i t) (fun w k h => h.heat) n 0 _ ((H i hi).lo (by omega))
theorem c_giveHeat {h : Hp} {T n nl t : Nat} {w : Row} (st : isSt T) (ht : t ≤ 40000) (S : Sh h) (R : SR h T w n nl) (B : WB w) (L : WL w n nl) (H : ∀ i, i < n → WH w i t) (hz : ∀ i, 8 ≤ i → hI h 238 i = 0) :
    ∃ h', s_X6_giveHeat T 235 h = some (nI (sumNN (getA w n nl).1 n 0), h') ∧ Ch (fun x => ST T x ∨ SPP x) h h' ∧ hR h' = hR h ∧ hT h' = hT h ∧ hI h' 238 = gI (getA w n nl).1 ∧ SR h' T (givR w n nl) n nl := by
  obtain ⟨h1, a1, a2, a3, a4, a5⟩ := c_divideHeat st ht S R B L H hz
  have S1 : Sh h1 := S.of a3 a4 a2.1
  have R1 : SR h1 T w n nl := R.sp st S a2
  have hsw := c_storeWithInput S1 st R1 B
  have tp := st.pos
  have hN1 : 245 ≤ hN h1 := S1.2.2.2.2.2.2.2.2
  obtain ⟨z1, z2, z3, z4, z5, z6, z7, z8⟩ := R1.2.1
  have c2 : Ch (fun x => x = T) h1 (sI h1 T 9 (w 13 + (nI (filN w) - w 7))) := (Ch.rfl' (P := fun x => x = T)).sI T 9 _ rfl
  have R2 : SR (sI h1 T 9 (w 13 + (nI (filN w) - w 7))) T (upd w 13 (w 13 + (nI (filN w) - w 7))) n nl := by
    refine R1.scal st S1 c2 (Nat.le_refl _) (fun j hj => upd_ne _ _ (by omega)) (upd_ne _ _ (by omega)) (by rw [upd_ne _ _ (by omega)]; exact R1.1.2.2.1) (fun k hk => upd_ne _ _ (by omega)) ?_
    simp only [hI_sI, upd_eq, upd_ne w (k := 13) _ (show (2 : Nat) ≠ 13 by omega), upd_ne w (k := 13) _ (show (8 : Nat) ≠ 13 by omega), upd_ne w (k := 13) _ (show (0 : Nat) ≠ 13 by omega), upd_ne w (k := 13) _ (show (11 : Nat) ≠ 13 by omega), upd_ne w (k := 13) _ (show (1 : Nat) ≠ 13 by omega), upd_ne w (k := 13) _ (show (7 : Nat) ≠ 13 by omega), upd_ne w (k := 13) _ (show (14 : Nat) ≠ 13 by omega), z1, z2, z3, z4, z5, z6, z8]
    simp
  have g2 : hI (sI h1 T 9 (w 13 + (nI (filN w) - w 7))) 238 = gI (getA w n nl).1 := by
    rw [hI_sIn _ _ _ _ _ (by omega)]
    exact a5
  obtain ⟨h2, d1, d2, d3, d4, d5⟩ := c_heatL (fil := nI (filN w)) st n 0 100000 0 (sI h1 T 9 (w 13 + (nI (filN w) - w 7))) _ (by omega) (by have := R.n8; omega) S1 R2 g2
  have S2 : Sh h2 := S1.of d3 d4 d2.1
  rw [Nat.zero_add] at d1
  have e14 : hI h2 T 10 = w 14 := by
    rw [d5.2.1.2.2.2.2.2.2.2, itF_lo (fun w i => heatF_off _ w i 14 (by omega)), upd_ne _ _ (by omega)]
  generalize htot : sumNN (getA w n nl).1 n 0 = tot at *
  have lo : ∀ j, j < 15 → j ≠ 13 → itF (heatF (getA w n nl).1) 0 n (upd w 13 (w 13 + (nI (filN w) - w 7))) j = w j := fun j h1 h2 => by
    rw [itF_lo (fun w i => heatF_off _ w i j (by omega)), upd_ne _ _ h2]
  refine ⟨sI (sI h2 T 8 (nI (filN w) - nI tot)) T 10 (w 14 + nI tot), ?_, ?_, (d3.trans a3), (d4.trans a4), ?_, ?_⟩
  · unfold s_X6_giveHeat
    simp only [inv, bnd, getI, putI, S.t0 st, S1.t0 st, hT_sI, a1, hsw, z6, z7, if_true]
    rw [show (0 : Int32) = nI 0 from rfl, d1]
    simp only [getI, putI, retI, S2.t0 st, hT_sI, hI_sI, if_true, show ((10 : Nat) = 8) = False from eq_false (by decide), and_false, if_false, e14]
  · refine (a2.mono (fun x hx => Or.inr hx)).trans ((c2.mono (fun x hx => Or.inl (by rw [hx]; exact ST.T))).trans ((d2.mono (fun x hx => Or.inl hx)).trans ?_))
    exact ((Ch.rfl' (P := fun x => ST T x ∨ SPP x)).sI T 8 _ (Or.inl ST.T)).sI T 10 _ (Or.inl ST.T)
  · rw [hI_sIn _ _ _ _ _ (by omega), hI_sIn _ _ _ _ _ (by omega), (d2.2.2 238 (by show 238 ≤ hN h1; omega) (fun z => by have := z.2.1; omega)).1]
    exact g2
  · unfold givR
    rw [htot]
    refine d5.scal st S2 (((Ch.rfl' (P := fun x => x = T)).sI T 8 _ rfl).sI T 10 _ rfl) (Nat.le_refl _) (fun j hj => ?_) ?_ ?_ (fun k hk => ?_) ?_
    · rw [upd_ne _ _ (by omega), upd_ne _ _ (by omega)]
    · rw [upd_ne _ _ (by omega), upd_ne _ _ (by omega)]
    · rw [upd_ne _ _ (by omega), upd_ne _ _ (by omega), lo 8 (by omega) (by omega)]
      exact R1.1.2.2.1
    · rw [upd_ne _ _ (by omega), upd_ne _ _ (by omega)]
    · obtain ⟨y1, y2, y3, y4, y5, y6, y7, y8⟩ := d5.2.1
      refine ⟨?_, ?_, ?_, ?_, ?_, ?_, ?_, ?_⟩
      · rw [upd_ne _ _ (by omega), upd_ne _ _ (by omega), ← y1]; simp [hI_sI]
      · rw [upd_ne _ _ (by omega), upd_ne _ _ (by omega), ← y2]; simp [hI_sI]
      · rw [upd_ne _ _ (by omega), upd_ne _ _ (by omega), ← y3]; simp [hI_sI]
      · rw [upd_ne _ _ (by omega), upd_ne _ _ (by omega), ← y4]; simp [hI_sI]
      · rw [upd_ne _ _ (by omega), upd_ne _ _ (by omega), ← y5]; simp [hI_sI]
      · rw [upd_ne _ _ (by omega), upd_eq]; simp [hI_sI]
      · rw [upd_ne _ _ (by omega), upd_ne _ _ (by omega), ← y7]; simp [hI_sI]
      · rw [upd_eq]; simp [hI_sI]
