/-! a whole minute of HaggleWash -/
def PMP (T x : Nat) : Prop := ST T x ∨ SPP x
theorem givR_lo (w : Row) (n nl j : Nat) (hj : j < 15) (h7 : j ≠ 7) (h13 : j ≠ 13) (h14 : j ≠ 14) : givR w n nl j = w j := by
  unfold givR
  rw [upd_ne _ _ h14, upd_ne _ _ h7, itF_lo (fun w i => heatF_off _ w i j (by omega)), upd_ne _ _ h13]
theorem midR_lo (w : Row) (n nl j : Nat) (hj : j < 15) (h7 : j ≠ 7) (h13 : j ≠ 13) (h14 : j ≠ 14) (h11 : j ≠ 11) (h12 : j ≠ 12) : midR w n nl j = w j := by
  unfold midR
  split
  · exact upd_ne _ _ h11
  · rw [itF_lo (fun w i => workF_off _ w i j (by omega) h12)]
    exact givR_lo w n nl j hj h7 h13 h14
theorem restF_off (w : Row) (i j : Nat) (hj : j < 15 + 42 * i ∨ 15 + 42 * i + 42 ≤ j) : restF w i j = w j := by
  unfold restF
  split
  · exact coolF_off _ _ _ hj
  · exact (unlockF_off _ _ _ hj).trans (coolF_off _ _ _ hj)
theorem aftR_lo (w : Row) (n nl j : Nat) (hj : j < 15) : aftR w n nl j = midR w n nl j := by
  unfold aftR
  exact itF_lo (fun w i => restF_off w i j (by omega)) n 0 _
theorem lsF_lo : ∀ (d l m : Nat) (w : Row) (j : Nat), j < 351 → (lsF d l m w).1 j = w j
  | 0, _, _, _, _, _ => rfl
  | d + 1, l, m, w, j, hj => by
    unfold lsF
    have e : decL w l j = w j := upd_ne _ _ (by omega)
    split
    · exact (lsF_lo d (l + 1) m _ j hj).trans e
    · exact (lsF_lo d (l + 1) (m + 1) _ j hj).trans ((cpL_off _ (by omega)).trans e)
theorem lsF_le : ∀ (d l m : Nat) (w : Row), (lsF d l m w).2 ≤ m + d
  | 0, _, _, _ => Nat.le_refl _
  | d + 1, l, m, w => by
    unfold lsF
    split
    · exact Nat.le_trans (lsF_le d (l + 1) m _) (by omega)
    · exact Nat.le_trans (lsF_le d (l + 1) (m + 1) _) (by omega)
theorem c_passEnd {h : Hp} {T n nl t : Nat} {w0 w : Row} {v2 : Int32} (st : isSt T) (ht : t ≤ 40000) (S : Sh h) (R : SR h T w n nl) (hp : w 1 = 0 ∨ w 1 = 1) (H : ∀ i, i < n → WH w i t) (hm : midR w0 n nl = w) :
    ∃ h', s_X6_passMinute_L35 100000 T v2 0 h = some (v2, h') ∧ Ch (ST T) h h' ∧ hR h' = hR h ∧ hT h' = hT h ∧ SR h' T (minR w0 n nl) n (minL w0 n nl) := by
  have n8 := R.n8
  obtain ⟨h1, a1, a2, a3, a4, a5⟩ := c_rest (v2 := v2) st ht n 0 100000 h w (by omega) (by omega) S R hp H
  have S1 : Sh h1 := S.of a3 a4 a2.1
  obtain ⟨h2, b1, b2, b3, b4, b5⟩ := c_leaseL st nl 0 0 100000 h1 _ (by omega) (by omega) (by have := R.1.2.2.2; omega) S1 a5
  have S2 : Sh h2 := S1.of b3 b4 b2.1
  have ew : itF restF 0 n w = aftR w0 n nl := by unfold aftR; rw [hm]
  rw [ew] at a5 b1 b5
  have hl := lsF_le nl 0 0 (aftR w0 n nl)
  rw [Nat.zero_add] at hl
  have e5 : hI h2 T 5 = (lsF nl 0 0 (aftR w0 n nl)).1 0 := b5.2.1.2.2.1
  refine ⟨sI (sI h2 T 4 (nI (lsF nl 0 0 (aftR w0 n nl)).2)) T 5 ((lsF nl 0 0 (aftR w0 n nl)).1 0 + 1), ?_, ?_, b3.trans a3, b4.trans a4, ?_⟩
  · refine a1.trans ?_
    rw [show s_X6_shortenLeases T h1 = _ from b1]
    simp only [inv, bnd, putI, retU, getI, retI, S1.t0 st, S2.t0 st, hT_sI, if_true, hI_sI, show ((5 : Nat) = 4) = False from eq_false (by decide), and_false, if_false, e5]
  · refine a2.trans ((b2.mono ?_).trans ?_)
    · rintro x ⟨j, hj, rfl⟩
      exact ⟨by omega, by omega, by omega⟩
    · exact ((Ch.rfl' (P := ST T)).sI T 4 _ ST.T).sI T 5 _ ST.T
  · unfold minR minL
    generalize (lsF nl 0 0 (aftR w0 n nl)) = p at *
    refine b5.scal st S2 (((Ch.rfl' (P := fun x => x = T)).sI T 4 _ rfl).sI T 5 _ rfl) hl (fun j hj => ?_) ?_ ?_ (fun k hk => ?_) ?_
    · rw [upd_ne _ _ (by omega), upd_ne _ _ (by omega)]
    · rw [upd_ne _ _ (by omega), upd_ne _ _ (by omega)]
    · rw [upd_ne _ _ (by omega), upd_eq]
    · rcases (show k = 0 ∨ k = 1 ∨ k = 2 ∨ k = 3 by omega) with rfl | rfl | rfl | rfl <;> rw [upd_ne _ _ (by omega), upd_ne _ _ (by omega)]
    · obtain ⟨y1, y2, y3, y4, y5, y6, y7, y8⟩ := b5.2.1
      refine ⟨?_, ?_, ?_, ?_, ?_, ?_, ?_, ?_⟩
      · rw [upd_ne _ _ (by omega), upd_ne _ _ (by omega), ← y1]; simp [hI_sI]
      · rw [upd_ne _ _ (by omega), upd_eq]; simp [hI_sI]
      · rw [upd_eq]; simp [hI_sI]
      · rw [upd_ne _ _ (by omega), upd_ne _ _ (by omega), ← y4]; simp [hI_sI]
      · rw [upd_ne _ _ (by omega), upd_ne _ _ (by omega), ← y5]; simp [hI_sI]
      · rw [upd_ne _ _ (by omega), upd_ne _ _ (by omega), ← y6]; simp [hI_sI]
      · rw [upd_ne _ _ (by omega), upd_ne _ _ (by omega), ← y7]; simp [hI_sI]
      · rw [upd_ne _ _ (by omega), upd_ne _ _ (by omega), ← y8]; simp [hI_sI]
theorem getA_gI_tail {g : Nat → Nat} {h : Hp} (e : hI h 238 = gI g) (hz : ∀ i, 8 ≤ i → g i = 0) : ∀ i, 8 ≤ i → hI h 238 i = 0 := fun i hi => by
  rw [e]; show nI (g i) = 0; rw [hz i hi]; rfl
theorem c_passMinute {h : Hp} {T n nl t : Nat} {w : Row} (st : isSt T) (ht : t ≤ 39000) (S : Sh h) (R : SR h T w n nl) (B : WB w) (L : WL w n nl) (H : ∀ i, i < n → WH w i t) (hp : w 1 = 0 ∨ w 1 = 1) (hz : ∀ i, 8 ≤ i → hI h 238 i = 0) (hg : ∀ i, (getA w n nl).1 i ≤ 250) :
    ∃ h', s_X6_passMinute T 235 h = some (minH w n nl, h') ∧ Ch (PMP T) h h' ∧ hR h' = hR h ∧ hT h' = hT h ∧ (hI h' 238 = hI h 238 ∨ hI h' 238 = gI (getA w n nl).1) ∧ SR h' T (minR w n nl) n (minL w n nl) ∧ ∀ i, i < n → WH (midR w n nl) i (t + 1) := by
  have tp := st.pos
  have hN0 : 245 ≤ hN h := S.2.2.2.2.2.2.2.2
  obtain ⟨z1, z2, z3, z4, z5, z6, z7, z8⟩ := R.2.1
  have far : ¬ ST T 238 := fun z => by have := z.1; have := z.2.1; omega
  by_cases q : w 1 = 0
  · have em : midR w n nl = upd w 11 (w 11 + 1) := if_pos q
    have c1 : Ch (fun x => x = T) h (sI h T 6 (w 11 + 1)) := (Ch.rfl' (P := fun x => x = T)).sI T 6 _ rfl
    have R1 : SR (sI h T 6 (w 11 + 1)) T (upd w 11 (w 11 + 1)) n nl := by
      refine R.scal st S c1 (Nat.le_refl _) (fun j hj => upd_ne _ _ (by omega)) (upd_ne _ _ (by omega)) (by rw [upd_ne _ _ (by omega)]; exact R.1.2.2.1) (fun k hk => upd_ne _ _ (by omega)) ?_
      simp only [hI_sI, upd_eq, upd_ne w (k := 11) _ (show (2 : Nat) ≠ 11 by omega), upd_ne w (k := 11) _ (show (8 : Nat) ≠ 11 by omega), upd_ne w (k := 11) _ (show (0 : Nat) ≠ 11 by omega), upd_ne w (k := 11) _ (show (13 : Nat) ≠ 11 by omega), upd_ne w (k := 11) _ (show (1 : Nat) ≠ 11 by omega), upd_ne w (k := 11) _ (show (7 : Nat) ≠ 11 by omega), upd_ne w (k := 11) _ (show (14 : Nat) ≠ 11 by omega), z1, z2, z3, z5, z6, z7, z8]
      simp
    obtain ⟨h', d1, d2, d3, d4, d5⟩ := c_passEnd (h := sI h T 6 (w 11 + 1)) (w0 := w) (v2 := 0) st (show t ≤ 40000 by omega) S R1 (by rw [upd_ne _ _ (by omega)]; exact hp) (fun i hi => (H i hi).lo (by omega)) em
    refine ⟨h', ?_, ((c1.mono (fun x hx => by rw [hx]; exact ST.T)).trans d2).mono (fun x hx => Or.inl hx), d3, d4, Or.inl ?_, d5, fun i hi => by rw [em]; exact ((H i hi).lo (by omega)).mono (Nat.le_succ t)⟩
    · unfold s_X6_passMinute minH
      simp only [getI, putI, S.t0 st, if_true, z5, z4, q]
      exact d1
    · rw [(d2.2.2 238 (by show 238 ≤ hN h; omega) far).1, hI_sIn _ _ _ _ _ (by omega)]
  · obtain ⟨h1, a1, a2, a3, a4, a5, a6⟩ := c_giveHeat st (show t ≤ 40000 by omega) S R B L H hz
    have S1 : Sh h1 := S.of a3 a4 a2.1
    obtain ⟨h2, b1, b2, b3, b4, b5, b6⟩ := c_workL st ht hg n 0 100000 h1 _ (by omega) (by have := R.n8; omega) S1 a6 a5 (fun i hi _ => givR_WH H i hi) (fun i hi => absurd hi (by omega))
    have S2 : Sh h2 := S1.of b3 b4 b2.1
    have em : midR w n nl = itF (workF (getA w n nl).1) 0 n (givR w n nl) := if_neg q
    have e1 : itF (workF (getA w n nl).1) 0 n (givR w n nl) 1 = w 1 := by
      rw [← em]; exact midR_lo w n nl 1 (by omega) (by omega) (by omega) (by omega) (by omega) (by omega)
    obtain ⟨h', d1, d2, d3, d4, d5⟩ := c_passEnd (w0 := w) (v2 := nI (sumNN (getA w n nl).1 n 0)) st (show t + 1 ≤ 40000 by omega) S2 b5 (by rw [e1]; exact hp) b6 em
    refine ⟨h', ?_, a2.trans ((b2.trans d2).mono (fun x hx => Or.inl hx)), d3.trans (b3.trans a3), d4.trans (b4.trans a4), Or.inr ?_, d5, fun i hi => by rw [em]; exact b6 i hi⟩
    · unfold s_X6_passMinute minH
      simp only [getI, S.t0 st, if_true, z5, q, if_false, inv, bnd, a1, S1.t0 st]
      rw [show s_X6_work T 235 h1 = _ from b1]
      exact d1
    · rw [(d2.2.2 238 (by have := S2.2.2.2.2.2.2.2.2; omega) far).1, (b2.2.2 238 (by have := S1.2.2.2.2.2.2.2.2; omega) far).1]
      exact a5
