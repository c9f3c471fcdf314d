/-! the law's minute -/
def HA (o p w : Row) (i : Nat) : Prop := HLc o w i ∧ HLw o w i ∧ PRL p w i ∧ GH w i
theorem HA.congr {o p w w' : Row} {i : Nat} (hp : ∀ k, k < 42 → pt w' i k = pt w i k) (A : HA o p w i) : HA o p w' i := by
  obtain ⟨c, a, P, G⟩ := A
  refine ⟨?_, ?_, P.congr (hp 15 (by omega)) (fun k _ h => hp k h), G.congr (hp 9 (by omega)) (hp 10 (by omega)) (hp 14 (by omega)) (hp 15 (by omega)) (fun k _ h => hp k h)⟩
  · unfold HLc
    rw [hp 0 (by omega), hp 1 (by omega), hp 2 (by omega), hp 3 (by omega), hp 4 (by omega), hp 7 (by omega), hp 8 (by omega)]
    exact c
  · unfold HLw
    rw [hp 9 (by omega), hp 10 (by omega), hp 11 (by omega), hp 12 (by omega), hp 13 (by omega), hp 14 (by omega), hp 15 (by omega), hp 16 (by omega), hp 17 (by omega)]
    exact a
theorem HA.other {o o' p w : Row} {j : Nat} (h : ∀ c, c < 16 → ho o' j c = ho o j c) (A : HA o p w j) : HA o' p w j := by
  obtain ⟨c, a, P, G⟩ := A
  refine ⟨?_, ?_, P, G⟩
  · unfold HLc
    rw [h 0 (by omega), h 1 (by omega), h 2 (by omega), h 3 (by omega), h 4 (by omega), h 14 (by omega), h 15 (by omega)]
    exact c
  · unfold HLw
    rw [h 5 (by omega), h 6 (by omega), h 7 (by omega), h 8 (by omega), h 9 (by omega), h 10 (by omega), h 11 (by omega), h 12 (by omega), h 13 (by omega)]
    exact a
/-- heat and work of one house -/
theorem l_work1 {h : Hp} (T : LT5 h) (q p l g : Row) {o w : Row} {gn : Nat → Nat} {i t n : Nat} {v5 : Int32} {k178 : Nat → Nat → Nat → Int32 → Hp → Rv Int32} (hi : i < 3) (H : WH w i t) (ht : t ≤ 500) (A : HA o p w i) (hg : g i = nI (gn i)) (hgl : gn i ≤ 250) :
    ∃ o', s_X10_minute_L124 k178 (n + 1) 241 242 243 244 245 v5 (nI i) (sV h q o p l g) = s_X10_minute_L124 k178 n 241 242 243 244 245 v5 (nI (i + 1)) (sV h q o' p l g) ∧ HA o' p (workF gn (heatF gn w i) i) i ∧ ∀ j c, j ≠ i → c < 16 → ho o' j c = ho o j c := by
  obtain ⟨c, a, P, G⟩ := A
  have f : ∀ k, k ≠ 3 → pt (heatF gn w i) i k = pt w i k := fun k hk => by unfold heatF; rw [pt_sp, if_neg hk]
  have f3 : pt (heatF gn w i) i 3 = pt w i 3 + nI (gn i) := by unfold heatF; rw [pt_sp, if_pos rfl]
  have A1 : HA (so o i 3 (pt w i 3 + nI (gn i))) p (heatF gn w i) i := by
    refine ⟨?_, ?_, P.congr (f 15 (by omega)) (fun k h1 _ => f k (by omega)), G.congr (f 9 (by omega)) (f 10 (by omega)) (f 14 (by omega)) (f 15 (by omega)) (fun k h1 _ => f k (by omega))⟩
    · unfold HLc
      rw [f 0 (by omega), f 1 (by omega), f 2 (by omega), f3, f 4 (by omega), f 7 (by omega), f 8 (by omega)]
      simp only [ho_so, Nat.reduceEqDiff, if_false, if_true]
      exact ⟨c.1, c.2.1, c.2.2.1, trivial, c.2.2.2.2.1, c.2.2.2.2.2.1, c.2.2.2.2.2.2⟩
    · unfold HLw
      rw [f 9 (by omega), f 10 (by omega), f 11 (by omega), f 12 (by omega), f 13 (by omega), f 14 (by omega), f 15 (by omega), f 16 (by omega), f 17 (by omega)]
      simp only [ho_so, Nat.reduceEqDiff, if_false]
      exact a
  have fr : ∀ j c, j ≠ i → c < 16 → ho (so o i 3 (pt w i 3 + nI (gn i))) j c = ho o j c := fun j c hj hc => ho_so_ne _ _ (Ne.symm hj) (by omega) hc
  have b5 : ho (so o i 3 (pt w i 3 + nI (gn i))) i 5 = pt w i 9 := by rw [ho_so, if_neg (by omega)]; exact a.1
  rw [s_X10_minute_L124, show (3 : Int32) = nI 3 from rfl, if_neg (by rw [nI_leE (by omega) (by omega)]; omega)]
  simp only [show nI 3 = (3 : Int32) from rfl, vo_3 T _ _ _ _ _ hi, vg_ T _ _ _ _ _ (show i < 4 by omega), wo_3 T _ _ _ _ _ hi, vo_5 T _ _ _ _ _ hi, hg, c.2.2.2.1, b5, nI_1]
  unfold workF
  rw [f 9 (by omega)]
  by_cases h9 : pt w i 9 = 1
  · rw [if_pos h9, if_pos h9]
    obtain ⟨o', e1, e2, e3, e4⟩ := l_works T q p l g hi (H.heat (g := gn) (i := i)) ht A1.2.1 A1.1.2.2.2.2.1 A1.2.2.1 A1.2.2.2 ((f 9 (by omega)).trans h9) hgl
    refine ⟨o', ?_, ⟨?_, e2, A1.2.2.1.works _, GH.works H.heat A1.2.2.2 ((f 9 (by omega)).trans h9) _⟩, fun j c hj hc => (e4.2 j c hj hc).trans (fr j c hj hc)⟩
    · rw [e1]
      rfl
    · have wp : ∀ k, (k = 0 ∨ k = 1 ∨ k = 2 ∨ k = 3 ∨ k = 7 ∨ k = 8) → pt (worksF (heatF gn w i) i (nI (gn i))) i k = pt (heatF gn w i) i k := fun k hk => by
        unfold worksF
        split
        · rw [pt_sp, if_neg (by omega)]
        · exact goF_pt (heatF gn w i) i _ _ _ (by omega) (by omega) (by omega) (by omega) (by omega) (by omega) (by omega) (by omega)
      unfold HLc
      rw [wp 0 (by omega), wp 1 (by omega), wp 2 (by omega), wp 3 (by omega), wp 7 (by omega), wp 8 (by omega), e4.1 0 (by omega), e4.1 1 (by omega), e4.1 2 (by omega), e4.1 3 (by omega), e4.1 14 (by omega), e4.1 15 (by omega), e3]
      obtain ⟨c0, c1, c2, c3, c4, c5, c6⟩ := A1.1
      exact ⟨c0, c1, c2, c3, rfl, c5, c6⟩
  · rw [if_neg h9, if_neg h9]
    exact ⟨_, rfl, A1, fr⟩
def hwF (gn : Nat → Nat) (w : Row) (i : Nat) : Row := workF gn (heatF gn w i) i
theorem hwF_ne (gn : Nat → Nat) (w : Row) {i j k : Nat} (hij : i ≠ j) (hk : k < 42) : pt (hwF gn w i) j k = pt w j k := by
  unfold hwF
  have e1 : pt (workF gn (heatF gn w i) i) j k = pt (heatF gn w i) j k := workF_off gn _ i _ (by omega) (by omega)
  have e2 : pt (heatF gn w i) j k = pt w j k := heatF_off gn w i _ (by omega)
  exact e1.trans e2
theorem l_workL {h : Hp} (T : LT5 h) (q p l g : Row) {gn : Nat → Nat} {t : Nat} {v5 : Int32} {k178 : Nat → Nat → Nat → Int32 → Hp → Rv Int32} (ht : t ≤ 500) (hg : ∀ i, i < 3 → g i = nI (gn i)) (hgl : ∀ i, gn i ≤ 250) : ∀ (d k f : Nat) (o w : Row), k + d = 3 → d < f → (∀ i, i < 3 → HA o p w i) → (∀ i, k ≤ i → i < 3 → WH w i t) →
    ∃ o', s_X10_minute_L124 k178 f 241 242 243 244 245 v5 (nI k) (sV h q o p l g) = k178 241 242 244 v5 (sV h q o' p l g) ∧ ∀ i, i < 3 → HA o' p (itF (hwF gn) k d w) i
  | 0, k, f, o, w, hk, hf, A, H => by
    obtain ⟨m, rfl, -⟩ := fuel_succ hf
    refine ⟨o, ?_, A⟩
    rw [s_X10_minute_L124, if_pos (by rw [show (3 : Int32) = nI 3 from rfl, nI_leE (by omega) (by omega)]; omega)]
  | d + 1, k, f, o, w, hk, hf, A, H => by
    obtain ⟨m, rfl, hm⟩ := fuel_succ hf
    obtain ⟨o1, e1, e2, e3⟩ := l_work1 T q p l g (n := m) (v5 := v5) (k178 := k178) (show k < 3 by omega) (H k (Nat.le_refl k) (by omega)) ht (A k (by omega)) (hg k (by omega)) (hgl k)
    obtain ⟨o', d1, d2⟩ := l_workL T q p l g ht hg hgl (v5 := v5) (k178 := k178) d (k + 1) m o1 (hwF gn w k) (by omega) (by omega) (fun i hi => by
      by_cases z : i = k
      · rw [z]; exact e2
      · exact ((A i hi).other (fun c hc => e3 i c z hc)).congr (fun c hc => hwF_ne gn w (Ne.symm z) hc)) (fun i h1 h2 => (H i (by omega) h2).congr (fun c hc => hwF_ne gn w (by omega) hc))
    exact ⟨o', e1.trans d1, d2⟩
/-- cooling and the door of one house -/
theorem l_rest1 {h : Hp} (T : LT5 h) (q p l g : Row) {o w : Row} {i t n : Nat} {v5 : Int32} {k323 : Nat → Nat → Int32 → Hp → Rv Int32} (hi : i < 3) (H : WH w i t) (ht : t ≤ 1000) (A : HA o p w i) (hq1 : q 1 = w 1) (hq5 : q 5 = w 6) (hp : w 1 = 0 ∨ w 1 = 1) :
    ∃ o', s_X10_minute_L192 k323 (n + 1) 241 242 244 v5 (nI i) (sV h q o p l g) = s_X10_minute_L192 k323 n 241 242 244 v5 (nI (i + 1)) (sV h q o' p l g) ∧ HA o' p (restF w i) i ∧ ∀ j c, j ≠ i → c < 16 → ho o' j c = ho o j c := by
  obtain ⟨c, a, P, G⟩ := A
  obtain ⟨wt, wm, HWq⟩ := H.hw (by omega)
  obtain ⟨n1, n2⟩ := HWq.n
  obtain ⟨w11, w12, b1, b2⟩ := HWq
  have cle : coolN wt wm ≤ wm := by
    unfold coolN
    split <;> omega
  have ec : coolF w i = sp w i 12 (nI (coolN wt wm)) := by unfold coolF; rw [n1, n2]
  have f : ∀ k, k ≠ 12 → pt (coolF w i) i k = pt w i k := fun k hk => coolF_pt w i k hk
  have f12 : pt (coolF w i) i 12 = nI (coolN wt wm) := by rw [ec, pt_sp, if_pos rfl]
  have A1 : HA (so o i 8 (nI (coolN wt wm))) p (coolF w i) i := by
    refine ⟨?_, ?_, P.congr (f 15 (by omega)) (fun k h1 _ => f k (by omega)), G.congr (f 9 (by omega)) (f 10 (by omega)) (f 14 (by omega)) (f 15 (by omega)) (fun k h1 _ => f k (by omega))⟩
    · unfold HLc
      rw [f 0 (by omega), f 1 (by omega), f 2 (by omega), f 3 (by omega), f 4 (by omega), f 7 (by omega), f 8 (by omega)]
      simp only [ho_so, Nat.reduceEqDiff, if_false]
      exact c
    · unfold HLw
      rw [f 9 (by omega), f 10 (by omega), f 11 (by omega), f12, f 13 (by omega), f 14 (by omega), f 15 (by omega), f 16 (by omega), f 17 (by omega)]
      simp only [ho_so, Nat.reduceEqDiff, if_false, if_true]
      exact ⟨a.1, a.2.1, trivial, a.2.2.2⟩
  have fr : ∀ j c, j ≠ i → c < 16 → ho (so o i 8 (nI (coolN wt wm))) j c = ho o j c := fun j c hj hc => ho_so_ne _ _ (Ne.symm hj) (by omega) hc
  have t1 := l_tmp T q o p l g hi (a.2.1.trans w11) (a.2.2.1.trans w12) b1 b2
  have t2 := l_tmp T q (so o i 8 (nI (coolN wt wm))) p l g hi (by rw [ho_so, if_neg (by omega)]; exact a.2.1.trans w11) (by rw [ho_so, if_pos rfl]) b1 (show coolN wt wm < 2 ^ 28 by omega)
  -- what follows the cooling
  have J : ∀ x y : Int32, x - y = nI (coolN wt wm) → ∃ o', s_X10_minute_J258 (fun y0 y1 y2 y3 y4 h => s_X10_minute_L192 k323 n y0 y1 y2 y3 y4 h) 241 242 244 v5 (nI i) 242 (16 * nI i + 8) x y (sV h q o p l g) = s_X10_minute_L192 k323 n 241 242 244 v5 (nI (i + 1)) (sV h q o' p l g) ∧ HA o' p (restF w i) i ∧ ∀ j c, j ≠ i → c < 16 → ho o' j c = ho o j c := fun x y hxy => by
    unfold s_X10_minute_J258
    simp only [wo_8 T _ _ _ _ _ hi, vq_1 T, hq1, hxy, vo_9 T _ _ _ _ _ hi, vo_5 T _ _ _ _ _ hi, ho_so, Nat.reduceEqDiff, if_false, a.2.2.2.1, a.1, nI_1]
    rcases hp with z | z
    · rw [if_neg (by rw [z]; decide)]
      refine ⟨_, rfl, ?_, fr⟩
      unfold restF
      rw [if_pos z]
      exact A1
    · rw [if_pos z]
      have er : restF w i = if pt w i 13 = 2 ∧ pt w i 9 ≠ 1 ∧ ¬ (w 6 < nI (tmpN wt (coolN wt wm))) then sp (coolF w i) i 13 1 else coolF w i := by
        unfold restF
        rw [if_neg (by rw [z]; decide)]
        unfold unlockF
        have e1 : wtN (coolF w i) i = wt := by unfold wtN; rw [f 11 (by omega), w11, nI_clamp (by omega)]
        have e2 : wmN (coolF w i) i = coolN wt wm := by unfold wmN; rw [f12, nI_clamp (by omega)]
        rw [f 13 (by omega), f 9 (by omega), e1, e2, coolF_off w i 6 (by omega)]
      by_cases z1 : pt w i 13 = 2
      · rw [if_pos z1]
        by_cases z2 : pt w i 9 = 1
        · rw [if_pos z2]
          refine ⟨_, rfl, ?_, fr⟩
          rw [er, if_neg (fun y => y.2.1 z2)]
          exact A1
        · rw [if_neg z2, t2]
          simp only [bnd, vq_5 T, hq5]
          by_cases z3 : w 6 < nI (tmpN wt (coolN wt wm))
          · rw [if_pos z3]
            refine ⟨_, rfl, ?_, fr⟩
            rw [er, if_neg (fun y => y.2.2 z3)]
            exact A1
          · rw [if_neg z3, wo_9 T _ _ _ _ _ hi]
            refine ⟨_, rfl, ?_, fun j c hj hc => (ho_so_ne _ _ (Ne.symm hj) (by omega) hc).trans (fr j c hj hc)⟩
            rw [er, if_pos ⟨z1, z2, z3⟩]
            have g' : ∀ k, k ≠ 13 → pt (sp (coolF w i) i 13 1) i k = pt (coolF w i) i k := fun k hk => by rw [pt_sp, if_neg hk]
            refine ⟨?_, ?_, A1.2.2.1.congr (g' 15 (by omega)) (fun k h1 _ => g' k (by omega)), A1.2.2.2.congr (g' 9 (by omega)) (g' 10 (by omega)) (g' 14 (by omega)) (g' 15 (by omega)) (fun k h1 _ => g' k (by omega))⟩
            · have := A1.1
              unfold HLc at this ⊢
              rw [g' 0 (by omega), g' 1 (by omega), g' 2 (by omega), g' 3 (by omega), g' 4 (by omega), g' 7 (by omega), g' 8 (by omega)]
              simp only [ho_so, Nat.reduceEqDiff, if_false] at this ⊢
              exact this
            · have := A1.2.1
              unfold HLw at this ⊢
              rw [g' 9 (by omega), g' 10 (by omega), g' 11 (by omega), g' 12 (by omega), g' 14 (by omega), g' 15 (by omega), g' 16 (by omega), g' 17 (by omega), pt_sp, if_pos rfl]
              simp only [ho_so, Nat.reduceEqDiff, if_false, if_true] at this ⊢
              exact ⟨this.1, this.2.1, this.2.2.1, trivial, this.2.2.2.2⟩
      · rw [if_neg z1]
        refine ⟨_, rfl, ?_, fr⟩
        rw [er, if_neg (fun y => z1 y.1)]
        exact A1
  rw [s_X10_minute_L192, show (3 : Int32) = nI 3 from rfl, if_neg (by rw [nI_leE (by omega) (by omega)]; omega), t1]
  simp only [bnd, vo_8 T _ _ _ _ _ hi, vo_7 T _ _ _ _ _ hi, a.2.2.1, a.2.1, w11, w12]
  have c15 : (nI (tmpN wt wm) - 15 ≤ 0) = (tmpN wt wm ≤ 15) := nI_15 (tmpN_lt (by omega))
  by_cases z : tmpN wt wm ≤ 15
  · rw [if_pos (Eq.mpr c15 z)]
    unfold s_X10_minute_J257
    exact J (nI wm) 0 (by
      unfold coolN
      rw [Int32.sub_zero, if_pos (Or.inr z)])
  · rw [if_neg (fun y => z (Eq.mp c15 y))]
    have z0 : wt ≠ 0 := fun y => z (by unfold tmpN; rw [if_pos y]; omega)
    rw [if_neg (by rw [show (0 : Int32) = nI 0 from rfl, nI_leE (by omega) (by omega)]; omega)]
    have hb : (tmpN wt wm - 15) * wt < 2 ^ 31 := by
      have h1 : (tmpN wt wm - 15) * wt ≤ tmpN wt wm * (4 * wt) := Nat.mul_le_mul (by omega) (by omega)
      have h2 : tmpN wt wm * (4 * wt) ≤ wm := by
        unfold tmpN
        rw [if_neg z0]
        exact Nat.div_mul_le_self _ _
      omega
    unfold divI
    rw [if_neg (by decide), show (15 : Int32) = nI 15 from rfl, nI_sub (by omega), nI_mul, show (30 : Int32) = nI 30 from rfl, nI_div hb (by omega) (by omega)]
    exact J (nI wm) _ (by
      rw [nI_sub (cool_le z0)]
      unfold coolN
      rw [if_neg (fun y => y.elim z0 z)])
theorem restF_ne (w : Row) {i j k : Nat} (hij : i ≠ j) (hk : k < 42) : pt (restF w i) j k = pt w j k := restF_off w i _ (by omega)
theorem l_restL {h : Hp} (T : LT5 h) (q p l g : Row) {t : Nat} {v5 : Int32} {k323 : Nat → Nat → Int32 → Hp → Rv Int32} (ht : t ≤ 1000) : ∀ (d k f : Nat) (o w : Row), k + d = 3 → d < f → (∀ i, i < 3 → HA o p w i) → (∀ i, k ≤ i → i < 3 → WH w i t) → q 1 = w 1 → q 5 = w 6 → (w 1 = 0 ∨ w 1 = 1) →
    ∃ o', s_X10_minute_L192 k323 f 241 242 244 v5 (nI k) (sV h q o p l g) = k323 241 244 v5 (sV h q o' p l g) ∧ ∀ i, i < 3 → HA o' p (itF restF k d w) i
  | 0, k, f, o, w, hk, hf, A, H, _, _, _ => by
    obtain ⟨m, rfl, -⟩ := fuel_succ hf
    refine ⟨o, ?_, A⟩
    rw [s_X10_minute_L192, if_pos (by rw [show (3 : Int32) = nI 3 from rfl, nI_leE (by omega) (by omega)]; omega)]
  | d + 1, k, f, o, w, hk, hf, A, H, q1, q5, hp => by
    obtain ⟨m, rfl, hm⟩ := fuel_succ hf
    obtain ⟨o1, e1, e2, e3⟩ := l_rest1 T q p l g (n := m) (v5 := v5) (k323 := k323) (show k < 3 by omega) (H k (Nat.le_refl k) (by omega)) ht (A k (by omega)) q1 q5 hp
    have r1 : restF w k 1 = w 1 := restF_off w k 1 (by omega)
    have r6 : restF w k 6 = w 6 := restF_off w k 6 (by omega)
    obtain ⟨o', d1, d2⟩ := l_restL T q p l g ht (v5 := v5) (k323 := k323) d (k + 1) m o1 (restF w k) (by omega) (by omega) (fun i hi => by
      by_cases z : i = k
      · rw [z]; exact e2
      · exact ((A i hi).other (fun c hc => e3 i c z hc)).congr (fun c hc => restF_ne w (Ne.symm z) hc)) (fun i h1 h2 => (H i (by omega) h2).congr (fun c hc => restF_ne w (by omega) hc)) (q1.trans r1.symm) (q5.trans r6.symm) (by rw [r1]; exact hp)
    exact ⟨o', e1.trans d1, d2⟩
