/-! cooling and doors in the system; the loop of a minute over the houses -/
def ST (T x : Nat) : Prop := T ≤ x ∧ x < T + 33 ∧ ¬ (T + 4 ≤ x ∧ x ≤ T + 6)
theorem ST.mut {T x : Nat} (t : isSt T) (h : ST T x) : Mut x := by
  obtain ⟨h1, h2, h3⟩ := h
  refine ⟨by have := t.pos; omega, fun T' t' => ?_⟩
  unfold isSt at t t'
  omega
theorem ST.W {T i : Nat} (hi : i < 8) : ST T (T + 8 + 2 * i) := ⟨by omega, by omega, by omega⟩
theorem ST.H {T i : Nat} (hi : i < 8) : ST T (T + 7 + 2 * i) := ⟨by omega, by omega, by omega⟩
theorem ST.L {T j : Nat} (hj : j < 10) : ST T (T + 23 + j) := ⟨by omega, by omega, by omega⟩
theorem ST.T {T : Nat} : ST T T := ⟨by omega, by omega, by omega⟩
theorem SR.hr {h : Hp} {T n nl i : Nat} {w : Row} (R : SR h T w n nl) (hi : i < n) : HR h (T + 7 + 2 * i) (T + 8 + 2 * i) w (15 + 42 * i) := R.2.2.2.1 i hi
theorem SR.n8 {h : Hp} {T n nl : Nat} {w : Row} (R : SR h T w n nl) : n ≤ 8 := R.1.2.1
theorem SR.washer {h h' : Hp} {T n nl i : Nat} {w w' : Row} (t : isSt T) (S : Sh h) (R : SR h T w n nl) (hi : i < n) (a : Ch (fun x => x = T + 8 + 2 * i) h h') (hw : ∀ j, (j < 15 + 42 * i ∨ 15 + 42 * i + 42 ≤ j) → j ≠ 12 → w' j = w j) (hp : ∀ k, k < 9 → pt w' i k = pt w i k) (r : WR h' (T + 8 + 2 * i) w' i) : SR h' T w' n nl := by
  have n8 := R.n8
  have hN0 : 245 ≤ hN h := S.2.2.2.2.2.2.2.2
  have tp := t.pos
  refine R.house a (fun x hx => by rw [hx]; exact Mut_W t (by omega)) t hN0 hi (fun x hx _ => Or.inr hx) (fun j h1 h2 _ _ => hw j h1 h2) ⟨?_, r⟩
  obtain ⟨q1, -⟩ := R.hr hi
  rw [(a.2.2 (T + 7 + 2 * i) (by omega) (by omega)).1]
  have p0 := hp 0 (by omega)
  have p1 := hp 1 (by omega)
  have p2 := hp 2 (by omega)
  have p3 := hp 3 (by omega)
  have p4 := hp 4 (by omega)
  have p5 := hp 5 (by omega)
  have p6 := hp 6 (by omega)
  have p7 := hp 7 (by omega)
  have p8 := hp 8 (by omega)
  unfold pt at p0 p1 p2 p3 p4 p5 p6 p7 p8
  rw [Nat.add_zero] at p0
  rw [p0, p1, p2, p3, p4, p5, p6, p7, p8]
  exact q1
theorem WR.hw {h : Hp} {W i wt wm : Nat} {w : Row} (R : WR h W w i) (q : HW w i wt wm) : hI h W 5 = nI wt ∧ hL h W 6 = lN wm := by
  obtain ⟨⟨a1, a2, a3, a4, a5, a6⟩, a7⟩ := R
  obtain ⟨q1, q2, q3, q4⟩ := q
  exact ⟨a3.trans q1, by rw [a4, q2, nI_l (by omega)]⟩
theorem c_cool {h : Hp} {W i wt wm : Nat} {w : Row} (e : hT h W = (7, 0)) (hM : Mut W) (R : WR h W w i) (q : HW w i wt wm) :
    ∃ h', s_X7_cool W h = some ((), h') ∧ Ch (fun x => x = W) h h' ∧ hR h' = hR h ∧ hT h' = hT h ∧ WR h' W (coolF w i) i := by
  obtain ⟨g1, g2⟩ := R.hw q
  obtain ⟨n1, n2⟩ := q.n
  have q0 := q
  obtain ⟨q1, q2, q3, q4⟩ := q
  have hlt := tmpN_lt (wt := wt) (wm := wm) (by omega)
  have ht := c_temperature e g1 g2 (by omega) (by omega)
  have hz : (nI wt ≤ 0) = (wt = 0) := by
    rw [show (0 : Int32) = nI 0 from rfl, nI_leE (by omega) (by omega)]
    exact propext Nat.le_zero
  unfold s_X7_cool coolF coolN
  rw [n1, n2]
  simp only [getI, getL, getR, putI, putZ, putL, putR, ldI, ldR, stI, stR, divI, divL, bnd, inv, retI, retZ, retC, retR, retU, hT_sI, hT_sL, hT_sR, hR_sI, hR_sL, hN_sI, hN_sL, hN_sR, hI_sL, hI_sR, hL_sI, hL_sR, ↓reduceIte, true_and, and_true, and_self, ne_eq, not_false_eq_true, not_true_eq_false, reduceCtorEq, if_true, if_false, e, ht, g1, g2, hz, nI_15 hlt]
  by_cases c1 : wt = 0
  · refine ⟨h, by simp only [if_pos c1], Ch.rfl', rfl, rfl, ?_⟩
    rw [if_pos (Or.inl c1), ← q2, sp_self]
    exact R
  · by_cases c2 : tmpN wt wm ≤ 15
    · refine ⟨h, by simp only [if_neg c1, if_pos c2], Ch.rfl', rfl, rfl, ?_⟩
      rw [if_pos (Or.inr c2), ← q2, sp_self]
      exact R
    · have hb : (tmpN wt wm - 15) * wt < 2 ^ 31 := by
        have h2 : tmpN wt wm * (4 * wt) ≤ wm := by
          unfold tmpN
          rw [if_neg c1]
          exact Nat.div_mul_le_self _ _
        have h1 : (tmpN wt wm - 15) * wt ≤ tmpN wt wm * (4 * wt) := Nat.mul_le_mul (by omega) (by omega)
        omega
      have e1 : nI (tmpN wt wm) - 15 = nI (tmpN wt wm - 15) := by rw [show (15 : Int32) = nI 15 from rfl, nI_sub (by omega)]
      have ch : Ch (fun x => x = W) h (sL h W 6 (lN (wm - (tmpN wt wm - 15) * wt / 30))) := (Ch.rfl' (P := fun x => x = W)).sL W 6 _ rfl
      refine ⟨sL h W 6 (lN (wm - (tmpN wt wm - 15) * wt / 30)), ?_, ch, rfl, rfl, ?_⟩
      · have hle := cool_le (wt := wt) (wm := wm) c1
        simp only [if_neg c1, if_neg c2, e1, nI_l (show tmpN wt wm - 15 < 2 ^ 31 by omega), nI_l (show wt < 2 ^ 31 by omega), lN_mul, show ((30 : Int64) = 0) = False from eq_false (by decide), if_false, show (30 : Int64) = lN 30 from rfl, lN_div (show (tmpN wt wm - 15) * wt < 2 ^ 63 by omega) (show 30 < 2 ^ 63 by omega) (show (30 : Nat) ≠ 0 by omega), lN_sub hle]
        rw [if_neg (by decide)]
      · rw [if_neg (by rintro (z | z); exact c1 z; exact c2 z)]
        obtain ⟨⟨a1, a2, a3, a4, a5, a6⟩, a7⟩ := R
        refine ⟨?_, a7.ch ch (fun x hx => by rw [hx]; exact hM) (fun k k1 k2 k3 k4 => ?_)⟩
        · simp only [pt_sp, hI_sL, hL_sL, show ((9 : Nat) = 12) = False from eq_false (by decide), show ((10 : Nat) = 12) = False from eq_false (by decide), show ((14 : Nat) = 12) = False from eq_false (by decide), show ((11 : Nat) = 12) = False from eq_false (by decide), show ((13 : Nat) = 12) = False from eq_false (by decide), show ((17 : Nat) = 12) = False from eq_false (by decide), if_false, if_true, and_self, nI_l (show wm - (tmpN wt wm - 15) * wt / 30 < 2 ^ 31 by omega)]
          exact ⟨a1, a2, a3, trivial, a5, a6⟩
        · show pt (sp w i 12 _) i k = pt w i k
          rw [pt_sp, if_neg (by omega)]
theorem c_unlock {h : Hp} {W i wt wm : Nat} {w : Row} (e : hT h W = (7, 0)) (hM : Mut W) (R : WR h W w i) (q : HW w i wt wm) :
    ∃ h', s_X7_unlockIfSafe W (w 6) h = some ((), h') ∧ Ch (fun x => x = W) h h' ∧ hR h' = hR h ∧ hT h' = hT h ∧ WR h' W (unlockF w i) i := by
  obtain ⟨g1, g2⟩ := R.hw q
  obtain ⟨n1, n2⟩ := q.n
  obtain ⟨q1, q2, q3, q4⟩ := q
  have ht := c_temperature e g1 g2 (by omega) (by omega)
  have R0 := R
  obtain ⟨⟨a1, a2, a3, a4, a5, a6⟩, a7⟩ := R
  unfold s_X7_unlockIfSafe unlockF
  rw [n1, n2]
  simp only [getI, getL, getR, putI, putZ, putL, putR, ldI, ldR, stI, stR, divI, divL, bnd, inv, retI, retZ, retC, retR, retU, hT_sI, hT_sL, hT_sR, hR_sI, hR_sL, hN_sI, hN_sL, hN_sR, hI_sL, hI_sR, hL_sI, hL_sR, ↓reduceIte, true_and, and_true, and_self, ne_eq, not_false_eq_true, not_true_eq_false, reduceCtorEq, if_true, if_false, e, ht, a1, a5]
  by_cases c1 : pt w i 13 = 2
  · by_cases c2 : pt w i 9 = 1
    · refine ⟨h, by simp only [if_pos c1, if_pos c2], Ch.rfl', rfl, rfl, ?_⟩
      rw [if_neg (by rintro ⟨-, z, -⟩; exact z c2)]
      exact R0
    · by_cases c3 : w 6 < nI (tmpN wt wm)
      · refine ⟨h, by simp only [if_pos c1, if_neg c2, if_pos c3], Ch.rfl', rfl, rfl, ?_⟩
        rw [if_neg (by rintro ⟨-, -, z⟩; exact z c3)]
        exact R0
      · have ch : Ch (fun x => x = W) h (sI h W 2 1) := (Ch.rfl' (P := fun x => x = W)).sI W 2 _ rfl
        refine ⟨sI h W 2 1, by simp only [if_pos c1, if_neg c2, if_neg c3], ch, rfl, rfl, ?_⟩
        rw [if_pos ⟨c1, c2, c3⟩]
        refine ⟨?_, a7.ch ch (fun x hx => by rw [hx]; exact hM) (fun k k1 k2 k3 k4 => ?_)⟩
        · simp only [pt_sp, hI_sI, hL_sI, show ((9 : Nat) = 13) = False from eq_false (by decide), show ((10 : Nat) = 13) = False from eq_false (by decide), show ((14 : Nat) = 13) = False from eq_false (by decide), show ((11 : Nat) = 13) = False from eq_false (by decide), show ((12 : Nat) = 13) = False from eq_false (by decide), show ((17 : Nat) = 13) = False from eq_false (by decide), if_false, if_true, and_self, show ((1 : Nat) = 2) = False from eq_false (by decide), show ((3 : Nat) = 2) = False from eq_false (by decide), show ((4 : Nat) = 2) = False from eq_false (by decide), show ((5 : Nat) = 2) = False from eq_false (by decide), show ((7 : Nat) = 2) = False from eq_false (by decide), and_false]
          exact ⟨a1, a2, a3, a4, trivial, a6⟩
        · show pt (sp w i 13 1) i k = pt w i k
          rw [pt_sp, if_neg (by omega)]
  · refine ⟨h, by simp only [if_neg c1], Ch.rfl', rfl, rfl, ?_⟩
    rw [if_neg (by rintro ⟨z, -⟩; exact c1 z)]
    exact R0
theorem WH.congr {w w' : Row} {i t : Nat} (hp : ∀ k, k < 42 → pt w' i k = pt w i k) (q : WH w i t) : WH w' i t := by
  obtain ⟨q1, q2, ⟨wt, wm, w1, w2, w3, w4, w5⟩, np, n1, n2, n3, n4⟩ := q
  refine ⟨by rw [hp 0 (by omega)]; exact q1, by rw [hp 9 (by omega)]; exact q2, ⟨wt, wm, by rw [hp 11 (by omega)]; exact w1, by rw [hp 12 (by omega)]; exact w2, w3, w4, w5⟩, np, by rw [hp 15 (by omega)]; exact n1, n2, fun k hk => ?_, fun z => ?_⟩
  · rw [hp _ (by omega), hp _ (by omega)]
    exact n3 k hk
  · rw [hp 9 (by omega)] at z
    obtain ⟨ph, p1, p2, p3⟩ := n4 z
    refine ⟨ph, p1, by rw [hp 10 (by omega)]; exact p2, fun y => ?_⟩
    rw [hp _ (by omega)] at y
    obtain ⟨g, m, r1, r2, r3, r4⟩ := p3 y
    exact ⟨g, m, by rw [hp 14 (by omega)]; exact r1, by rw [hp 16 (by omega)]; exact r2, by rw [hp _ (by omega)]; exact r3, r4⟩
theorem WH.mono {w : Row} {i t t' : Nat} (h : t ≤ t') (q : WH w i t) : WH w i t' := by
  obtain ⟨q1, q2, ⟨wt, wm, w1, w2, w3, w4, w5⟩, q4⟩ := q
  exact ⟨q1, q2, ⟨wt, wm, w1, w2, by omega, by omega, w5⟩, q4⟩
theorem WH.hw {w : Row} {i t : Nat} (q : WH w i t) (ht : t ≤ 40000) : ∃ wt wm, HW w i wt wm := by
  obtain ⟨q1, q2, ⟨wt, wm, w1, w2, w3, w4, w5⟩, -⟩ := q
  exact ⟨wt, wm, w1, w2, by omega, by omega⟩
theorem WH.cool {w : Row} {i j t : Nat} (ht : t ≤ 40000) (hi : WH w i t) (q : WH w j t) : WH (coolF w i) j t := by
  by_cases e : i = j
  · subst e
    obtain ⟨wt, wm, hq⟩ := hi.hw ht
    obtain ⟨n1, n2⟩ := hq.n
    obtain ⟨q1, q2, ⟨wt', wm', w1, w2, w3, w4, w5⟩, np, n3, n4, n5, n6⟩ := q
    have f : ∀ k, k ≠ 12 → pt (coolF w i) i k = pt w i k := fun k hk => by
      unfold coolF
      rw [pt_sp, if_neg hk]
    have m1 : wtN w i = wt' := by unfold wtN; rw [w1, nI_clamp (by omega)]
    have m2 : wmN w i = wm' := by unfold wmN; rw [w2, nI_clamp (by omega)]
    have hle : coolN wt' wm' ≤ wm' := by unfold coolN; split <;> omega
    refine ⟨by rw [f 0 (by omega)]; exact q1, by rw [f 9 (by omega)]; exact q2, ⟨wt', coolN wt' wm', by rw [f 11 (by omega)]; exact w1, ?_, w3, by omega, fun z => ?_⟩, np, by rw [f 15 (by omega)]; exact n3, n4, fun k hk => ?_, fun z => ?_⟩
    · unfold coolF
      rw [pt_sp, if_pos rfl, m1, m2]
    · have := w5 z
      omega
    · rw [f _ (by omega), f _ (by omega)]
      exact n5 k hk
    · rw [f 9 (by omega)] at z
      obtain ⟨ph, p1, p2, p3⟩ := n6 z
      refine ⟨ph, p1, by rw [f 10 (by omega)]; exact p2, fun y => ?_⟩
      rw [f _ (by omega)] at y
      obtain ⟨g, m, r1, r2, r3, r4⟩ := p3 y
      exact ⟨g, m, by rw [f 14 (by omega)]; exact r1, by rw [f 16 (by omega)]; exact r2, by rw [f _ (by omega)]; exact r3, r4⟩
  · exact q.congr (fun k hk => pt_sp_ne _ _ e (by omega) hk)
theorem WH.unlock {w : Row} {i j t : Nat} (q : WH w j t) : WH (unlockF w i) j t := by
  unfold unlockF
  split
  · by_cases e : i = j
    · subst e
      obtain ⟨q1, q2, ⟨wt', wm', w1, w2, w3, w4, w5⟩, np, n3, n4, n5, n6⟩ := q
      have f : ∀ k, k ≠ 13 → pt (sp w i 13 1) i k = pt w i k := fun k hk => by rw [pt_sp, if_neg hk]
      refine ⟨by rw [f 0 (by omega)]; exact q1, by rw [f 9 (by omega)]; exact q2, ⟨wt', wm', by rw [f 11 (by omega)]; exact w1, by rw [f 12 (by omega)]; exact w2, w3, w4, w5⟩, np, by rw [f 15 (by omega)]; exact n3, n4, fun k hk => ?_, fun z => ?_⟩
      · rw [f _ (by omega), f _ (by omega)]
        exact n5 k hk
      · rw [f 9 (by omega)] at z
        obtain ⟨ph, p1, p2, p3⟩ := n6 z
        refine ⟨ph, p1, by rw [f 10 (by omega)]; exact p2, fun y => ?_⟩
        rw [f _ (by omega)] at y
        obtain ⟨g, m, r1, r2, r3, r4⟩ := p3 y
        exact ⟨g, m, by rw [f 14 (by omega)]; exact r1, by rw [f 16 (by omega)]; exact r2, by rw [f _ (by omega)]; exact r3, r4⟩
    · exact q.congr (fun k hk => pt_sp_ne _ _ e (by omega) hk)
  · exact q
theorem coolF_off (w : Row) (i j : Nat) (hj : j < 15 + 42 * i ∨ 15 + 42 * i + 42 ≤ j) : coolF w i j = w j := by
  unfold coolF sp
  exact upd_ne _ _ (by omega)
theorem unlockF_off (w : Row) (i j : Nat) (hj : j < 15 + 42 * i ∨ 15 + 42 * i + 42 ≤ j) : unlockF w i j = w j := by
  unfold unlockF
  split
  · unfold sp
    exact upd_ne _ _ (by omega)
  · rfl
theorem coolF_pt (w : Row) (i k : Nat) (hk : k ≠ 12) : pt (coolF w i) i k = pt w i k := by
  unfold coolF
  rw [pt_sp, if_neg hk]
theorem unlockF_pt (w : Row) (i k : Nat) (hk : k ≠ 13) : pt (unlockF w i) i k = pt w i k := by
  unfold unlockF
  split
  · rw [pt_sp, if_neg hk]
  · rfl
def restF (w : Row) (i : Nat) : Row := if w 1 = 0 then coolF w i else unlockF (coolF w i) i
theorem c_washerOf {h : Hp} {T i : Nat} (S : Sh h) (t : isSt T) (hi : i < 8) : s_X6_washerOf T (nI i) h = some (T + 8 + 2 * i, h) := by
  unfold s_X6_washerOf
  simp only [getI, getL, getR, putI, putZ, putL, putR, ldI, ldR, stI, stR, divI, divL, bnd, inv, retI, retZ, retC, retR, retU, hT_sI, hT_sL, hT_sR, hR_sI, hR_sL, hN_sI, hN_sL, hN_sR, hI_sL, hI_sR, hL_sI, hL_sR, ↓reduceIte, true_and, and_true, and_self, ne_eq, not_false_eq_true, not_true_eq_false, reduceCtorEq, if_true, if_false, S.t0 t, S.r1 t, S.t2 t, S.rH t hi, S.tH t hi, S.rW t hi, nI_ge0 (show i < 2 ^ 31 by omega), nI_clamp (show i < 2 ^ 31 by omega), hi, show ¬ (T + 2 = 0) by omega, show ¬ (T + 7 + 2 * i = 0) by omega, show ¬ (T + 8 + 2 * i = 0) by omega]
theorem Sh.of {h h' : Hp} (S : Sh h) (hr : hR h' = hR h) (ht : hT h' = hT h) (hn : hN h ≤ hN h') : Sh h' := by
  unfold Sh at *
  rw [hr, ht]
  obtain ⟨a1, a2, a3, a4, a5, a6, a7, a8, a9⟩ := S
  exact ⟨a1, a2, a3, a4, a5, a6, a7, a8, Nat.le_trans a9 hn⟩
/-- the system's loop over the houses at the end of a minute -/
theorem c_rest {T n nl t : Nat} {v2 : Int32} (st : isSt T) (ht : t ≤ 40000) : ∀ (d k f : Nat) (h : Hp) (w : Row), k + d = n → d < f → Sh h → SR h T w n nl → (w 1 = 0 ∨ w 1 = 1) → (∀ i, i < n → WH w i t) →
    ∃ h', s_X6_passMinute_L35 f T v2 (nI k) h = (inv h' T 6 (s_X6_shortenLeases T h') fun _ h => getI h T 6 5 fun x4 => putI h T 6 5 (x4 + 1) fun h => retI v2 h) ∧ Ch (ST T) h h' ∧ hR h' = hR h ∧ hT h' = hT h ∧ SR h' T (itF restF k d w) n nl
  | 0, k, f, h, w, hk, hf, S, R, hp, H => by
    obtain ⟨m, rfl, -⟩ := fuel_succ hf
    have n8 := R.n8
    refine ⟨h, ?_, Ch.rfl', rfl, rfl, R⟩
    rw [s_X6_passMinute_L35]
    have e1 : hI h T 3 = nI n := by rw [R.2.1.1, R.1.1]
    simp only [getI, S.t0 st, e1, if_true, nI_leE (show n < 2 ^ 31 by omega) (show k < 2 ^ 31 by omega), show n ≤ k by omega]
  | d + 1, k, f, h, w, hk, hf, S, R, hp, H => by
    obtain ⟨m, rfl, hm⟩ := fuel_succ hf
    have n8 := R.n8
    have hkn : k < n := by omega
    have hk8 : k < 8 := by omega
    have tp := st.pos
    have hW : T + 8 + 2 * k ≤ hN h := by have := S.2.2.2.2.2.2.2.2; omega
    obtain ⟨wt, wm, hq⟩ := (H k hkn).hw ht
    obtain ⟨h1, c1, c2, c3, c4, c5⟩ := c_cool (S.tW st hk8) (Mut_W st hk8) (R.hr hkn).w hq
    have S1 : Sh h1 := S.of c3 c4 c2.1
    have R1 : SR h1 T (coolF w k) n nl := R.washer st S hkn c2 (fun j hj _ => coolF_off w k j hj) (fun k' hk' => coolF_pt w k k' (by omega)) c5
    have H1 : ∀ i, i < n → WH (coolF w k) i t := fun i hi => (H k hkn).cool ht (H i hi)
    have hp1 : coolF w k 1 = w 1 := coolF_off w k 1 (by omega)
    have e1 : hI h T 3 = nI n := by rw [R.2.1.1, R.1.1]
    have e7 : hI h1 T 7 = w 1 := by rw [R1.2.1.2.2.2.2.1, hp1]
    have up : ∀ x, (fun x => x = T + 8 + 2 * k) x → ST T x := fun x hx => by rw [hx]; exact ST.W hk8
    rw [s_X6_passMinute_L35]
    simp only [getI, inv, bnd, S.t0 st, e1, if_true, nI_leE (show n < 2 ^ 31 by omega) (show k < 2 ^ 31 by omega), show ¬ (n ≤ k) by omega, if_false, c_washerOf S st hk8, S.tW st hk8, c1, S1.t0 st, e7, c_washerOf S1 st hk8]
    show ∃ h', _ ∧ Ch (ST T) h h' ∧ hR h' = hR h ∧ hT h' = hT h ∧ SR h' T (itF restF (k + 1) d (restF w k)) n nl
    unfold restF
    rcases hp with q | q
    · simp only [if_pos q, nI_1]
      obtain ⟨h', d1, d2, d3, d4, d5⟩ := c_rest (v2 := v2) st ht d (k + 1) m h1 (coolF w k) (by omega) (by omega) S1 R1 (by rw [hp1]; exact Or.inl q) H1
      exact ⟨h', d1, (c2.mono up).trans d2, d3.trans c3, d4.trans c4, d5⟩
    · have q0 : ¬ (w 1 = 0) := by rw [q]; decide
      have hq1 : ∃ wt wm, HW (coolF w k) k wt wm := (H1 k hkn).hw ht
      obtain ⟨wt1, wm1, hq1⟩ := hq1
      obtain ⟨h2, u1, u2, u3, u4, u5⟩ := c_unlock (S1.tW st hk8) (Mut_W st hk8) (R1.hr hkn).w hq1
      have S2 : Sh h2 := S1.of u3 u4 u2.1
      have R2 : SR h2 T (unlockF (coolF w k) k) n nl := R1.washer st S1 hkn u2 (fun j hj _ => unlockF_off _ k j hj) (fun k' hk' => unlockF_pt _ k k' (by omega)) u5
      have e63 : hI h1 (T + 1) 3 = coolF w k 6 := R1.2.2.1 3 (by omega)
      have hp2 : unlockF (coolF w k) k 1 = w 1 := (unlockF_off _ k 1 (by omega)).trans hp1
      simp only [if_neg q0, S1.tW st hk8, getR, ldI, S1.t0 st, S1.r0 st, S1.t1 st, cl_3, e63, u1, true_and, show ¬ (T + 1 = 0) by omega, ne_eq, not_false_eq_true, if_true, show ((0 : Int32) ≤ 3) = True from eq_true (by decide), show ((3 : Nat) < 4) = True from eq_true (by decide), nI_1]
      obtain ⟨h', d1, d2, d3, d4, d5⟩ := c_rest (v2 := v2) st ht d (k + 1) m h2 (unlockF (coolF w k) k) (by omega) (by omega) S2 R2 (by rw [hp2]; exact Or.inr q) (fun i hi => (H1 i hi).unlock)
      exact ⟨h', d1, ((c2.mono up).trans (u2.mono up)).trans d2, (d3.trans u3).trans c3, (d4.trans u4).trans c4, d5⟩
