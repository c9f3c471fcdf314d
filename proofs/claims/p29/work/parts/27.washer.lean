/-! washers of the system, on numbers -/
theorem bm32 {z : Int} (h1 : -2147483648 ≤ z) (h2 : z < 2147483648) : z.bmod (2 ^ 32) = z := by
  rw [Int.bmod_def]
  split <;> omega
theorem bm64 {z : Int} (h1 : -9223372036854775808 ≤ z) (h2 : z < 9223372036854775808) : z.bmod (2 ^ 64) = z := by
  rw [Int.bmod_def]
  split <;> omega
theorem nI_subT {a b : Nat} (ha : a < 2 ^ 31) (hb : b < 2 ^ 31) : (nI a - nI b).toInt = (a : Int) - b := by
  rw [Int32.toInt_sub, nI_toInt ha, nI_toInt hb, bm32 (by omega) (by omega)]
theorem lN_subT {a b : Nat} (ha : a < 2 ^ 31) (hb : b < 2 ^ 31) : (lN a - lN b).toInt = (a : Int) - b := by
  rw [Int64.toInt_sub, lN_toInt ha, lN_toInt hb, bm64 (by omega) (by omega)]
theorem nI_clip {a b : Nat} (ha : a < 2 ^ 31) (hb : b < 2 ^ 31) : (if 0 < nI a - nI b then nI a - nI b else 0) = nI (a - b) := by
  by_cases q : b < a
  · rw [if_pos (by rw [Int32.lt_iff_toInt_lt, nI_subT ha hb]; show (0 : Int32).toInt < _; rw [show (0 : Int32).toInt = 0 from by decide]; omega), nI_sub (by omega)]
  · rw [if_neg (by rw [Int32.lt_iff_toInt_lt, nI_subT ha hb, show (0 : Int32).toInt = 0 from by decide]; omega), show a - b = 0 by omega]
    rfl
def wantN (wt m wm : Nat) : Nat := min 250 (4 * wt * m - wm)
theorem want_I {wt m wm : Nat} (h1 : 4 * wt * m < 2 ^ 31) (h2 : wm < 2 ^ 31) :
    (if 0 ≤ 4 * nI wt * nI m - nI wm then (if 4 * nI wt * nI m - nI wm ≤ 250 then 4 * nI wt * nI m - nI wm else 250) else 0) = nI (wantN wt m wm) := by
  rw [show (4 : Int32) = nI 4 from rfl, nI_mul, nI_mul, show (250 : Int32) = nI 250 from rfl]
  unfold wantN
  by_cases q : wm ≤ 4 * wt * m
  · rw [nI_sub q, if_pos (nI_pos' (by omega))]
    by_cases r : 4 * wt * m - wm ≤ 250
    · rw [if_pos ((nI_leI (by omega) (by omega)).mpr r), Nat.min_eq_right r]
    · rw [if_neg (fun z => r ((nI_leI (by omega) (by omega)).mp z)), Nat.min_eq_left (by omega)]
  · rw [if_neg (by rw [Int32.le_iff_toInt_le, nI_subT h1 h2, show (0 : Int32).toInt = 0 from by decide]; omega), show 4 * wt * m - wm = 0 by omega]
    rfl
theorem want_L {wt m wm : Nat} (h1 : 4 * wt * m < 2 ^ 31) (h2 : wm < 2 ^ 31) :
    ((if (if lN 4 * lN wt * lN m - lN wm < 250 then lN 4 * lN wt * lN m - lN wm else 250) < 0 then 0 else (if lN 4 * lN wt * lN m - lN wm < 250 then lN 4 * lN wt * lN m - lN wm else 250)) : Int64).toInt32 = nI (wantN wt m wm) := by
  rw [lN_mul, lN_mul, show (250 : Int64) = lN 250 from rfl, show (0 : Int64) = lN 0 from rfl]
  unfold wantN
  by_cases q : wm ≤ 4 * wt * m
  · rw [lN_sub q]
    by_cases r : 4 * wt * m - wm < 250
    · rw [if_pos ((lN_lt (by omega) (by omega)).mpr r), if_neg (fun z => by have := (lN_lt (by omega) (by omega)).mp z; omega), lN_i, Nat.min_eq_right (by omega)]
    · rw [if_neg (fun z => r ((lN_lt (by omega) (by omega)).mp z)), if_neg (fun z => by have := (lN_lt (by omega) (by omega)).mp z; omega), lN_i, Nat.min_eq_left (by omega)]
  · have hz : (lN (4 * wt * m) - lN wm).toInt = ((4 * wt * m : Nat) : Int) - (wm : Nat) := lN_subT h1 h2
    have c1 : lN (4 * wt * m) - lN wm < lN 250 := by rw [Int64.lt_iff_toInt_lt, hz, lN_toInt (by omega)]; omega
    have c2 : lN (4 * wt * m) - lN wm < lN 0 := by rw [Int64.lt_iff_toInt_lt, hz, lN_toInt (by omega)]; omega
    rw [if_pos c1, if_pos c2, lN_i, show 4 * wt * m - wm = 0 by omega]
    rfl
/-- a running washer's phase: its kind and number, as the program tells them -/
def KN (h : Hp) (W : Nat) (K M : Int32) : Prop := hT h W = (7, 0) ∧ hT h (hR h W 0) = (4, 0) ∧ hR h W 0 ≠ 0 ∧ s_X4_kindOf (hR h W 0) (hI h W 3) h = some (K, h) ∧ s_X4_numberOf (hR h W 0) (hI h W 3) h = some (M, h)
theorem c_wantedHeat0 {h : Hp} {W : Nat} (e : hT h W = (7, 0)) (hs : hI h W 1 ≠ 1) : s_X7_wantedHeat W h = some (0, h) := by
  unfold s_X7_wantedHeat
  simp only [getI, getL, getR, putI, putZ, putL, putR, ldI, ldR, stI, stR, divI, divL, bnd, inv, retI, retZ, retC, retR, retU, hT_sI, hT_sL, hT_sR, hR_sI, hR_sL, hN_sI, hN_sL, hN_sR, hI_sL, hI_sR, hL_sI, hL_sR, ↓reduceIte, true_and, and_true, and_self, ne_eq, not_false_eq_true, not_true_eq_false, reduceCtorEq, if_true, if_false, e, hs]
theorem c_wantedHeat1 {h : Hp} {W : Nat} {K M : Int32} (kn : KN h W K M) (hk : K ≠ 104) : s_X7_wantedHeat W h = some (0, h) := by
  obtain ⟨e, e2, e3, e4, e5⟩ := kn
  unfold s_X7_wantedHeat
  by_cases hs : hI h W 1 = 1
  · simp only [getI, getL, getR, putI, putZ, putL, putR, ldI, ldR, stI, stR, divI, divL, bnd, inv, retI, retZ, retC, retR, retU, hT_sI, hT_sL, hT_sR, hR_sI, hR_sL, hN_sI, hN_sL, hN_sR, hI_sL, hI_sR, hL_sI, hL_sR, ↓reduceIte, true_and, and_true, and_self, ne_eq, not_false_eq_true, not_true_eq_false, reduceCtorEq, if_true, if_false, e, hs, e2, e3, e4, hk]
  · simp only [getI, getL, getR, putI, putZ, putL, putR, ldI, ldR, stI, stR, divI, divL, bnd, inv, retI, retZ, retC, retR, retU, hT_sI, hT_sL, hT_sR, hR_sI, hR_sL, hN_sI, hN_sL, hN_sR, hI_sL, hI_sR, hL_sI, hL_sR, ↓reduceIte, true_and, and_true, and_self, ne_eq, not_false_eq_true, not_true_eq_false, reduceCtorEq, if_true, if_false, e, hs]
theorem c_wantedHeat2 {h : Hp} {W wt m wm : Nat} (kn : KN h W 104 (nI m)) (hs : hI h W 1 = 1) (hw : hI h W 5 = nI wt) (hm : hL h W 6 = lN wm) (b1 : 4 * wt * m < 2 ^ 31) (b2 : wm < 2 ^ 31) (b3 : wt < 2 ^ 31) (b4 : m < 2 ^ 31) : s_X7_wantedHeat W h = some (nI (wantN wt m wm), h) := by
  obtain ⟨e, e2, e3, e4, e5⟩ := kn
  unfold s_X7_wantedHeat
  simp only [getI, getL, getR, putI, putZ, putL, putR, ldI, ldR, stI, stR, divI, divL, bnd, inv, retI, retZ, retC, retR, retU, hT_sI, hT_sL, hT_sR, hR_sI, hR_sL, hN_sI, hN_sL, hN_sR, hI_sL, hI_sR, hL_sI, hL_sR, ↓reduceIte, true_and, and_true, and_self, ne_eq, not_false_eq_true, not_true_eq_false, reduceCtorEq, if_true, if_false, e, hs, e2, e3, e4, e5, hw, hm, nI_l b3, nI_l b4]
  rw [← want_L b1 b2]
  rfl
theorem c_cannotWork {h : Hp} {W wt : Nat} {K M : Int32} (kn : KN h W K M) (hw : hI h W 5 = nI wt) (b1 : wt < 2 ^ 31) : s_X7_cannotWork W h = some (if (K = 104 ∧ wt = 0) ∨ (K = 115 ∧ wt ≠ 0) then 1 else 0, h) := by
  obtain ⟨e, e2, e3, e4, e5⟩ := kn
  unfold s_X7_cannotWork s_X7_cannotWork_J25
  have hz : (nI wt ≤ 0) = (wt = 0) := by
    rw [show (0 : Int32) = nI 0 from rfl, nI_leE (by omega) (by omega)]
    exact propext Nat.le_zero
  have hz2 : (nI wt = 0) = (wt = 0) := propext (nI_0' wt b1)
  simp only [getI, getL, getR, putI, putZ, putL, putR, ldI, ldR, stI, stR, divI, divL, bnd, inv, retI, retZ, retC, retR, retU, hT_sI, hT_sL, hT_sR, hR_sI, hR_sL, hN_sI, hN_sL, hN_sR, hI_sL, hI_sR, hL_sI, hL_sR, ↓reduceIte, true_and, and_true, and_self, ne_eq, not_false_eq_true, not_true_eq_false, reduceCtorEq, if_true, if_false, e, e2, e3, e4, hw, hz, hz2]
  by_cases q : K = 104
  · subst q
    by_cases r : wt = 0
    · simp [r]
    · simp [r]
  · by_cases q2 : K = 115
    · subst q2
      by_cases r : wt = 0
      · simp [r]
      · simp [r]
    · simp [q, q2]
theorem c_pour {h : Hp} {W : Nat} {m : Int32} (e : hT h W = (7, 0)) : s_X7_pour W m h = some ((), sL (sI (sI h W 5 (hI h W 5 + (if (m - (6 * (hI h W 4 - 1))) < 6 then (m - (6 * (hI h W 4 - 1))) else 6))) W 7 (hI h W 7 + (if (m - (6 * (hI h W 4 - 1))) < 6 then (m - (6 * (hI h W 4 - 1))) else 6))) W 6 (hL h W 6 + 60 * (if (m - (6 * (hI h W 4 - 1))) < 6 then (m - (6 * (hI h W 4 - 1))) else 6).toInt64)) := by
  unfold s_X7_pour
  simp only [getI, getL, getR, putI, putZ, putL, putR, ldI, ldR, stI, stR, divI, divL, bnd, inv, retI, retZ, retC, retR, retU, hT_sI, hT_sL, hT_sR, hR_sI, hR_sL, hN_sI, hN_sL, hN_sR, hI_sL, hI_sR, hL_sI, hL_sR, ↓reduceIte, true_and, and_true, and_self, ne_eq, not_false_eq_true, not_true_eq_false, reduceCtorEq, if_true, if_false, e]
  simp only [hI_sI]
  simp
theorem c_drain0 {h : Hp} {W : Nat} (e : hT h W = (7, 0)) (hw : hI h W 5 = nI 0) : s_X7_drain W h = some ((), sI (sL h W 6 0) W 5 0) := by
  unfold s_X7_drain
  simp only [getI, getL, getR, putI, putZ, putL, putR, ldI, ldR, stI, stR, divI, divL, bnd, inv, retI, retZ, retC, retR, retU, hT_sI, hT_sL, hT_sR, hR_sI, hR_sL, hN_sI, hN_sL, hN_sR, hI_sL, hI_sR, hL_sI, hL_sR, ↓reduceIte, true_and, and_true, and_self, ne_eq, not_false_eq_true, not_true_eq_false, reduceCtorEq, if_true, if_false, e, hw]
  simp [show (nI 0 ≤ 0) = True from by decide, show ¬ (0 < nI 0 - 12) by decide]
theorem c_drain1 {h : Hp} {W wt wm : Nat} (e : hT h W = (7, 0)) (hw : hI h W 5 = nI wt) (hm : hL h W 6 = lN wm) (h0 : wt ≠ 0) (b1 : wt < 2 ^ 24) (b2 : wm < 2 ^ 30) : s_X7_drain W h = some ((), sI (sL h W 6 (lN (wm * (wt - 12) / wt))) W 5 (nI (wt - 12))) := by
  unfold s_X7_drain
  have hz : (nI wt ≤ 0) = False := by
    rw [show (0 : Int32) = nI 0 from rfl, nI_leE (by omega) (by omega)]
    exact eq_false (by omega)
  have hc := nI_clip (a := wt) (b := 12) (by omega) (by omega)
  have hc' : (if 0 < nI wt - 12 then nI wt - 12 else 0) = nI (wt - 12) := hc
  have hne : ¬ lN wt = 0 := by
    rw [show (0 : Int64) = lN 0 from rfl, lN_eq (by omega) (by omega)]
    omega
  have hb : wm * (wt - 12) < 2 ^ 63 := by
    have : wm * (wt - 12) ≤ 2 ^ 30 * 2 ^ 24 := Nat.mul_le_mul (by omega) (by omega)
    omega
  simp only [getI, getL, getR, putI, putZ, putL, putR, ldI, ldR, stI, stR, divI, divL, bnd, inv, retI, retZ, retC, retR, retU, hT_sI, hT_sL, hT_sR, hR_sI, hR_sL, hN_sI, hN_sL, hN_sR, hI_sL, hI_sR, hL_sI, hL_sR, ↓reduceIte, true_and, and_true, and_self, ne_eq, not_false_eq_true, not_true_eq_false, reduceCtorEq, if_true, if_false, e, hw, hm, hz, hc', nI_l (show wt < 2 ^ 31 by omega), nI_l (show wt - 12 < 2 ^ 31 by omega), hne, lN_mul, lN_div hb (show wt < 2 ^ 63 by omega) h0]
theorem c_change_f {h : Hp} {W : Nat} {M g : Int32} {h' : Hp} (kn : KN h W 102 M) (hp : s_X7_pour W M h = some ((), h')) : s_X7_change W g h = some ((), h') := by
  obtain ⟨e, e2, e3, e4, e5⟩ := kn
  unfold s_X7_change
  simp only [getI, getL, getR, putI, putZ, putL, putR, ldI, ldR, stI, stR, divI, divL, bnd, inv, retI, retZ, retC, retR, retU, hT_sI, hT_sL, hT_sR, hR_sI, hR_sL, hN_sI, hN_sL, hN_sR, hI_sL, hI_sR, hL_sI, hL_sR, ↓reduceIte, true_and, and_true, and_self, ne_eq, not_false_eq_true, not_true_eq_false, reduceCtorEq, if_true, if_false, e, e2, e3, e4, e5, hp, show ((102 : Int32) = 100) = False from eq_false (by decide)]
theorem c_change_d {h : Hp} {W : Nat} {M g : Int32} {h' : Hp} (kn : KN h W 100 M) (hp : s_X7_drain W h = some ((), h')) : s_X7_change W g h = some ((), h') := by
  obtain ⟨e, e2, e3, e4, e5⟩ := kn
  unfold s_X7_change
  simp only [getI, getL, getR, putI, putZ, putL, putR, ldI, ldR, stI, stR, divI, divL, bnd, inv, retI, retZ, retC, retR, retU, hT_sI, hT_sL, hT_sR, hR_sI, hR_sL, hN_sI, hN_sL, hN_sR, hI_sL, hI_sR, hL_sI, hL_sR, ↓reduceIte, true_and, and_true, and_self, ne_eq, not_false_eq_true, not_true_eq_false, reduceCtorEq, if_true, if_false, e, e2, e3, e4, e5, hp]
theorem c_change_h {h : Hp} {W : Nat} {M g : Int32} (kn : KN h W 104 M) : s_X7_change W g h = some ((), sL h W 6 (hL h W 6 + g.toInt64)) := by
  obtain ⟨e, e2, e3, e4, e5⟩ := kn
  unfold s_X7_change
  simp only [getI, getL, getR, putI, putZ, putL, putR, ldI, ldR, stI, stR, divI, divL, bnd, inv, retI, retZ, retC, retR, retU, hT_sI, hT_sL, hT_sR, hR_sI, hR_sL, hN_sI, hN_sL, hN_sR, hI_sL, hI_sR, hL_sI, hL_sR, ↓reduceIte, true_and, and_true, and_self, ne_eq, not_false_eq_true, not_true_eq_false, reduceCtorEq, if_true, if_false, e, e2, e3, e4, e5, show ((104 : Int32) = 100) = False from eq_false (by decide), show ((104 : Int32) = 102) = False from eq_false (by decide)]
theorem c_change_o {h : Hp} {W : Nat} {K M g : Int32} (kn : KN h W K M) (h1 : K ≠ 100) (h2 : K ≠ 102) (h3 : K ≠ 104) : s_X7_change W g h = some ((), h) := by
  obtain ⟨e, e2, e3, e4, e5⟩ := kn
  unfold s_X7_change
  simp only [getI, getL, getR, putI, putZ, putL, putR, ldI, ldR, stI, stR, divI, divL, bnd, inv, retI, retZ, retC, retR, retU, hT_sI, hT_sL, hT_sR, hR_sI, hR_sL, hN_sI, hN_sL, hN_sR, hI_sL, hI_sR, hL_sI, hL_sR, ↓reduceIte, true_and, and_true, and_self, ne_eq, not_false_eq_true, not_true_eq_false, reduceCtorEq, if_true, if_false, e, e2, e3, e4, e5, h1, h2, h3]
theorem c_isOver_d {h : Hp} {W : Nat} {M : Int32} (kn : KN h W 100 M) : s_X7_isPhaseOver W h = some (if hI h W 5 = 0 then 1 else 0, h) := by
  obtain ⟨e, e2, e3, e4, e5⟩ := kn
  unfold s_X7_isPhaseOver
  simp only [getI, getL, getR, putI, putZ, putL, putR, ldI, ldR, stI, stR, divI, divL, bnd, inv, retI, retZ, retC, retR, retU, hT_sI, hT_sL, hT_sR, hR_sI, hR_sL, hN_sI, hN_sL, hN_sR, hI_sL, hI_sR, hL_sI, hL_sR, ↓reduceIte, true_and, and_true, and_self, ne_eq, not_false_eq_true, not_true_eq_false, reduceCtorEq, if_true, if_false, e, e2, e3, e4, e5]
  by_cases q : hI h W 5 = 0 <;> simp [q]
theorem c_isOver_f {h : Hp} {W : Nat} {M : Int32} (kn : KN h W 102 M) : s_X7_isPhaseOver W h = some (if 6 * hI h W 4 < M then 0 else 1, h) := by
  obtain ⟨e, e2, e3, e4, e5⟩ := kn
  unfold s_X7_isPhaseOver
  simp only [getI, getL, getR, putI, putZ, putL, putR, ldI, ldR, stI, stR, divI, divL, bnd, inv, retI, retZ, retC, retR, retU, hT_sI, hT_sL, hT_sR, hR_sI, hR_sL, hN_sI, hN_sL, hN_sR, hI_sL, hI_sR, hL_sI, hL_sR, ↓reduceIte, true_and, and_true, and_self, ne_eq, not_false_eq_true, not_true_eq_false, reduceCtorEq, if_true, if_false, e, e2, e3, e4, e5, show ((102 : Int32) = 100) = False from eq_false (by decide)]
  by_cases q : 6 * hI h W 4 < M <;> simp [q]
theorem c_isOver_h {h : Hp} {W : Nat} {M x : Int32} (kn : KN h W 104 M) (ht : s_X7_temperature W h = some (x, h)) : s_X7_isPhaseOver W h = some (if x < M then 0 else 1, h) := by
  obtain ⟨e, e2, e3, e4, e5⟩ := kn
  unfold s_X7_isPhaseOver
  simp only [getI, getL, getR, putI, putZ, putL, putR, ldI, ldR, stI, stR, divI, divL, bnd, inv, retI, retZ, retC, retR, retU, hT_sI, hT_sL, hT_sR, hR_sI, hR_sL, hN_sI, hN_sL, hN_sR, hI_sL, hI_sR, hL_sI, hL_sR, ↓reduceIte, true_and, and_true, and_self, ne_eq, not_false_eq_true, not_true_eq_false, reduceCtorEq, if_true, if_false, e, e2, e3, e4, e5, ht, show ((104 : Int32) = 100) = False from eq_false (by decide), show ((104 : Int32) = 102) = False from eq_false (by decide)]
  by_cases q : x < M <;> simp [q]
theorem c_isOver_o {h : Hp} {W : Nat} {K M : Int32} (kn : KN h W K M) (h1 : K ≠ 100) (h2 : K ≠ 102) (h3 : K ≠ 104) : s_X7_isPhaseOver W h = some (if hI h W 4 < M then 0 else 1, h) := by
  obtain ⟨e, e2, e3, e4, e5⟩ := kn
  unfold s_X7_isPhaseOver
  simp only [getI, getL, getR, putI, putZ, putL, putR, ldI, ldR, stI, stR, divI, divL, bnd, inv, retI, retZ, retC, retR, retU, hT_sI, hT_sL, hT_sR, hR_sI, hR_sL, hN_sI, hN_sL, hN_sR, hI_sL, hI_sR, hL_sI, hL_sR, ↓reduceIte, true_and, and_true, and_self, ne_eq, not_false_eq_true, not_true_eq_false, reduceCtorEq, if_true, if_false, e, e2, e3, e4, e5, h1, h2, h3]
  by_cases q : hI h W 4 < M <;> simp [q]
