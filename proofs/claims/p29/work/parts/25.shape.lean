/-! what never changes: the kinds of the cells, the references between them -/
def isSt (T : Nat) : Prop := T = 2 ∨ T = 35 ∨ T = 68 ∨ T = 103 ∨ T = 136 ∨ T = 169 ∨ T = 202
def Sh (h : Hp) : Prop :=
  (∀ T, isSt T → ∀ d, d < 33 → hT h (T + d) = stTag d) ∧
  (∀ T, isSt T → hR h T 0 = T + 1 ∧ hR h T 1 = T + 2 ∧ hR h T 2 = T + 3 ∧ (∀ i, i < 8 → hR h (T + 2) i = T + 7 + 2 * i ∧ hR h (T + 7 + 2 * i) 0 = T + 8 + 2 * i) ∧ ∀ j, j < 10 → hR h (T + 3) j = T + 23 + j) ∧
  (hT h 1 = (8, 0) ∧ hR h 1 0 = 2 ∧ hR h 1 1 = 35 ∧ hR h 1 2 = 68 ∧ hR h 1 3 = 101 ∧ hR h 1 4 = 235 ∧ hR h 1 5 = 239) ∧
  (hT h 101 = (1, 0) ∧ hR h 101 0 = 102 ∧ hT h 102 = (24, 4)) ∧
  (hT h 235 = (0, 0) ∧ hR h 235 0 = 236 ∧ hR h 235 1 = 237 ∧ hR h 235 2 = 238 ∧ hT h 236 = (20, 8) ∧ hT h 237 = (20, 8) ∧ hT h 238 = (20, 8)) ∧
  (hT h 239 = (5, 0) ∧ hR h 239 0 = 240 ∧ hT h 240 = (21, 60)) ∧
  hT h 241 = (20, 16) ∧ (hT h 242 = (20, 48) ∧ hT h 243 = (20, 32) ∧ hT h 244 = (20, 20) ∧ hT h 245 = (20, 4)) ∧ 245 ≤ hN h
theorem Sh.t0 {h : Hp} {T : Nat} (S : Sh h) (t : isSt T) : hT h T = (6, 0) := S.1 T t 0 (by omega)
theorem Sh.t1 {h : Hp} {T : Nat} (S : Sh h) (t : isSt T) : hT h (T + 1) = (20, 4) := S.1 T t 1 (by omega)
theorem Sh.t2 {h : Hp} {T : Nat} (S : Sh h) (t : isSt T) : hT h (T + 2) = (22, 8) := S.1 T t 2 (by omega)
theorem Sh.t3 {h : Hp} {T : Nat} (S : Sh h) (t : isSt T) : hT h (T + 3) = (23, 10) := S.1 T t 3 (by omega)
theorem stTag_H : ∀ i, i < 8 → stTag (7 + 2 * i) = (2, 0) := by decide
theorem stTag_W : ∀ i, i < 8 → stTag (8 + 2 * i) = (7, 0) := by decide
theorem stTag_L : ∀ j, j < 10 → stTag (23 + j) = (3, 0) := by decide
theorem Sh.tH {h : Hp} {T : Nat} (S : Sh h) (t : isSt T) {i : Nat} (hi : i < 8) : hT h (T + 7 + 2 * i) = (2, 0) := by
  rw [Nat.add_assoc, S.1 T t (7 + 2 * i) (by omega), stTag_H i hi]
theorem Sh.tW {h : Hp} {T : Nat} (S : Sh h) (t : isSt T) {i : Nat} (hi : i < 8) : hT h (T + 8 + 2 * i) = (7, 0) := by
  rw [Nat.add_assoc, S.1 T t (8 + 2 * i) (by omega), stTag_W i hi]
theorem Sh.tL {h : Hp} {T : Nat} (S : Sh h) (t : isSt T) {j : Nat} (hj : j < 10) : hT h (T + 23 + j) = (3, 0) := by
  rw [Nat.add_assoc, S.1 T t (23 + j) (by omega), stTag_L j hj]
theorem Sh.r0 {h : Hp} {T : Nat} (S : Sh h) (t : isSt T) : hR h T 0 = T + 1 := (S.2.1 T t).1
theorem Sh.r1 {h : Hp} {T : Nat} (S : Sh h) (t : isSt T) : hR h T 1 = T + 2 := (S.2.1 T t).2.1
theorem Sh.r2 {h : Hp} {T : Nat} (S : Sh h) (t : isSt T) : hR h T 2 = T + 3 := (S.2.1 T t).2.2.1
theorem Sh.rH {h : Hp} {T : Nat} (S : Sh h) (t : isSt T) {i : Nat} (hi : i < 8) : hR h (T + 2) i = T + 7 + 2 * i := ((S.2.1 T t).2.2.2.1 i hi).1
theorem Sh.rW {h : Hp} {T : Nat} (S : Sh h) (t : isSt T) {i : Nat} (hi : i < 8) : hR h (T + 7 + 2 * i) 0 = T + 8 + 2 * i := ((S.2.1 T t).2.2.2.1 i hi).2
theorem Sh.rL {h : Hp} {T : Nat} (S : Sh h) (t : isSt T) {j : Nat} (hj : j < 10) : hR h (T + 3) j = T + 23 + j := (S.2.1 T t).2.2.2.2 j hj
theorem Sh.sI {h : Hp} (S : Sh h) (a k : Nat) (v : Int32) : Sh (sI h a k v) := S
theorem Sh.sL {h : Hp} (S : Sh h) (a k : Nat) (v : Int64) : Sh (sL h a k v) := S
theorem isSt.pos {T : Nat} (t : isSt T) : 2 ≤ T ∧ T ≤ 202 := by
  unfold isSt at t
  omega
/-- a program of n phases -/
def PO (h : Hp) (p n : Nat) : Prop := hT h p = (4, 0) ∧ hR h p 1 = p + 1 ∧ hR h p 2 = p + 2 ∧ hI h p 0 = nI n ∧ hT h (p + 1) = (21, n) ∧ hT h (p + 2) = (20, n) ∧ n < 64
theorem nI_lt0 {n : Nat} (h : n < 2 ^ 31) : (nI n < 0) = False := eq_false (nI_pos h)
theorem nI_ge0 {n : Nat} (h : n < 2 ^ 31) : (0 ≤ nI n) = True := eq_true (nI_pos' h)
theorem nI_leE {a b : Nat} (ha : a < 2 ^ 31) (hb : b < 2 ^ 31) : (nI a ≤ nI b) = (a ≤ b) := propext (nI_leI ha hb)
theorem nI_ltE {a b : Nat} (ha : a < 2 ^ 31) (hb : b < 2 ^ 31) : (nI a < nI b) = (a < b) := propext (nI_ltI ha hb)
theorem nI_eqE {a b : Nat} (ha : a < 2 ^ 31) (hb : b < 2 ^ 31) : (nI a = nI b) = (a = b) := propext (nI_eq ha hb)
theorem c_hasPhase {h : Hp} {p n k : Nat} (P : PO h p n) (hk : k < 2 ^ 31) : s_X4_hasPhase p (nI k) h = some (if k < n then 1 else 0, h) := by
  obtain ⟨e1, e2, e3, e4, e5, e6, e7⟩ := P
  unfold s_X4_hasPhase
  simp only [getI, getL, getR, putI, putZ, putL, putR, ldI, ldR, stI, stR, divI, divL, bnd, inv, retI, retZ, retC, retR, retU, hT_sI, hT_sL, hT_sR, hR_sI, hR_sL, hN_sI, hN_sL, hN_sR, hI_sL, hI_sR, hL_sI, hL_sR, ↓reduceIte, true_and, and_true, and_self, ne_eq, not_false_eq_true, not_true_eq_false, reduceCtorEq, if_true, if_false, nI_lt0 hk, e1, e4, nI_leE (show n < 2 ^ 31 by omega) hk, show (1 : Int32) = 0 ↔ False by decide, true_or, or_true]
  by_cases q : k < n
  · rw [if_neg (by omega), if_pos q]
  · rw [if_pos (by omega), if_neg q]
theorem c_kindOf {h : Hp} {p n k : Nat} (P : PO h p n) (hk : k < n) (hv : vp_nar .char (hI h (p + 1) k) = hI h (p + 1) k) : s_X4_kindOf p (nI k) h = some (hI h (p + 1) k, h) := by
  have P' := P
  obtain ⟨e1, e2, e3, e4, e5, e6, e7⟩ := P
  have hk' : k < 2 ^ 31 := by omega
  unfold s_X4_kindOf
  simp only [getI, getL, getR, putI, putZ, putL, putR, ldI, ldR, stI, stR, divI, divL, bnd, inv, retI, retZ, retC, retR, retU, hT_sI, hT_sL, hT_sR, hR_sI, hR_sL, hN_sI, hN_sL, hN_sR, hI_sL, hI_sR, hL_sI, hL_sR, ↓reduceIte, true_and, and_true, and_self, ne_eq, not_false_eq_true, not_true_eq_false, reduceCtorEq, if_true, if_false, retC, c_hasPhase P' hk', if_pos hk, e1, e2, e5, nI_ge0 hk', nI_clamp hk', hk, hv, show ((1 : Int32) = 0) = False from eq_false (by decide), Nat.add_eq_zero_iff, Nat.succ_ne_zero, and_false]
theorem c_numberOf {h : Hp} {p n k : Nat} (P : PO h p n) (hk : k < n) : s_X4_numberOf p (nI k) h = some (hI h (p + 2) k, h) := by
  have P' := P
  obtain ⟨e1, e2, e3, e4, e5, e6, e7⟩ := P
  have hk' : k < 2 ^ 31 := by omega
  unfold s_X4_numberOf
  simp only [getI, getL, getR, putI, putZ, putL, putR, ldI, ldR, stI, stR, divI, divL, bnd, inv, retI, retZ, retC, retR, retU, hT_sI, hT_sL, hT_sR, hR_sI, hR_sL, hN_sI, hN_sL, hN_sR, hI_sL, hI_sR, hL_sI, hL_sR, ↓reduceIte, true_and, and_true, and_self, ne_eq, not_false_eq_true, not_true_eq_false, reduceCtorEq, if_true, if_false, c_hasPhase P' hk', if_pos hk, e1, e3, e6, nI_ge0 hk', nI_clamp hk', hk, show ((1 : Int32) = 0) = False from eq_false (by decide), Nat.add_eq_zero_iff, and_false, show ¬ (p + 2 = 0) by omega]
def tmpN (wt wm : Nat) : Nat := if wt = 0 then 15 else wm / (4 * wt)
theorem tmpN_lt {wt wm : Nat} (b2 : wm < 2 ^ 30) : tmpN wt wm < 2 ^ 31 := by
  unfold tmpN
  split
  · omega
  · exact Nat.lt_of_le_of_lt (Nat.div_le_self _ _) (by omega)
theorem c_temperature {h : Hp} {W wt wm : Nat} (e : hT h W = (7, 0)) (hw : hI h W 5 = nI wt) (hm : hL h W 6 = lN wm) (b1 : wt < 2 ^ 24) (b2 : wm < 2 ^ 30) : s_X7_temperature W h = some (nI (tmpN wt wm), h) := by
  unfold s_X7_temperature tmpN
  have hz : (nI wt ≤ 0) = (wt = 0) := by
    rw [show (0 : Int32) = nI 0 from rfl, nI_leE (by omega) (by omega)]
    exact propext Nat.le_zero
  simp only [getI, getL, getR, putI, putZ, putL, putR, ldI, ldR, stI, stR, divI, divL, bnd, inv, retI, retZ, retC, retR, retU, hT_sI, hT_sL, hT_sR, hR_sI, hR_sL, hN_sI, hN_sL, hN_sR, hI_sL, hI_sR, hL_sI, hL_sR, ↓reduceIte, true_and, and_true, and_self, ne_eq, not_false_eq_true, not_true_eq_false, reduceCtorEq, if_true, if_false, e, hw, hm, hz]
  by_cases q : wt = 0
  · rw [if_pos q, if_pos q]
    rfl
  · rw [if_neg q, if_neg q, nI_l (by omega), show (4 : Int64) = lN 4 from rfl, lN_mul]
    have hne : ¬ lN (4 * wt) = 0 := by
      rw [show (0 : Int64) = lN 0 from rfl, lN_eq (by omega) (by omega)]
      omega
    rw [if_neg hne, lN_div (by omega) (by omega) (by omega), lN_i]
