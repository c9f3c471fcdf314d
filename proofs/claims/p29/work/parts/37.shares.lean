/-! shares -/
def sumL (f : Nat → Int32) : Nat → Nat → Int32 → Int32
  | 0, _, x => x
  | d + 1, k, x => sumL f d (k + 1) (x + f k)
def lnd (w : Row) (x : Int32) (l : Nat) : Int32 := if w (351 + 5 * l + 0) = x then w (351 + 5 * l + 2) else 0
def bor (w : Row) (x : Int32) (l : Nat) : Int32 := if w (351 + 5 * l + 1) = x then w (351 + 5 * l + 2) else 0
def lentF (w : Row) (nl : Nat) (x : Int32) : Int32 := sumL (lnd w x) nl 0 0
def sharesF (w : Row) (nl i : Nat) : Int32 := sumL (bor w (nI i)) nl 0 (pt w i 0 - lentF w nl (nI i))
theorem c_lentL {h : Hp} {T n nl : Nat} {w : Row} (S : Sh h) (st : isSt T) (R : SR h T w n nl) (x : Int32) : ∀ (d k f : Nat) (y : Int32), k + d = nl → d < f → s_X6_lentOf_L4 f T x y (nI k) h = some (sumL (lnd w x) d k y, h)
  | 0, k, f, y, hk, hf => by
    obtain ⟨m, rfl, -⟩ := fuel_succ hf
    have h10 := R.1.2.2.2
    rw [s_X6_lentOf_L4]
    simp only [getI, S.t0 st, R.2.1.2.1, R.1.2.2.1, nI_leE (show nl < 2 ^ 31 by omega) (show k < 2 ^ 31 by omega), show nl ≤ k by omega, if_true]
    rfl
  | d + 1, k, f, y, hk, hf => by
    obtain ⟨m, rfl, hm⟩ := fuel_succ hf
    have h10 := R.1.2.2.2
    have hk10 : k < 10 := by omega
    have e0 := R.2.2.2.2.2 k (by omega) 0 (by omega)
    have e2 := R.2.2.2.2.2 k (by omega) 2 (by omega)
    rw [s_X6_lentOf_L4]
    simp only [getI, getL, getR, putI, putZ, putL, putR, ldI, ldR, stI, stR, divI, divL, bnd, inv, retI, retZ, retC, retR, retU, hT_sI, hT_sL, hT_sR, hR_sI, hR_sL, hN_sI, hN_sL, hN_sR, hI_sL, hI_sR, hL_sI, hL_sR, ↓reduceIte, true_and, and_true, and_self, ne_eq, not_false_eq_true, not_true_eq_false, reduceCtorEq, if_true, if_false, S.t0 st, S.t3 st, S.r2 st, S.rL st hk10, S.tL st hk10, R.2.1.2.1, R.1.2.2.1, nI_leE (show nl < 2 ^ 31 by omega) (show k < 2 ^ 31 by omega), show ¬ (nl ≤ k) by omega, nI_ge0 (show k < 2 ^ 31 by omega), nI_clamp (show k < 2 ^ 31 by omega), hk10, show ¬ (T + 3 = 0) by omega, show ¬ (T + 23 + k = 0) by omega, e0, e2, nI_1]
    unfold sumL
    by_cases q : w (351 + 5 * k + 0) = x
    · rw [if_pos q, show lnd w x k = w (351 + 5 * k + 2) from if_pos q]
      exact c_lentL S st R x d (k + 1) m _ (by omega) (by omega)
    · rw [if_neg q, show lnd w x k = 0 from if_neg q]
      exact c_lentL S st R x d (k + 1) m _ (by omega) (by omega)
theorem c_lentOf {h : Hp} {T n nl : Nat} {w : Row} (S : Sh h) (st : isSt T) (R : SR h T w n nl) (x : Int32) : s_X6_lentOf T x h = some (lentF w nl x, h) := by
  have h10 := R.1.2.2.2
  exact c_lentL S st R x nl 0 100000 0 (by omega) (by omega)
theorem c_sharesL6 {h : Hp} {T n nl : Nat} {w : Row} (S : Sh h) (st : isSt T) (R : SR h T w n nl) (x : Int32) : ∀ (d k f : Nat) (y : Int32), k + d = nl → d < f → s_X6_sharesOf_L8 f T x y (nI k) h = some (sumL (bor w x) d k y, h)
  | 0, k, f, y, hk, hf => by
    obtain ⟨m, rfl, -⟩ := fuel_succ hf
    have h10 := R.1.2.2.2
    rw [s_X6_sharesOf_L8]
    simp only [getI, S.t0 st, R.2.1.2.1, R.1.2.2.1, nI_leE (show nl < 2 ^ 31 by omega) (show k < 2 ^ 31 by omega), show nl ≤ k by omega, if_true]
    rfl
  | d + 1, k, f, y, hk, hf => by
    obtain ⟨m, rfl, hm⟩ := fuel_succ hf
    have h10 := R.1.2.2.2
    have hk10 : k < 10 := by omega
    have e0 := R.2.2.2.2.2 k (by omega) 1 (by omega)
    have e2 := R.2.2.2.2.2 k (by omega) 2 (by omega)
    rw [s_X6_sharesOf_L8]
    simp only [getI, getL, getR, putI, putZ, putL, putR, ldI, ldR, stI, stR, divI, divL, bnd, inv, retI, retZ, retC, retR, retU, hT_sI, hT_sL, hT_sR, hR_sI, hR_sL, hN_sI, hN_sL, hN_sR, hI_sL, hI_sR, hL_sI, hL_sR, ↓reduceIte, true_and, and_true, and_self, ne_eq, not_false_eq_true, not_true_eq_false, reduceCtorEq, if_true, if_false, S.t0 st, S.t3 st, S.r2 st, S.rL st hk10, S.tL st hk10, R.2.1.2.1, R.1.2.2.1, nI_leE (show nl < 2 ^ 31 by omega) (show k < 2 ^ 31 by omega), show ¬ (nl ≤ k) by omega, nI_ge0 (show k < 2 ^ 31 by omega), nI_clamp (show k < 2 ^ 31 by omega), hk10, show ¬ (T + 3 = 0) by omega, show ¬ (T + 23 + k = 0) by omega, e0, e2, nI_1]
    unfold sumL
    by_cases q : w (351 + 5 * k + 1) = x
    · rw [if_pos q, show bor w x k = w (351 + 5 * k + 2) from if_pos q]
      exact c_sharesL6 S st R x d (k + 1) m _ (by omega) (by omega)
    · rw [if_neg q, show bor w x k = 0 from if_neg q]
      exact c_sharesL6 S st R x d (k + 1) m _ (by omega) (by omega)
/-- a house's own cell -/
theorem c_house {h : Hp} {T i : Nat} (S : Sh h) (st : isSt T) (hi : i < 8) {α : Type} (f : Nat → Option α) : (getR h T 6 1 fun x1 => ldR h x1 22 (nI i) f) = f (T + 7 + 2 * i) := by
  simp only [getI, getL, getR, putI, putZ, putL, putR, ldI, ldR, stI, stR, divI, divL, bnd, inv, retI, retZ, retC, retR, retU, hT_sI, hT_sL, hT_sR, hR_sI, hR_sL, hN_sI, hN_sL, hN_sR, hI_sL, hI_sR, hL_sI, hL_sR, ↓reduceIte, true_and, and_true, and_self, ne_eq, not_false_eq_true, not_true_eq_false, reduceCtorEq, if_true, if_false, S.t0 st, S.r1 st, S.t2 st, S.rH st hi, nI_ge0 (show i < 2 ^ 31 by omega), nI_clamp (show i < 2 ^ 31 by omega), hi, show ¬ (T + 2 = 0) by omega, show ¬ (T + 7 + 2 * i = 0) by omega]
theorem c_unlentOf {h : Hp} {T n nl i : Nat} {w : Row} (S : Sh h) (st : isSt T) (R : SR h T w n nl) (hi : i < n) : s_X6_unlentOf T (nI i) h = some (pt w i 0 - lentF w nl (nI i), h) := by
  have h8 := R.n8
  have e := (R.hr hi).1.1
  unfold s_X6_unlentOf
  rw [c_house S st (by omega)]
  simp only [getI, getL, getR, putI, putZ, putL, putR, ldI, ldR, stI, stR, divI, divL, bnd, inv, retI, retZ, retC, retR, retU, hT_sI, hT_sL, hT_sR, hR_sI, hR_sL, hN_sI, hN_sL, hN_sR, hI_sL, hI_sR, hL_sI, hL_sR, ↓reduceIte, true_and, and_true, and_self, ne_eq, not_false_eq_true, not_true_eq_false, reduceCtorEq, if_true, if_false, S.tH st (show i < 8 by omega), S.t0 st, c_lentOf S st R, e]
  rfl
theorem c_sharesOf6 {h : Hp} {T n nl i : Nat} {w : Row} (S : Sh h) (st : isSt T) (R : SR h T w n nl) (hi : i < n) : s_X6_sharesOf T (nI i) h = some (sharesF w nl i, h) := by
  have h10 := R.1.2.2.2
  unfold s_X6_sharesOf
  simp only [inv, bnd, S.t0 st, c_unlentOf S st R hi, if_true]
  exact c_sharesL6 S st R (nI i) nl 0 100000 _ (by omega) (by omega)
/-- the same on numbers -/
def sumNN (f : Nat → Nat) : Nat → Nat → Nat
  | 0, _ => 0
  | d + 1, k => f k + sumNN f d (k + 1)
theorem sumL_nI {f : Nat → Int32} {g : Nat → Nat} : ∀ (d k x : Nat), (∀ j, k ≤ j → j < k + d → f j = nI (g j)) → sumL f d k (nI x) = nI (x + sumNN g d k)
  | 0, _, _, _ => rfl
  | d + 1, k, x, h => by
    unfold sumL sumNN
    rw [h k (Nat.le_refl k) (by omega), nI_add, sumL_nI d (k + 1) _ (fun j h1 h2 => h j (by omega) (by omega)), Nat.add_assoc]
theorem sumNN_le {f : Nat → Nat} {c : Nat} : ∀ (d k : Nat), (∀ j, k ≤ j → j < k + d → f j ≤ c) → sumNN f d k ≤ c * d
  | 0, _, _ => by unfold sumNN; omega
  | d + 1, k, h => by
    unfold sumNN
    have := sumNN_le (f := f) (c := c) d (k + 1) (fun j h1 h2 => h j (by omega) (by omega))
    have := h k (Nat.le_refl k) (by omega)
    rw [Nat.mul_add]
    omega
def lndN (w : Row) (x : Int32) (l : Nat) : Nat := if w (351 + 5 * l + 0) = x then (w (351 + 5 * l + 2)).toNatClampNeg else 0
def borN (w : Row) (x : Int32) (l : Nat) : Nat := if w (351 + 5 * l + 1) = x then (w (351 + 5 * l + 2)).toNatClampNeg else 0
def lentN (w : Row) (nl : Nat) (x : Int32) : Nat := sumNN (lndN w x) nl 0
/-- the leases of a row -/
def WL (w : Row) (n nl : Nat) : Prop := (∀ j, j < nl → ∃ s, w (351 + 5 * j + 2) = nI s ∧ s ≤ 20) ∧ ∀ i, i < n → ∃ ow, pt w i 0 = nI ow ∧ ow ≤ 20 ∧ lentN w nl (nI i) ≤ ow
theorem lentF_N {w : Row} {n nl : Nat} (q : WL w n nl) (x : Int32) : lentF w nl x = nI (lentN w nl x) := by
  have := sumL_nI (f := lnd w x) (g := lndN w x) nl 0 0 (fun j _ h2 => by
    unfold lnd lndN
    obtain ⟨s, e, hs⟩ := q.1 j (by omega)
    rw [e, nI_clamp (by omega)]
    split <;> rfl)
  rw [Nat.zero_add] at this
  exact this
def shN (w : Row) (nl i : Nat) : Nat := (pt w i 0).toNatClampNeg - lentN w nl (nI i) + sumNN (borN w (nI i)) nl 0
theorem sharesF_N {w : Row} {n nl i : Nat} (q : WL w n nl) (h10 : nl ≤ 10) (hi : i < n) : sharesF w nl i = nI (shN w nl i) ∧ shN w nl i ≤ 1000 := by
  obtain ⟨ow, e, h1, h2⟩ := q.2 i hi
  have hb : ∀ j, 0 ≤ j → j < 0 + nl → bor w (nI i) j = nI (borN w (nI i) j) ∧ borN w (nI i) j ≤ 20 := fun j _ hj => by
    unfold bor borN
    obtain ⟨s, e, hs⟩ := q.1 j (by omega)
    rw [e, nI_clamp (by omega)]
    split
    · exact ⟨rfl, hs⟩
    · exact ⟨rfl, by omega⟩
  have hle := sumNN_le (f := borN w (nI i)) (c := 20) nl 0 (fun j h1 h2 => (hb j h1 h2).2)
  unfold sharesF shN
  rw [lentF_N q, e, nI_clamp (by omega), nI_sub h2, sumL_nI nl 0 _ (fun j h1 h2 => (hb j h1 h2).1)]
  refine ⟨rfl, by omega⟩
