/-! the reference's rows: what its methods on houses do, as functions of a row -/
def sQ (h : Hp) (w a b : Row) : Hp := (fun c => if c = 242 then w else if c = 247 then a else if c = 248 then b else hI h c, hL h, hR h, hT h, hN h)
theorem sQ_self (h : Hp) : sQ h (hI h 242) (hI h 247) (hI h 248) = h := by
  unfold sQ
  have : (fun c => if c = 242 then hI h 242 else if c = 247 then hI h 247 else if c = 248 then hI h 248 else hI h c) = hI h := by
    funext c
    by_cases q1 : c = 242
    · simp [q1]
    · by_cases q2 : c = 247
      · simp [q2]
      · by_cases q3 : c = 248
        · simp [q3]
        · simp [q1, q2, q3]
  rw [this]
  rfl
theorem hI_sQ2 (h : Hp) (w a b : Row) : hI (sQ h w a b) 242 = w := rfl
theorem hI_sQ7 (h : Hp) (w a b : Row) : hI (sQ h w a b) 247 = a := rfl
theorem hI_sQ8 (h : Hp) (w a b : Row) : hI (sQ h w a b) 248 = b := rfl
theorem hI_sQn (h : Hp) (w a b : Row) (c : Nat) (h1 : c ≠ 242) (h2 : c ≠ 247) (h3 : c ≠ 248) : hI (sQ h w a b) c = hI h c := by
  show (if c = 242 then w else if c = 247 then a else if c = 248 then b else hI h c) = _
  rw [if_neg h1, if_neg h2, if_neg h3]
theorem hT_sQ (h : Hp) (w a b : Row) : hT (sQ h w a b) = hT h := rfl
theorem hR_sQ (h : Hp) (w a b : Row) : hR (sQ h w a b) = hR h := rfl
theorem hL_sQ (h : Hp) (w a b : Row) : hL (sQ h w a b) = hL h := rfl
theorem hN_sQ (h : Hp) (w a b : Row) : hN (sQ h w a b) = hN h := rfl
theorem Sh.q {h : Hp} (S : Sh h) (w a b : Row) : Sh (sQ h w a b) := S
theorem sI_sQ2 (h : Hp) (w a b : Row) (k : Nat) (v : Int32) : sI (sQ h w a b) 242 k v = sQ h (upd w k v) a b := by
  unfold sI sQ
  refine Prod.ext ?_ rfl
  funext c j
  show (if c = 242 ∧ j = k then v else (if c = 242 then w else if c = 247 then a else if c = 248 then b else hI h c) j) = (if c = 242 then upd w k v else if c = 247 then a else if c = 248 then b else hI h c) j
  by_cases q1 : c = 242
  · subst q1
    simp [upd]
  · simp [q1]
theorem sI_sQ7 (h : Hp) (w a b : Row) (k : Nat) (v : Int32) : sI (sQ h w a b) 247 k v = sQ h w (upd a k v) b := by
  unfold sI sQ
  refine Prod.ext ?_ rfl
  funext c j
  show (if c = 247 ∧ j = k then v else (if c = 242 then w else if c = 247 then a else if c = 248 then b else hI h c) j) = (if c = 242 then w else if c = 247 then upd a k v else if c = 248 then b else hI h c) j
  by_cases q1 : c = 247
  · subst q1
    simp [upd]
  · simp [q1]
theorem sI_sQ8 (h : Hp) (w a b : Row) (k : Nat) (v : Int32) : sI (sQ h w a b) 248 k v = sQ h w a (upd b k v) := by
  unfold sI sQ
  refine Prod.ext ?_ rfl
  funext c j
  show (if c = 248 ∧ j = k then v else (if c = 242 then w else if c = 247 then a else if c = 248 then b else hI h c) j) = (if c = 242 then w else if c = 247 then a else if c = 248 then upd b k v else hI h c) j
  by_cases q1 : c = 248
  · subst q1
    simp [upd]
  · simp [q1]
theorem pt_sp (w : Row) (i k j : Nat) (v : Int32) : pt (sp w i k v) i j = if j = k then v else pt w i j := by
  unfold pt sp upd
  by_cases q : j = k
  · simp [q]
  · rw [if_neg (by omega), if_neg q]
theorem Sh.m0 {h : Hp} (S : Sh h) : hT h 241 = (9, 0) := S.2.2.2.2.2.2.1.1
theorem Sh.m1 {h : Hp} (S : Sh h) : hR h 241 0 = 242 := S.2.2.2.2.2.2.1.2.1
theorem Sh.m2 {h : Hp} (S : Sh h) : hT h 242 = (20, 401) := S.2.2.2.2.2.2.2.1.1
theorem Sh.m8 {h : Hp} (S : Sh h) : hR h 241 8 = 247 := S.2.2.2.2.2.2.1.2.2.2.2.2.2.1
theorem Sh.m9 {h : Hp} (S : Sh h) : hR h 241 9 = 248 := S.2.2.2.2.2.2.1.2.2.2.2.2.2.2.1
theorem Sh.m7 {h : Hp} (S : Sh h) : hT h 247 = (20, 8) := S.2.2.2.2.2.2.2.1.2.2.2.2.2.1
theorem Sh.m48 {h : Hp} (S : Sh h) : hT h 248 = (20, 8) := S.2.2.2.2.2.2.2.1.2.2.2.2.2.2.1
theorem ix_part (i k : Nat) : (15 : Int32) + 42 * nI i + nI k = nI (15 + 42 * i + k) := by
  rw [show (15 : Int32) = nI 15 from rfl, show (42 : Int32) = nI 42 from rfl, nI_mul, nI_add, nI_add]
theorem r_part {h : Hp} (S : Sh h) (w a b : Row) {i k : Nat} (hi : i < 8) (hk : k < 42) : s_X9_part 241 (nI i) (nI k) (sQ h w a b) = some (pt w i k, sQ h w a b) := by
  unfold s_X9_part
  simp only [getI, getL, getR, putI, putZ, putL, putR, ldI, ldR, stI, stR, divI, divL, bnd, inv, retI, retZ, retC, retR, retU, hT_sI, hT_sL, hT_sR, hR_sI, hR_sL, hN_sI, hN_sL, hN_sR, hI_sL, hI_sR, hL_sI, hL_sR, ↓reduceIte, true_and, and_true, and_self, ne_eq, not_false_eq_true, not_true_eq_false, reduceCtorEq, if_true, if_false, hT_sQ, hR_sQ, S.m0, S.m1, S.m2, ix_part, nI_ge0 (show 15 + 42 * i + k < 2 ^ 31 by omega), nI_clamp (show 15 + 42 * i + k < 2 ^ 31 by omega), show 15 + 42 * i + k < 401 by omega, hI_sQ2, show ((242 : Nat) = 0) = False from eq_false (by decide), pt]
theorem r_setPart {h : Hp} (S : Sh h) (w a b : Row) {i k : Nat} (v : Int32) (hi : i < 8) (hk : k < 42) : s_X9_setPart 241 (nI i) (nI k) v (sQ h w a b) = some ((), sQ h (sp w i k v) a b) := by
  unfold s_X9_setPart
  simp only [getI, getL, getR, putI, putZ, putL, putR, ldI, ldR, stI, stR, divI, divL, bnd, inv, retI, retZ, retC, retR, retU, hT_sI, hT_sL, hT_sR, hR_sI, hR_sL, hN_sI, hN_sL, hN_sR, hI_sL, hI_sR, hL_sI, hL_sR, ↓reduceIte, true_and, and_true, and_self, ne_eq, not_false_eq_true, not_true_eq_false, reduceCtorEq, if_true, if_false, hT_sQ, hR_sQ, S.m0, S.m1, S.m2, ix_part, nI_ge0 (show 15 + 42 * i + k < 2 ^ 31 by omega), nI_clamp (show 15 + 42 * i + k < 2 ^ 31 by omega), show 15 + 42 * i + k < 401 by omega, sI_sQ2, show ((242 : Nat) = 0) = False from eq_false (by decide), sp]
theorem r_addPart {h : Hp} (S : Sh h) (w a b : Row) {i k : Nat} (v : Int32) (hi : i < 8) (hk : k < 42) : s_X9_addPart 241 (nI i) (nI k) v (sQ h w a b) = some ((), sQ h (sp w i k (pt w i k + v)) a b) := by
  unfold s_X9_addPart
  simp only [getI, getL, getR, putI, putZ, putL, putR, ldI, ldR, stI, stR, divI, divL, bnd, inv, retI, retZ, retC, retR, retU, hT_sI, hT_sL, hT_sR, hR_sI, hR_sL, hN_sI, hN_sL, hN_sR, hI_sL, hI_sR, hL_sI, hL_sR, ↓reduceIte, true_and, and_true, and_self, ne_eq, not_false_eq_true, not_true_eq_false, reduceCtorEq, if_true, if_false, hT_sQ, hR_sQ, S.m0, S.m1, S.m2, ix_part, nI_ge0 (show 15 + 42 * i + k < 2 ^ 31 by omega), nI_clamp (show 15 + 42 * i + k < 2 ^ 31 by omega), show 15 + 42 * i + k < 401 by omega, sI_sQ2, hI_sQ2, show ((242 : Nat) = 0) = False from eq_false (by decide), sp, pt]
theorem rp_0 {h : Hp} (S : Sh h) {i : Nat} (hi : i < 8) (w a b : Row) : s_X9_part 241 (nI i) 0 (sQ h w a b) = some (pt w i 0, sQ h w a b) := r_part S w a b (k := 0) hi (by decide)
theorem rs_0 {h : Hp} (S : Sh h) {i : Nat} (hi : i < 8) (w a b : Row) (v : Int32) : s_X9_setPart 241 (nI i) 0 v (sQ h w a b) = some ((), sQ h (sp w i 0 v) a b) := r_setPart S w a b (k := 0) v hi (by decide)
theorem ra_0 {h : Hp} (S : Sh h) {i : Nat} (hi : i < 8) (w a b : Row) (v : Int32) : s_X9_addPart 241 (nI i) 0 v (sQ h w a b) = some ((), sQ h (sp w i 0 (pt w i 0 + v)) a b) := r_addPart S w a b (k := 0) v hi (by decide)
theorem rp_1 {h : Hp} (S : Sh h) {i : Nat} (hi : i < 8) (w a b : Row) : s_X9_part 241 (nI i) 1 (sQ h w a b) = some (pt w i 1, sQ h w a b) := r_part S w a b (k := 1) hi (by decide)
theorem rs_1 {h : Hp} (S : Sh h) {i : Nat} (hi : i < 8) (w a b : Row) (v : Int32) : s_X9_setPart 241 (nI i) 1 v (sQ h w a b) = some ((), sQ h (sp w i 1 v) a b) := r_setPart S w a b (k := 1) v hi (by decide)
theorem ra_1 {h : Hp} (S : Sh h) {i : Nat} (hi : i < 8) (w a b : Row) (v : Int32) : s_X9_addPart 241 (nI i) 1 v (sQ h w a b) = some ((), sQ h (sp w i 1 (pt w i 1 + v)) a b) := r_addPart S w a b (k := 1) v hi (by decide)
theorem rp_2 {h : Hp} (S : Sh h) {i : Nat} (hi : i < 8) (w a b : Row) : s_X9_part 241 (nI i) 2 (sQ h w a b) = some (pt w i 2, sQ h w a b) := r_part S w a b (k := 2) hi (by decide)
theorem rs_2 {h : Hp} (S : Sh h) {i : Nat} (hi : i < 8) (w a b : Row) (v : Int32) : s_X9_setPart 241 (nI i) 2 v (sQ h w a b) = some ((), sQ h (sp w i 2 v) a b) := r_setPart S w a b (k := 2) v hi (by decide)
theorem ra_2 {h : Hp} (S : Sh h) {i : Nat} (hi : i < 8) (w a b : Row) (v : Int32) : s_X9_addPart 241 (nI i) 2 v (sQ h w a b) = some ((), sQ h (sp w i 2 (pt w i 2 + v)) a b) := r_addPart S w a b (k := 2) v hi (by decide)
theorem rp_3 {h : Hp} (S : Sh h) {i : Nat} (hi : i < 8) (w a b : Row) : s_X9_part 241 (nI i) 3 (sQ h w a b) = some (pt w i 3, sQ h w a b) := r_part S w a b (k := 3) hi (by decide)
theorem rs_3 {h : Hp} (S : Sh h) {i : Nat} (hi : i < 8) (w a b : Row) (v : Int32) : s_X9_setPart 241 (nI i) 3 v (sQ h w a b) = some ((), sQ h (sp w i 3 v) a b) := r_setPart S w a b (k := 3) v hi (by decide)
theorem ra_3 {h : Hp} (S : Sh h) {i : Nat} (hi : i < 8) (w a b : Row) (v : Int32) : s_X9_addPart 241 (nI i) 3 v (sQ h w a b) = some ((), sQ h (sp w i 3 (pt w i 3 + v)) a b) := r_addPart S w a b (k := 3) v hi (by decide)
theorem rp_4 {h : Hp} (S : Sh h) {i : Nat} (hi : i < 8) (w a b : Row) : s_X9_part 241 (nI i) 4 (sQ h w a b) = some (pt w i 4, sQ h w a b) := r_part S w a b (k := 4) hi (by decide)
theorem rs_4 {h : Hp} (S : Sh h) {i : Nat} (hi : i < 8) (w a b : Row) (v : Int32) : s_X9_setPart 241 (nI i) 4 v (sQ h w a b) = some ((), sQ h (sp w i 4 v) a b) := r_setPart S w a b (k := 4) v hi (by decide)
theorem ra_4 {h : Hp} (S : Sh h) {i : Nat} (hi : i < 8) (w a b : Row) (v : Int32) : s_X9_addPart 241 (nI i) 4 v (sQ h w a b) = some ((), sQ h (sp w i 4 (pt w i 4 + v)) a b) := r_addPart S w a b (k := 4) v hi (by decide)
theorem rp_5 {h : Hp} (S : Sh h) {i : Nat} (hi : i < 8) (w a b : Row) : s_X9_part 241 (nI i) 5 (sQ h w a b) = some (pt w i 5, sQ h w a b) := r_part S w a b (k := 5) hi (by decide)
theorem rs_5 {h : Hp} (S : Sh h) {i : Nat} (hi : i < 8) (w a b : Row) (v : Int32) : s_X9_setPart 241 (nI i) 5 v (sQ h w a b) = some ((), sQ h (sp w i 5 v) a b) := r_setPart S w a b (k := 5) v hi (by decide)
theorem ra_5 {h : Hp} (S : Sh h) {i : Nat} (hi : i < 8) (w a b : Row) (v : Int32) : s_X9_addPart 241 (nI i) 5 v (sQ h w a b) = some ((), sQ h (sp w i 5 (pt w i 5 + v)) a b) := r_addPart S w a b (k := 5) v hi (by decide)
theorem rp_6 {h : Hp} (S : Sh h) {i : Nat} (hi : i < 8) (w a b : Row) : s_X9_part 241 (nI i) 6 (sQ h w a b) = some (pt w i 6, sQ h w a b) := r_part S w a b (k := 6) hi (by decide)
theorem rs_6 {h : Hp} (S : Sh h) {i : Nat} (hi : i < 8) (w a b : Row) (v : Int32) : s_X9_setPart 241 (nI i) 6 v (sQ h w a b) = some ((), sQ h (sp w i 6 v) a b) := r_setPart S w a b (k := 6) v hi (by decide)
theorem ra_6 {h : Hp} (S : Sh h) {i : Nat} (hi : i < 8) (w a b : Row) (v : Int32) : s_X9_addPart 241 (nI i) 6 v (sQ h w a b) = some ((), sQ h (sp w i 6 (pt w i 6 + v)) a b) := r_addPart S w a b (k := 6) v hi (by decide)
theorem rp_7 {h : Hp} (S : Sh h) {i : Nat} (hi : i < 8) (w a b : Row) : s_X9_part 241 (nI i) 7 (sQ h w a b) = some (pt w i 7, sQ h w a b) := r_part S w a b (k := 7) hi (by decide)
theorem rs_7 {h : Hp} (S : Sh h) {i : Nat} (hi : i < 8) (w a b : Row) (v : Int32) : s_X9_setPart 241 (nI i) 7 v (sQ h w a b) = some ((), sQ h (sp w i 7 v) a b) := r_setPart S w a b (k := 7) v hi (by decide)
theorem ra_7 {h : Hp} (S : Sh h) {i : Nat} (hi : i < 8) (w a b : Row) (v : Int32) : s_X9_addPart 241 (nI i) 7 v (sQ h w a b) = some ((), sQ h (sp w i 7 (pt w i 7 + v)) a b) := r_addPart S w a b (k := 7) v hi (by decide)
theorem rp_8 {h : Hp} (S : Sh h) {i : Nat} (hi : i < 8) (w a b : Row) : s_X9_part 241 (nI i) 8 (sQ h w a b) = some (pt w i 8, sQ h w a b) := r_part S w a b (k := 8) hi (by decide)
theorem rs_8 {h : Hp} (S : Sh h) {i : Nat} (hi : i < 8) (w a b : Row) (v : Int32) : s_X9_setPart 241 (nI i) 8 v (sQ h w a b) = some ((), sQ h (sp w i 8 v) a b) := r_setPart S w a b (k := 8) v hi (by decide)
theorem ra_8 {h : Hp} (S : Sh h) {i : Nat} (hi : i < 8) (w a b : Row) (v : Int32) : s_X9_addPart 241 (nI i) 8 v (sQ h w a b) = some ((), sQ h (sp w i 8 (pt w i 8 + v)) a b) := r_addPart S w a b (k := 8) v hi (by decide)
theorem rp_9 {h : Hp} (S : Sh h) {i : Nat} (hi : i < 8) (w a b : Row) : s_X9_part 241 (nI i) 9 (sQ h w a b) = some (pt w i 9, sQ h w a b) := r_part S w a b (k := 9) hi (by decide)
theorem rs_9 {h : Hp} (S : Sh h) {i : Nat} (hi : i < 8) (w a b : Row) (v : Int32) : s_X9_setPart 241 (nI i) 9 v (sQ h w a b) = some ((), sQ h (sp w i 9 v) a b) := r_setPart S w a b (k := 9) v hi (by decide)
theorem ra_9 {h : Hp} (S : Sh h) {i : Nat} (hi : i < 8) (w a b : Row) (v : Int32) : s_X9_addPart 241 (nI i) 9 v (sQ h w a b) = some ((), sQ h (sp w i 9 (pt w i 9 + v)) a b) := r_addPart S w a b (k := 9) v hi (by decide)
theorem rp_10 {h : Hp} (S : Sh h) {i : Nat} (hi : i < 8) (w a b : Row) : s_X9_part 241 (nI i) 10 (sQ h w a b) = some (pt w i 10, sQ h w a b) := r_part S w a b (k := 10) hi (by decide)
theorem rs_10 {h : Hp} (S : Sh h) {i : Nat} (hi : i < 8) (w a b : Row) (v : Int32) : s_X9_setPart 241 (nI i) 10 v (sQ h w a b) = some ((), sQ h (sp w i 10 v) a b) := r_setPart S w a b (k := 10) v hi (by decide)
theorem ra_10 {h : Hp} (S : Sh h) {i : Nat} (hi : i < 8) (w a b : Row) (v : Int32) : s_X9_addPart 241 (nI i) 10 v (sQ h w a b) = some ((), sQ h (sp w i 10 (pt w i 10 + v)) a b) := r_addPart S w a b (k := 10) v hi (by decide)
theorem rp_11 {h : Hp} (S : Sh h) {i : Nat} (hi : i < 8) (w a b : Row) : s_X9_part 241 (nI i) 11 (sQ h w a b) = some (pt w i 11, sQ h w a b) := r_part S w a b (k := 11) hi (by decide)
theorem rs_11 {h : Hp} (S : Sh h) {i : Nat} (hi : i < 8) (w a b : Row) (v : Int32) : s_X9_setPart 241 (nI i) 11 v (sQ h w a b) = some ((), sQ h (sp w i 11 v) a b) := r_setPart S w a b (k := 11) v hi (by decide)
theorem ra_11 {h : Hp} (S : Sh h) {i : Nat} (hi : i < 8) (w a b : Row) (v : Int32) : s_X9_addPart 241 (nI i) 11 v (sQ h w a b) = some ((), sQ h (sp w i 11 (pt w i 11 + v)) a b) := r_addPart S w a b (k := 11) v hi (by decide)
theorem rp_12 {h : Hp} (S : Sh h) {i : Nat} (hi : i < 8) (w a b : Row) : s_X9_part 241 (nI i) 12 (sQ h w a b) = some (pt w i 12, sQ h w a b) := r_part S w a b (k := 12) hi (by decide)
theorem rs_12 {h : Hp} (S : Sh h) {i : Nat} (hi : i < 8) (w a b : Row) (v : Int32) : s_X9_setPart 241 (nI i) 12 v (sQ h w a b) = some ((), sQ h (sp w i 12 v) a b) := r_setPart S w a b (k := 12) v hi (by decide)
theorem ra_12 {h : Hp} (S : Sh h) {i : Nat} (hi : i < 8) (w a b : Row) (v : Int32) : s_X9_addPart 241 (nI i) 12 v (sQ h w a b) = some ((), sQ h (sp w i 12 (pt w i 12 + v)) a b) := r_addPart S w a b (k := 12) v hi (by decide)
theorem rp_13 {h : Hp} (S : Sh h) {i : Nat} (hi : i < 8) (w a b : Row) : s_X9_part 241 (nI i) 13 (sQ h w a b) = some (pt w i 13, sQ h w a b) := r_part S w a b (k := 13) hi (by decide)
theorem rs_13 {h : Hp} (S : Sh h) {i : Nat} (hi : i < 8) (w a b : Row) (v : Int32) : s_X9_setPart 241 (nI i) 13 v (sQ h w a b) = some ((), sQ h (sp w i 13 v) a b) := r_setPart S w a b (k := 13) v hi (by decide)
theorem ra_13 {h : Hp} (S : Sh h) {i : Nat} (hi : i < 8) (w a b : Row) (v : Int32) : s_X9_addPart 241 (nI i) 13 v (sQ h w a b) = some ((), sQ h (sp w i 13 (pt w i 13 + v)) a b) := r_addPart S w a b (k := 13) v hi (by decide)
theorem rp_14 {h : Hp} (S : Sh h) {i : Nat} (hi : i < 8) (w a b : Row) : s_X9_part 241 (nI i) 14 (sQ h w a b) = some (pt w i 14, sQ h w a b) := r_part S w a b (k := 14) hi (by decide)
theorem rs_14 {h : Hp} (S : Sh h) {i : Nat} (hi : i < 8) (w a b : Row) (v : Int32) : s_X9_setPart 241 (nI i) 14 v (sQ h w a b) = some ((), sQ h (sp w i 14 v) a b) := r_setPart S w a b (k := 14) v hi (by decide)
theorem ra_14 {h : Hp} (S : Sh h) {i : Nat} (hi : i < 8) (w a b : Row) (v : Int32) : s_X9_addPart 241 (nI i) 14 v (sQ h w a b) = some ((), sQ h (sp w i 14 (pt w i 14 + v)) a b) := r_addPart S w a b (k := 14) v hi (by decide)
theorem rp_15 {h : Hp} (S : Sh h) {i : Nat} (hi : i < 8) (w a b : Row) : s_X9_part 241 (nI i) 15 (sQ h w a b) = some (pt w i 15, sQ h w a b) := r_part S w a b (k := 15) hi (by decide)
theorem rs_15 {h : Hp} (S : Sh h) {i : Nat} (hi : i < 8) (w a b : Row) (v : Int32) : s_X9_setPart 241 (nI i) 15 v (sQ h w a b) = some ((), sQ h (sp w i 15 v) a b) := r_setPart S w a b (k := 15) v hi (by decide)
theorem ra_15 {h : Hp} (S : Sh h) {i : Nat} (hi : i < 8) (w a b : Row) (v : Int32) : s_X9_addPart 241 (nI i) 15 v (sQ h w a b) = some ((), sQ h (sp w i 15 (pt w i 15 + v)) a b) := r_addPart S w a b (k := 15) v hi (by decide)
theorem rp_16 {h : Hp} (S : Sh h) {i : Nat} (hi : i < 8) (w a b : Row) : s_X9_part 241 (nI i) 16 (sQ h w a b) = some (pt w i 16, sQ h w a b) := r_part S w a b (k := 16) hi (by decide)
theorem rs_16 {h : Hp} (S : Sh h) {i : Nat} (hi : i < 8) (w a b : Row) (v : Int32) : s_X9_setPart 241 (nI i) 16 v (sQ h w a b) = some ((), sQ h (sp w i 16 v) a b) := r_setPart S w a b (k := 16) v hi (by decide)
theorem ra_16 {h : Hp} (S : Sh h) {i : Nat} (hi : i < 8) (w a b : Row) (v : Int32) : s_X9_addPart 241 (nI i) 16 v (sQ h w a b) = some ((), sQ h (sp w i 16 (pt w i 16 + v)) a b) := r_addPart S w a b (k := 16) v hi (by decide)
theorem rp_17 {h : Hp} (S : Sh h) {i : Nat} (hi : i < 8) (w a b : Row) : s_X9_part 241 (nI i) 17 (sQ h w a b) = some (pt w i 17, sQ h w a b) := r_part S w a b (k := 17) hi (by decide)
theorem rs_17 {h : Hp} (S : Sh h) {i : Nat} (hi : i < 8) (w a b : Row) (v : Int32) : s_X9_setPart 241 (nI i) 17 v (sQ h w a b) = some ((), sQ h (sp w i 17 v) a b) := r_setPart S w a b (k := 17) v hi (by decide)
theorem ra_17 {h : Hp} (S : Sh h) {i : Nat} (hi : i < 8) (w a b : Row) (v : Int32) : s_X9_addPart 241 (nI i) 17 v (sQ h w a b) = some ((), sQ h (sp w i 17 (pt w i 17 + v)) a b) := r_addPart S w a b (k := 17) v hi (by decide)
def phN (w : Row) (i : Nat) : Nat := min (pt w i 10).toNatClampNeg 11
def wtN (w : Row) (i : Nat) : Nat := (pt w i 11).toNatClampNeg
def wmN (w : Row) (i : Nat) : Nat := (pt w i 12).toNatClampNeg
def fillsF (w : Row) (i : Nat) (m : Int32) : Row :=
  let l := if 6 ≤ m - pt w i 16 then 6 else m - pt w i 16
  sp (sp (sp (sp w i 16 (pt w i 16 + l)) i 17 (pt w i 17 + l)) i 11 (pt w i 11 + l)) i 12 (pt w i 12 + 60 * l)
def drainsF (w : Row) (i : Nat) : Row := sp (sp w i 11 (nI (wtN w i - 12))) i 12 (nI (wmN w i * (wtN w i - 12) / wtN w i))
def chgF (w : Row) (i : Nat) (k m g : Int32) : Row := if k = 102 then fillsF w i m else if k = 100 then drainsF w i else if k = 104 then sp w i 12 (pt w i 12 + g) else w
def overF (w : Row) (i : Nat) (k m : Int32) : Int32 := if k = 100 then (if pt w i 11 = 0 then 1 else 0) else if k = 102 then (if pt w i 16 = m then 1 else 0) else if k = 104 then (if nI (tmpN (wtN w i) (wmN w i)) < m then 0 else 1) else (if pt w i 14 < m then 0 else 1)
def endF (w : Row) (i : Nat) : Row := if pt w i 15 ≤ pt w i 10 + 1 then upd (sp (sp w i 9 0) i 4 (pt w i 4 + 1)) 12 (w 12 + 1) else sp (sp (sp w i 10 (pt w i 10 + 1)) i 14 0) i 16 0
def incF (w : Row) (i : Nat) : Row := sp w i 14 (pt w i 14 + 1)
def goF (w : Row) (i : Nat) (k m g : Int32) : Row := if overF (incF (chgF w i k m g) i) i k m = 0 then incF (chgF w i k m g) i else endF (incF (chgF w i k m g) i) i
def worksF (w : Row) (i : Nat) (g : Int32) : Row :=
  if (pt w i (18 + phN w i) = 104 ∧ pt w i 11 = 0) ∨ (pt w i (18 + phN w i) = 115 ∧ pt w i 11 ≠ 0) then sp w i 9 2
  else goF w i (pt w i (18 + phN w i)) (pt w i (30 + phN w i)) g
theorem r_runs {h : Hp} (S : Sh h) {i : Nat} (hi : i < 8) (w a b : Row) : s_X9_runs 241 (nI i) (sQ h w a b) = some (if pt w i 9 = 1 then 1 else 0, sQ h w a b) := by
  unfold s_X9_runs
  simp only [getI, getL, getR, putI, putZ, putL, putR, ldI, ldR, stI, stR, divI, divL, bnd, inv, retI, retZ, retC, retR, retU, hT_sI, hT_sL, hT_sR, hR_sI, hR_sL, hN_sI, hN_sL, hN_sR, hI_sL, hI_sR, hL_sI, hL_sR, ↓reduceIte, true_and, and_true, and_self, ne_eq, not_false_eq_true, not_true_eq_false, reduceCtorEq, if_true, if_false, hT_sQ, S.m0, rp_9 S hi]
  by_cases q : pt w i 9 = 1 <;> simp [q]
theorem r_kindOf {h : Hp} (S : Sh h) {i ph : Nat} (hi : i < 8) {w : Row} (hp : pt w i 10 = nI ph) (h12 : ph < 12) (a b : Row) : s_X9_kindOf 241 (nI i) (sQ h w a b) = some (pt w i (18 + ph), sQ h w a b) := by
  unfold s_X9_kindOf
  simp only [getI, getL, getR, putI, putZ, putL, putR, ldI, ldR, stI, stR, divI, divL, bnd, inv, retI, retZ, retC, retR, retU, hT_sI, hT_sL, hT_sR, hR_sI, hR_sL, hN_sI, hN_sL, hN_sR, hI_sL, hI_sR, hL_sI, hL_sR, ↓reduceIte, true_and, and_true, and_self, ne_eq, not_false_eq_true, not_true_eq_false, reduceCtorEq, if_true, if_false, hT_sQ, S.m0, rp_10 S hi, hp, show (18 : Int32) + nI ph = nI (18 + ph) from nI_add 18 ph, r_part S w a b (k := 18 + ph) hi (by omega)]
theorem r_numberOf {h : Hp} (S : Sh h) {i ph : Nat} (hi : i < 8) {w : Row} (hp : pt w i 10 = nI ph) (h12 : ph < 12) (a b : Row) : s_X9_numberOf 241 (nI i) (sQ h w a b) = some (pt w i (30 + ph), sQ h w a b) := by
  unfold s_X9_numberOf
  simp only [getI, getL, getR, putI, putZ, putL, putR, ldI, ldR, stI, stR, divI, divL, bnd, inv, retI, retZ, retC, retR, retU, hT_sI, hT_sL, hT_sR, hR_sI, hR_sL, hN_sI, hN_sL, hN_sR, hI_sL, hI_sR, hL_sI, hL_sR, ↓reduceIte, true_and, and_true, and_self, ne_eq, not_false_eq_true, not_true_eq_false, reduceCtorEq, if_true, if_false, hT_sQ, S.m0, rp_10 S hi, hp, show (30 : Int32) + nI ph = nI (30 + ph) from nI_add 30 ph, r_part S w a b (k := 30 + ph) hi (by omega)]
theorem r_temperature {h : Hp} (S : Sh h) {i wt wm : Nat} (hi : i < 8) {w : Row} (hw : pt w i 11 = nI wt) (hm : pt w i 12 = nI wm) (b1 : wt < 2 ^ 24) (b2 : wm < 2 ^ 30) (a b : Row) : s_X9_temperature 241 (nI i) (sQ h w a b) = some (nI (tmpN wt wm), sQ h w a b) := by
  unfold s_X9_temperature tmpN
  have hz2 : (nI wt = 0) = (wt = 0) := propext (nI_0' wt (by omega))
  simp only [getI, getL, getR, putI, putZ, putL, putR, ldI, ldR, stI, stR, divI, divL, bnd, inv, retI, retZ, retC, retR, retU, hT_sI, hT_sL, hT_sR, hR_sI, hR_sL, hN_sI, hN_sL, hN_sR, hI_sL, hI_sR, hL_sI, hL_sR, ↓reduceIte, true_and, and_true, and_self, ne_eq, not_false_eq_true, not_true_eq_false, reduceCtorEq, if_true, if_false, hT_sQ, S.m0, rp_11 S hi, rp_12 S hi, hw, hm, hz2]
  by_cases q : wt = 0
  · rw [if_pos q, if_pos q]
    rfl
  · have hne : ¬ (4 * nI wt = 0) := by
      rw [show (4 : Int32) = nI 4 from rfl, nI_mul, nI_0' _ (by omega)]
      omega
    rw [if_neg q, if_neg q, if_neg hne, show (4 : Int32) = nI 4 from rfl, nI_mul, nI_div (by omega) (by omega) (by omega)]
def clampW (x : Int32) : Int32 := if 0 ≤ x then (if x ≤ 250 then x else 250) else 0
def wantF (w : Row) (i : Nat) : Int32 := if pt w i 9 = 1 ∧ pt w i (18 + phN w i) = 104 then clampW (4 * pt w i 11 * pt w i (30 + phN w i) - pt w i 12) else 0
theorem r_beginPhase {h : Hp} (S : Sh h) {i : Nat} (hi : i < 8) (w a b : Row) (v : Int32) : s_X9_beginPhase 241 (nI i) v (sQ h w a b) = some ((), sQ h (sp (sp (sp w i 10 v) i 14 0) i 16 0) a b) := by
  unfold s_X9_beginPhase
  simp only [getI, getL, getR, putI, putZ, putL, putR, ldI, ldR, stI, stR, divI, divL, bnd, inv, retI, retZ, retC, retR, retU, hT_sI, hT_sL, hT_sR, hR_sI, hR_sL, hN_sI, hN_sL, hN_sR, hI_sL, hI_sR, hL_sI, hL_sR, ↓reduceIte, true_and, and_true, and_self, ne_eq, not_false_eq_true, not_true_eq_false, reduceCtorEq, if_true, if_false, hT_sQ, S.m0, rs_10 S hi, rs_14 S hi, rs_16 S hi]
theorem r_fills {h : Hp} (S : Sh h) {i ph : Nat} (hi : i < 8) {w : Row} (hp : pt w i 10 = nI ph) (h12 : ph < 12) (a b : Row) : s_X9_fills 241 (nI i) (sQ h w a b) = some ((), sQ h (fillsF w i (pt w i (30 + ph))) a b) := by
  unfold s_X9_fills s_X9_fills_J26 fillsF
  simp only [getI, getL, getR, putI, putZ, putL, putR, ldI, ldR, stI, stR, divI, divL, bnd, inv, retI, retZ, retC, retR, retU, hT_sI, hT_sL, hT_sR, hR_sI, hR_sL, hN_sI, hN_sL, hN_sR, hI_sL, hI_sR, hL_sI, hL_sR, ↓reduceIte, true_and, and_true, and_self, ne_eq, not_false_eq_true, not_true_eq_false, reduceCtorEq, if_true, if_false, hT_sQ, S.m0, r_numberOf S hi hp h12, rp_16 S hi, ra_16 S hi, ra_17 S hi, ra_11 S hi, ra_12 S hi, pt_sp]
  by_cases q : 6 ≤ pt w i (30 + ph) - pt w i 16
  · simp [q]
  · simp [q]
theorem r_drains {h : Hp} (S : Sh h) {i wt wm : Nat} (hi : i < 8) {w : Row} (hw : pt w i 11 = nI wt) (hm : pt w i 12 = nI wm) (b1 : wt < 2 ^ 24) (b2 : wm < 2 ^ 30) (hz : wt = 0 → wm = 0) (a b : Row) : s_X9_drains 241 (nI i) (sQ h w a b) = some ((), sQ h (drainsF w i) a b) := by
  have e1 : wtN w i = wt := by unfold wtN; rw [hw, nI_clamp (by omega)]
  have e2 : wmN w i = wm := by unfold wmN; rw [hm, nI_clamp (by omega)]
  unfold s_X9_drains s_X9_drains_J22 drainsF
  have hz2 : (nI wt = 0) = (wt = 0) := propext (nI_0' wt (by omega))
  have hge : (12 ≤ nI wt) = (12 ≤ wt) := by rw [show (12 : Int32) = nI 12 from rfl, nI_leE (by omega) (by omega)]
  have key : ∀ x : Int32, x = nI (wt - 12) → (if wt = 0 then inv (sQ h (sp w i 11 x) a b) 241 9 (s_X9_setPart 241 (nI i) 12 0 (sQ h (sp w i 11 x) a b)) fun _ h => retU h else
      inv (sQ h (sp w i 11 x) a b) 241 9 (s_X9_part 241 (nI i) 12 (sQ h (sp w i 11 x) a b)) fun x2 h0 => divL (x2.toInt64 * x.toInt64) (nI wt).toInt64 fun x3 => inv h0 241 9 (s_X9_setPart 241 (nI i) 12 x3.toInt32 h0) fun _ h => retU h) = some ((), sQ h (sp (sp w i 11 (nI (wt - 12))) i 12 (nI (wm * (wt - 12) / wt))) a b) := by
    intro x hx
    subst hx
    by_cases q : wt = 0
    · rw [if_pos q]
      simp only [getI, getL, getR, putI, putZ, putL, putR, ldI, ldR, stI, stR, divI, divL, bnd, inv, retI, retZ, retC, retR, retU, hT_sI, hT_sL, hT_sR, hR_sI, hR_sL, hN_sI, hN_sL, hN_sR, hI_sL, hI_sR, hL_sI, hL_sR, ↓reduceIte, true_and, and_true, and_self, ne_eq, not_false_eq_true, not_true_eq_false, reduceCtorEq, if_true, if_false, hT_sQ, S.m0, rs_12 S hi]
      rw [hz q, Nat.zero_mul, Nat.zero_div]
      rfl
    · have hne : ¬ lN wt = 0 := by
        rw [show (0 : Int64) = lN 0 from rfl, lN_eq (by omega) (by omega)]
        omega
      have hb : wm * (wt - 12) < 2 ^ 63 := by
        have : wm * (wt - 12) ≤ 2 ^ 30 * 2 ^ 24 := Nat.mul_le_mul (by omega) (by omega)
        omega
      rw [if_neg q]
      simp only [getI, getL, getR, putI, putZ, putL, putR, ldI, ldR, stI, stR, divI, divL, bnd, inv, retI, retZ, retC, retR, retU, hT_sI, hT_sL, hT_sR, hR_sI, hR_sL, hN_sI, hN_sL, hN_sR, hI_sL, hI_sR, hL_sI, hL_sR, ↓reduceIte, true_and, and_true, and_self, ne_eq, not_false_eq_true, not_true_eq_false, reduceCtorEq, if_true, if_false, hT_sQ, S.m0, rs_12 S hi, rp_12 S hi, pt_sp, hm, show ((12 : Nat) = 11) = False from eq_false (by decide), nI_l (show wm < 2 ^ 31 by omega), nI_l (show wt < 2 ^ 31 by omega), nI_l (show wt - 12 < 2 ^ 31 by omega), lN_mul, hne, lN_div hb (show wt < 2 ^ 63 by omega) q, lN_i]
  rw [e1, e2]
  simp only [hT_sQ, S.m0, rp_11 S hi, rs_11 S hi, hw, hz2, hge, inv, bnd, if_true] at key ⊢
  by_cases q : 12 ≤ wt
  · rw [if_pos q]
    exact key _ (by rw [show (12 : Int32) = nI 12 from rfl, nI_sub q])
  · rw [if_neg q]
    exact key _ (by rw [show wt - 12 = 0 by omega]; rfl)
