/-! the law's comparison -/
theorem Sh.i8 {h : Hp} (S : Sh h) {α β : Type} (x : Rv α) (f : α → Hp → Rv β) : inv h 1 8 x f = bnd x f := by
  simp only [inv, S.2.2.1.1, if_true]
theorem l_same1 {h : Hp} {q o p l g w : Row} {nl t i n : Nat} {v5 : Int32} {k334 : Nat → Nat → Nat → Int32 → Hp → Rv Int32} (C : CST (sV h q o p l g) (w, 3, nl)) (W : WF w 3 nl t) (ht : t ≤ 400) (R : LRel q o p l w nl) (hi : i < 3) :
    s_X10_same_L6 k334 (n + 1) 1 241 242 243 244 v5 (nI i) (sV h q o p l g) = s_X10_same_L6 k334 n 1 241 242 243 244 (v5 + nI (wanN w i)) (nI (i + 1)) (sV h q o p l g) := by
  have S := C.sh
  have T : LT5 h := S.lt5
  obtain ⟨hq, hA, hl, hn⟩ := R
  obtain ⟨⟨c0, c1, c2, c3, c4, c5, c6⟩, ⟨a5, a7, a8, a9, a11, a13, a6, a12⟩, P, G⟩ := id (hA i hi)
  have WHi := W.2.2.2.2.1 i hi
  obtain ⟨wt, wm, HWq⟩ := WHi.hw (by omega)
  obtain ⟨n1, n2⟩ := HWq.n
  obtain ⟨w11, w12, b1, b2⟩ := HWq
  have ew := l_want T q o p l g hi WHi (by omega) (hA i hi).2.1 P
  have es := l_shares T (q := q) (g := g) (p := p) hi hn (hq.2.2.2.2.2.2.2.1.trans W.1.2.2.2) hl c0
  have et := l_tmp T q o p l g hi (a7.trans w11) (a8.trans w12) b1 b2
  have hi' : i < (w, 3, nl).2.1 := hi
  have h0 := q_house0 C W hi'
  have h2 : s_X8_house 1 (nI i) 2 (sV h q o p l g) = some (pt w i 1, sV h q o p l g) := q_house C W hi' (k := 1) (by omega)
  have h3 : s_X8_house 1 (nI i) 3 (sV h q o p l g) = some (pt w i 2, sV h q o p l g) := q_house C W hi' (k := 2) (by omega)
  have h4 : s_X8_house 1 (nI i) 4 (sV h q o p l g) = some (pt w i 3, sV h q o p l g) := q_house C W hi' (k := 3) (by omega)
  have h5 : s_X8_house 1 (nI i) 5 (sV h q o p l g) = some (pt w i 4, sV h q o p l g) := q_house C W hi' (k := 4) (by omega)
  have h8 : s_X8_house 1 (nI i) 8 (sV h q o p l g) = some (pt w i 7, sV h q o p l g) := q_house C W hi' (k := 7) (by omega)
  have h9 : s_X8_house 1 (nI i) 9 (sV h q o p l g) = some (pt w i 8, sV h q o p l g) := q_house C W hi' (k := 8) (by omega)
  have ht' : t ≤ 38000 := by omega
  have s0 : s_X8_washer 1 (nI i) 0 (sV h q o p l g) = some (pt w i 9, sV h q o p l g) := q_washer ht' C W hi' (k := 0) (by omega) (by omega)
  have s1 : s_X8_washer 1 (nI i) 1 (sV h q o p l g) = some (if pt w i 9 = 0 then -5 else pt w i 10, sV h q o p l g) := q_washer ht' C W hi' (k := 1) (by omega) (by omega)
  have s2 : s_X8_washer 1 (nI i) 2 (sV h q o p l g) = some (pt w i 11, sV h q o p l g) := q_washer ht' C W hi' (k := 2) (by omega) (by omega)
  have s3 : s_X8_washer 1 (nI i) 3 (sV h q o p l g) = some (nI (tmpN (wtN w i) (wmN w i)), sV h q o p l g) := q_washer ht' C W hi' (k := 3) (by omega) (by omega)
  have s4 : s_X8_washer 1 (nI i) 4 (sV h q o p l g) = some (pt w i 12, sV h q o p l g) := q_washer ht' C W hi' (k := 4) (by omega) (by omega)
  have s5 : s_X8_washer 1 (nI i) 5 (sV h q o p l g) = some (pt w i 13, sV h q o p l g) := q_washer ht' C W hi' (k := 5) (by omega) (by omega)
  have s6 : s_X8_washer 1 (nI i) 6 (sV h q o p l g) = some (if pt w i 9 = 0 then -5 else pt w i 14, sV h q o p l g) := q_washer ht' C W hi' (k := 6) (by omega) (by omega)
  have s8 : s_X8_washer 1 (nI i) 8 (sV h q o p l g) = some (pt w i 17, sV h q o p l g) := q_washer ht' C W hi' (k := 8) (by omega) (by omega)
  have z0 : ¬ ((1 : Int32) = 0) := by decide
  rw [s_X10_same_L6, if_neg (by rw [show (3 : Int32) = nI 3 from rfl, nI_leE (by omega) (by omega)]; omega)]
  simp only [S.i8, ew, bnd, h0, es, if_true, h2, h3, h4, h5, h8, h9, vo_1 T _ _ _ _ _ hi, vo_2 T _ _ _ _ _ hi, vo_3 T _ _ _ _ _ hi, vo_4 T _ _ _ _ _ hi, vo_14 T _ _ _ _ _ hi, vo_15 T _ _ _ _ _ hi, vo_5 T _ _ _ _ _ hi, c1, c2, c3, c4, c5, c6, a5]
  unfold s_X10_same_J166 s_X10_same_J208 s_X10_same_J305
  simp only [S.i8, bnd, s0, s1, s2, s3, s4, s5, s6, s8, vo_5 T _ _ _ _ _ hi, vo_6 T _ _ _ _ _ hi, vo_7 T _ _ _ _ _ hi, vo_8 T _ _ _ _ _ hi, vo_9 T _ _ _ _ _ hi, vo_10 T _ _ _ _ _ hi, vo_13 T _ _ _ _ _ hi, a5, a7, a8, a9, a13, et, n1, n2, if_true, z0, if_false, nI_1]
  by_cases y : pt w i 9 = 0
  · simp only [y, if_true]
  · simp only [y, if_false, (a6 y).1, (a6 y).2, if_true]
theorem l_sameL {h : Hp} {q o p l g w : Row} {nl t j : Nat} {v5 : Int32} (C : CST (sV h q o p l g) (w, 3, nl)) (W : WF w 3 nl t) (R : LRel q o p l w nl) (hj : j < nl) {k384 : Nat → Nat → Nat → Int32 → Int32 → Hp → Rv Int32} : ∀ (d k f : Nat), k + d = 5 → d < f → s_X10_same_L349 k384 f 1 241 244 v5 (nI j) (nI k) (sV h q o p l g) = k384 1 241 244 v5 (nI j) (sV h q o p l g)
  | 0, k, f, hk, hf => by
    obtain ⟨m, rfl, -⟩ := fuel_succ hf
    rw [s_X10_same_L349, if_pos (by rw [show (5 : Int32) = nI 5 from rfl, nI_leE (by omega) (by omega)]; omega)]
  | d + 1, k, f, hk, hf => by
    obtain ⟨m, rfl, hm⟩ := fuel_succ hf
    have S := C.sh
    have T : LT5 h := S.lt5
    have e1 := q_lease C W (show j < (w, 3, nl).2.2 from hj) (k := k) (by omega)
    have n4 := R.2.2.2
    rw [s_X10_same_L349, show (5 : Int32) = nI 5 from rfl, if_neg (by rw [nI_leE (by omega) (by omega)]; omega)]
    simp only [show nI 5 = (5 : Int32) from rfl, S.i8, e1, bnd, vl_c T _ _ _ _ _ (show j < 4 by omega) (show k < 5 by omega), R.2.2.1 j hj k (by omega), if_true, nI_1]
    exact l_sameL C W R hj d (k + 1) m (by omega) (by omega)
theorem l_sameLL {h : Hp} {q o p l g w : Row} {nl t : Nat} {v5 : Int32} (C : CST (sV h q o p l g) (w, 3, nl)) (W : WF w 3 nl t) (R : LRel q o p l w nl) {k390 : Nat → Nat → Int32 → Hp → Rv Int32} : ∀ (d j f : Nat), j + d = nl → d < f → s_X10_same_L337 k390 f 1 241 244 v5 (nI j) (sV h q o p l g) = k390 1 241 v5 (sV h q o p l g)
  | 0, j, f, hj, hf => by
    obtain ⟨m, rfl, -⟩ := fuel_succ hf
    have S := C.sh
    have T : LT5 h := S.lt5
    have n4 := R.2.2.2
    have q7 : q 7 = nI nl := R.1.2.2.2.2.2.2.2.1.trans W.1.2.2.2
    rw [s_X10_same_L337]
    simp only [vq_7 T, q7]
    rw [if_pos (by rw [nI_leE (by omega) (by omega)]; omega)]
  | d + 1, j, f, hj, hf => by
    obtain ⟨m, rfl, hm⟩ := fuel_succ hf
    have S := C.sh
    have T : LT5 h := S.lt5
    have n4 := R.2.2.2
    have q7 : q 7 = nI nl := R.1.2.2.2.2.2.2.2.1.trans W.1.2.2.2
    rw [s_X10_same_L337]
    simp only [vq_7 T, q7]
    rw [if_neg (by rw [nI_leE (by omega) (by omega)]; omega), show (0 : Int32) = nI 0 from rfl, l_sameL C W R (show j < nl by omega) 5 0 100000 (by omega) (by omega)]
    rw [nI_1]
    exact l_sameLL C W R d (j + 1) m (by omega) (by omega)
theorem l_same {h : Hp} {q o p l g w : Row} {nl t : Nat} (C : CST (sV h q o p l g) (w, 3, nl)) (W : WF w 3 nl t) (ht : t ≤ 400) (R : LRel q o p l w nl) :
    s_X10_same 1 241 242 243 244 (sV h q o p l g) = some (1, sV h q o p l g) := by
  have S := C.sh
  have T : LT5 h := S.lt5
  obtain ⟨q0, q1, q2, q3, q4, q5, q6, q7, q8, q9, q10, q11, q12⟩ := R.1
  have q7' : q 7 = nI nl := q7.trans W.1.2.2.2
  obtain ⟨u0, u4, u5, u6⟩ := q_boiler (show t ≤ 38000 by omega) C W
  obtain ⟨x0, x7, x8, x9, x10⟩ := q_count C W
  have xl := q_lease_no C W 0
  have sw : nI 0 + nI (wanN w 0) + nI (wanN w (0 + 1)) + nI (wanN w (0 + 1 + 1)) = nI (sumNN (wanN w) 3 0) := by
    rw [nI_add, nI_add, nI_add]
    congr 1
    show 0 + wanN w 0 + wanN w 1 + wanN w 2 = wanN w 0 + (wanN w 1 + (wanN w 2 + 0))
    omega
  unfold s_X10_same
  rw [show (0 : Int32) = nI 0 from rfl, show (100000 : Nat) = 99996 + 1 + 1 + 1 + 1 from rfl, l_same1 C W ht R (by omega), l_same1 C W ht R (by omega), l_same1 C W ht R (by omega), s_X10_same_L6, if_pos (by decide), sw, l_sameLL C W R nl 0 (99996 + 1 + 1 + 1 + 1) (by omega) (by have := R.2.2.2; omega)]
  simp only [show nI 0 = (0 : Int32) from rfl, S.i8, u0, u4, u5, u6, x0, x7, x8, x9, x10, bnd, vq_6 T, vq_11 T, vq_12 T, vq_0 T, vq_7 T, vq_8 T, vq_9 T, vq_10 T, q0, q6, q8, q9, q10, q11, q12, q7, if_true]
  rw [W.1.2.2.2, xl]
  rfl
