/-! haggle: a deal, both sides -/
theorem stepH {g : Hp} (S : Sh g) {j : Nat} (hj : j < 8) (k : Nat) (op : Int32 → Int32) {α : Type} (f : Hp → Rv α) : (getR g 2 6 1 fun x1 => ldR g x1 22 (nI j) fun x2 => getI g x2 2 k fun x3 => putI g x2 2 k (op x3) f) = f (sI g (2 + 7 + 2 * j) k (op (hI g (2 + 7 + 2 * j) k))) := by
  rw [c_house S (show isSt 2 from Or.inl rfl) hj]
  simp only [getI, putI, S.tH (show isSt 2 from Or.inl rfl) hj, if_true]
theorem c_pay {h : Hp} {w : Row} {n nl i o : Nat} (S : Sh h) (R : SR h 2 w n nl) (hi : i < n) (ho : o < n) (hio : i ≠ o) (c : Int32) :
    s_X6_pay 2 (nI i) (nI o) c h = some ((), sI (sI (sI (sI (sI (sI h (2 + 7 + 2 * i) 3 (pt w i 2 + -c)) (2 + 7 + 2 * i) 8 (pt w i 7 + c)) (2 + 7 + 2 * i) 6 (pt w i 5 + 1)) (2 + 7 + 2 * o) 3 (pt w o 2 + c)) (2 + 7 + 2 * o) 9 (pt w o 8 + c)) (2 + 7 + 2 * o) 2 (prcF (pt w o 1 + 1))) := by
  have st2 : isSt 2 := Or.inl rfl
  have n8 := R.n8
  have hi8 : i < 8 := by omega
  have ho8 : o < 8 := by omega
  have vi := (R.hr hi).cc
  have vo := (R.hr ho).cc
  have i2 : hI h (2 + 7 + 2 * i) 3 = pt w i 2 := vi 2 (by omega)
  have i7 : hI h (2 + 7 + 2 * i) 8 = pt w i 7 := vi 7 (by omega)
  have i5 : hI h (2 + 7 + 2 * i) 6 = pt w i 5 := vi 5 (by omega)
  have o2 : hI h (2 + 7 + 2 * o) 3 = pt w o 2 := vo 2 (by omega)
  have o8 : hI h (2 + 7 + 2 * o) 9 = pt w o 8 := vo 8 (by omega)
  have o1 : hI h (2 + 7 + 2 * o) 2 = pt w o 1 := vo 1 (by omega)
  have ne : (2 + 7 + 2 * o = 2 + 7 + 2 * i) = False := eq_false (by omega)
  unfold s_X6_pay
  refine (stepH S hi8 3 (fun x => x - c) _).trans ?_
  refine (stepH (S.sI _ _ _) hi8 8 (fun x => x + c) _).trans ?_
  refine (stepH ((S.sI _ _ _).sI _ _ _) hi8 6 (fun x => x + 1) _).trans ?_
  refine (stepH (((S.sI _ _ _).sI _ _ _).sI _ _ _) ho8 3 (fun x => x + c) _).trans ?_
  refine (stepH ((((S.sI _ _ _).sI _ _ _).sI _ _ _).sI _ _ _) ho8 9 (fun x => x + c) _).trans ?_
  have S5 := ((((S.sI (2 + 7 + 2 * i) 3 (hI h (2 + 7 + 2 * i) 3 - c)).sI (2 + 7 + 2 * i) 8 (hI h (2 + 7 + 2 * i) 8 + c)).sI (2 + 7 + 2 * i) 6 (hI h (2 + 7 + 2 * i) 6 + 1)).sI (2 + 7 + 2 * o) 3 (hI h (2 + 7 + 2 * o) 3 + c)).sI (2 + 7 + 2 * o) 9 (hI h (2 + 7 + 2 * o) 9 + c)
  have x1 : hI (sI h (2 + 7 + 2 * i) 3 (hI h (2 + 7 + 2 * i) 3 - c)) (2 + 7 + 2 * i) 8 = hI h (2 + 7 + 2 * i) 8 := by rw [hI_sI, if_neg (by omega)]
  have x2 : ∀ u v, hI (sI (sI h (2 + 7 + 2 * i) 3 u) (2 + 7 + 2 * i) 8 v) (2 + 7 + 2 * i) 6 = hI h (2 + 7 + 2 * i) 6 := fun u v => by rw [hI_sI, if_neg (by omega), hI_sI, if_neg (by omega)]
  have x3 : ∀ u v x, hI (sI (sI (sI h (2 + 7 + 2 * i) 3 u) (2 + 7 + 2 * i) 8 v) (2 + 7 + 2 * i) 6 x) (2 + 7 + 2 * o) 3 = hI h (2 + 7 + 2 * o) 3 := fun u v x => by rw [hI_sI, if_neg (by omega), hI_sI, if_neg (by omega), hI_sI, if_neg (by omega)]
  have x4 : ∀ u v x y, hI (sI (sI (sI (sI h (2 + 7 + 2 * i) 3 u) (2 + 7 + 2 * i) 8 v) (2 + 7 + 2 * i) 6 x) (2 + 7 + 2 * o) 3 y) (2 + 7 + 2 * o) 9 = hI h (2 + 7 + 2 * o) 9 := fun u v x y => by rw [hI_sI, if_neg (by omega), hI_sI, if_neg (by omega), hI_sI, if_neg (by omega), hI_sI, if_neg (by omega)]
  have x5 : ∀ u v x y z, hI (sI (sI (sI (sI (sI h (2 + 7 + 2 * i) 3 u) (2 + 7 + 2 * i) 8 v) (2 + 7 + 2 * i) 6 x) (2 + 7 + 2 * o) 3 y) (2 + 7 + 2 * o) 9 z) (2 + 7 + 2 * o) 2 = hI h (2 + 7 + 2 * o) 2 := fun u v x y z => by rw [hI_sI, if_neg (by omega), hI_sI, if_neg (by omega), hI_sI, if_neg (by omega), hI_sI, if_neg (by omega), hI_sI, if_neg (by omega)]
  simp only [x1, x2, x3, x4]
  rw [c_house S5 st2 ho8]
  simp only [inv, S5.tH st2 ho8, if_true]
  rw [c_changePrice (S5.tH st2 ho8), x5, i2, i7, i5, o2, o8, o1, Int32.sub_eq_add_neg]
  rfl
