/-! haggle: a deal, both sides -/
theorem qs_L {h : Hp} (S : Sh h) {α : Type} (w a b : Row) {nl k : Nat} (v : Int32) (hl : nl < 10) (hk : k < 5) (f : Hp → Option α) : stI (sQ h w a b) 242 20 (351 + 5 * nI nl + nI k) v f = f (sQ h (upd w (351 + 5 * nl + k) v) a b) := by
  rw [show (351 : Int32) + 5 * nI nl + nI k = nI (351 + 5 * nl + k) from by rw [show (351 : Int32) = nI 351 from rfl, show (5 : Int32) = nI 5 from rfl, nI_mul, nI_add, nI_add]]
  exact q_stk S w a b v (by omega) f
theorem r_deals {h : Hp} (S : Sh h) {w : Row} {nl i o : Nat} (hi : i < 8) (ho : o < 8) (hio : i ≠ o) (hl : nl < 10) (h8 : w 8 = nI nl) (s m c : Int32) (a b : Row) : s_X9_deals 241 (nI i) (nI o) s m c (sQ h w a b) = some ((), sQ h (dealF w nl i o s m c) a b) := by
  have q0 : ∀ {α : Type} (w a b : Row) (v : Int32) (f : Hp → Option α), stI (sQ h w a b) 242 20 (351 + 5 * nI nl + 0) v f = f (sQ h (upd w (351 + 5 * nl + 0) v) a b) := fun w a b v f => qs_L S w a b (k := 0) v hl (by omega) f
  have q1 : ∀ {α : Type} (w a b : Row) (v : Int32) (f : Hp → Option α), stI (sQ h w a b) 242 20 (351 + 5 * nI nl + 1) v f = f (sQ h (upd w (351 + 5 * nl + 1) v) a b) := fun w a b v f => qs_L S w a b (k := 1) v hl (by omega) f
  have q2 : ∀ {α : Type} (w a b : Row) (v : Int32) (f : Hp → Option α), stI (sQ h w a b) 242 20 (351 + 5 * nI nl + 2) v f = f (sQ h (upd w (351 + 5 * nl + 2) v) a b) := fun w a b v f => qs_L S w a b (k := 2) v hl (by omega) f
  have q3 : ∀ {α : Type} (w a b : Row) (v : Int32) (f : Hp → Option α), stI (sQ h w a b) 242 20 (351 + 5 * nI nl + 3) v f = f (sQ h (upd w (351 + 5 * nl + 3) v) a b) := fun w a b v f => qs_L S w a b (k := 3) v hl (by omega) f
  have q4 : ∀ {α : Type} (w a b : Row) (v : Int32) (f : Hp → Option α), stI (sQ h w a b) 242 20 (351 + 5 * nI nl + 4) v f = f (sQ h (upd w (351 + 5 * nl + 4) v) a b) := fun w a b v f => qs_L S w a b (k := 4) v hl (by omega) f
  have e8 : lsU w nl (nI o) (nI i) s m c 8 = nI nl := by rw [lsU_off _ _ _ _ _ _ _ (by omega)]; exact h8
  have e9 : lsU w nl (nI o) (nI i) s m c 9 = w 9 := lsU_off _ _ _ _ _ _ _ (by omega)
  have pi : ∀ (u : Row) (k k' : Nat) (v : Int32), k < 42 → k' < 42 → pt (sp u i k v) o k' = pt u o k' := fun u k k' v hk hk' => pt_sp_ne u v hio hk hk'
  have pd : ∀ (j k : Nat), j < 8 → k < 42 → pt (dlU w nl i o s m c) j k = pt w j k := fun j k hj hk => dlU_pt w nl i o s m c hj hk
  unfold s_X9_deals
  simp only [qg S, ql_8 S, h8, q0, q1, q2, q3, q4]
  rw [show upd (upd (upd (upd (upd w (351 + 5 * nl + 0) (nI o)) (351 + 5 * nl + 1) (nI i)) (351 + 5 * nl + 2) s) (351 + 5 * nl + 3) m) (351 + 5 * nl + 4) c = lsU w nl (nI o) (nI i) s m c from rfl]
  simp only [e8, nI_1, qs_8 S, ql_9 S, qs_9 S, qg S, upd_ne _ _ (show 9 ≠ 8 by decide), e9]
  rw [show upd (upd (lsU w nl (nI o) (nI i) s m c) 8 (nI (nl + 1))) 9 (w 9 + 1) = dlU w nl i o s m c from rfl]
  simp only [q_inv S, ra_2 S hi, ra_7 S hi, ra_5 S hi, ra_2 S ho, ra_8 S ho, r_changePrice S ho, bnd, retU]
  unfold dealF
  have d1 := pd i 2 hi (by omega)
  have d2 := pd i 7 hi (by omega)
  have d3 := pd i 5 hi (by omega)
  have d4 := pd o 2 ho (by omega)
  have d5 := pd o 8 ho (by omega)
  have d6 := pd o 1 ho (by omega)
  have c1 := fun u v => pi u 2 2 v (by omega) (by omega)
  have c2 := fun u v => pi u 2 8 v (by omega) (by omega)
  have c3 := fun u v => pi u 2 1 v (by omega) (by omega)
  have c4 := fun u v => pi u 7 2 v (by omega) (by omega)
  have c5 := fun u v => pi u 7 8 v (by omega) (by omega)
  have c6 := fun u v => pi u 7 1 v (by omega) (by omega)
  have c7 := fun u v => pi u 5 2 v (by omega) (by omega)
  have c8 := fun u v => pi u 5 8 v (by omega) (by omega)
  have c9 := fun u v => pi u 5 1 v (by omega) (by omega)
  simp only [c1, c2, c3, c4, c5, c6, c7, c8, c9, pt_sp, d1, d2, d3, d4, d5, d6, show ((7 : Nat) = 2) = False from eq_false (by decide), show ((5 : Nat) = 2) = False from eq_false (by decide), show ((5 : Nat) = 7) = False from eq_false (by decide), show ((8 : Nat) = 2) = False from eq_false (by decide), show ((1 : Nat) = 2) = False from eq_false (by decide), show ((1 : Nat) = 8) = False from eq_false (by decide), if_false]
theorem stepH {g : Hp} (S : Sh g) {j : Nat} (hj : j < 8) (k : Nat) (op : Int32 → Int32) {α : Type} (f : Hp → Rv α) : (getR g 2 6 1 fun x1 => ldR g x1 22 (nI j) fun x2 => getI g x2 2 k fun x3 => putI g x2 2 k (op x3) f) = f (sI g (2 + 7 + 2 * j) k (op (hI g (2 + 7 + 2 * j) k))) := by
  rw [c_house S (show isSt 2 from Or.inl rfl) hj]
  simp only [getI, putI, S.tH (show isSt 2 from Or.inl rfl) hj, if_true]
theorem c_pay {h : Hp} {w : Row} {n nl i o : Nat} (S : Sh h) (R : SR h 2 w n nl) (hi : i < n) (ho : o < n) (hio : i ≠ o) (c : Int32) :
    s_X6_pay 2 (nI i) (nI o) c h = some ((), sI (sI (sI (sI (sI (sI h (2 + 7 + 2 * i) 3 (pt w i 2 + -c)) (2 + 7 + 2 * i) 8 (pt w i 7 + c)) (2 + 7 + 2 * i) 6 (pt w i 5 + 1)) (2 + 7 + 2 * o) 3 (pt w o 2 + c)) (2 + 7 + 2 * o) 9 (pt w o 8 + c)) (2 + 7 + 2 * o) 2 (prcF (pt w o 1 + 1))) := by
  have st2 : isSt 2 := Or.inl rfl
  have n8 := R.n8
  have hi8 : i < 8 := by omega
  have ho8 : o < 8 := by omega
  have vi := (R.hr hi).cc
  have vo := (R.hr ho).cc
  have i2 : hI h (2 + 7 + 2 * i) 3 = pt w i 2 := vi 2 (by omega)
  have i7 : hI h (2 + 7 + 2 * i) 8 = pt w i 7 := vi 7 (by omega)
  have i5 : hI h (2 + 7 + 2 * i) 6 = pt w i 5 := vi 5 (by omega)
  have o2 : hI h (2 + 7 + 2 * o) 3 = pt w o 2 := vo 2 (by omega)
  have o8 : hI h (2 + 7 + 2 * o) 9 = pt w o 8 := vo 8 (by omega)
  have o1 : hI h (2 + 7 + 2 * o) 2 = pt w o 1 := vo 1 (by omega)
  have ne : (2 + 7 + 2 * o = 2 + 7 + 2 * i) = False := eq_false (by omega)
  unfold s_X6_pay
  refine (stepH S hi8 3 (fun x => x - c) _).trans ?_
  refine (stepH (S.sI _ _ _) hi8 8 (fun x => x + c) _).trans ?_
  refine (stepH ((S.sI _ _ _).sI _ _ _) hi8 6 (fun x => x + 1) _).trans ?_
  refine (stepH (((S.sI _ _ _).sI _ _ _).sI _ _ _) ho8 3 (fun x => x + c) _).trans ?_
  refine (stepH ((((S.sI _ _ _).sI _ _ _).sI _ _ _).sI _ _ _) ho8 9 (fun x => x + c) _).trans ?_
  have S5 := ((((S.sI (2 + 7 + 2 * i) 3 (hI h (2 + 7 + 2 * i) 3 - c)).sI (2 + 7 + 2 * i) 8 (hI h (2 + 7 + 2 * i) 8 + c)).sI (2 + 7 + 2 * i) 6 (hI h (2 + 7 + 2 * i) 6 + 1)).sI (2 + 7 + 2 * o) 3 (hI h (2 + 7 + 2 * o) 3 + c)).sI (2 + 7 + 2 * o) 9 (hI h (2 + 7 + 2 * o) 9 + c)
  have x1 : hI (sI h (2 + 7 + 2 * i) 3 (hI h (2 + 7 + 2 * i) 3 - c)) (2 + 7 + 2 * i) 8 = hI h (2 + 7 + 2 * i) 8 := by rw [hI_sI, if_neg (by omega)]
  have x2 : ∀ u v, hI (sI (sI h (2 + 7 + 2 * i) 3 u) (2 + 7 + 2 * i) 8 v) (2 + 7 + 2 * i) 6 = hI h (2 + 7 + 2 * i) 6 := fun u v => by rw [hI_sI, if_neg (by omega), hI_sI, if_neg (by omega)]
  have x3 : ∀ u v x, hI (sI (sI (sI h (2 + 7 + 2 * i) 3 u) (2 + 7 + 2 * i) 8 v) (2 + 7 + 2 * i) 6 x) (2 + 7 + 2 * o) 3 = hI h (2 + 7 + 2 * o) 3 := fun u v x => by rw [hI_sI, if_neg (by omega), hI_sI, if_neg (by omega), hI_sI, if_neg (by omega)]
  have x4 : ∀ u v x y, hI (sI (sI (sI (sI h (2 + 7 + 2 * i) 3 u) (2 + 7 + 2 * i) 8 v) (2 + 7 + 2 * i) 6 x) (2 + 7 + 2 * o) 3 y) (2 + 7 + 2 * o) 9 = hI h (2 + 7 + 2 * o) 9 := fun u v x y => by rw [hI_sI, if_neg (by omega), hI_sI, if_neg (by omega), hI_sI, if_neg (by omega), hI_sI, if_neg (by omega)]
  have x5 : ∀ u v x y z, hI (sI (sI (sI (sI (sI h (2 + 7 + 2 * i) 3 u) (2 + 7 + 2 * i) 8 v) (2 + 7 + 2 * i) 6 x) (2 + 7 + 2 * o) 3 y) (2 + 7 + 2 * o) 9 z) (2 + 7 + 2 * o) 2 = hI h (2 + 7 + 2 * o) 2 := fun u v x y z => by rw [hI_sI, if_neg (by omega), hI_sI, if_neg (by omega), hI_sI, if_neg (by omega), hI_sI, if_neg (by omega), hI_sI, if_neg (by omega)]
  simp only [x1, x2, x3, x4]
  rw [c_house S5 st2 ho8]
  simp only [inv, S5.tH st2 ho8, if_true]
  rw [c_changePrice (S5.tH st2 ho8), x5, i2, i7, i5, o2, o8, o1, Int32.sub_eq_add_neg]
  rfl
