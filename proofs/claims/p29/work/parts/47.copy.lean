/-! a street copied over another -/
def isW (x : Nat) : Prop := ∃ T i, isSt T ∧ i < 8 ∧ x = T + 8 + 2 * i
theorem Sh.wr {h h' : Hp} (S : Sh h) (ht : hT h' = hT h) (hn : hN h ≤ hN h') (hr : ∀ x, ¬ isW x → x ≠ 102 → hR h' x = hR h x) : Sh h' := by
  obtain ⟨a1, a2, a3, a4, a5, a6, a7, a8, a9⟩ := S
  have nw : ∀ x, x < 246 → (∀ T, isSt T → ¬ (T + 8 ≤ x ∧ x < T + 23 ∧ (x - T) % 2 = 0)) → ¬ isW x := fun x _ hx ⟨T, i, t, hi, e⟩ => hx T t (by omega)
  have q : ∀ x, (x = 1 ∨ x = 101 ∨ x = 235 ∨ x = 239) → hR h' x = hR h x := fun x hx => hr x (nw x (by omega) (fun T t => by unfold isSt at t; omega)) (by omega)
  have qs : ∀ T, isSt T → ∀ d, d < 8 → hR h' (T + d) = hR h (T + d) := fun T t d hd => hr _ (nw _ (by unfold isSt at t; omega) (fun T' t' => by unfold isSt at t t'; omega)) (by unfold isSt at t; omega)
  have qh : ∀ T, isSt T → ∀ i, i < 8 → hR h' (T + 7 + 2 * i) = hR h (T + 7 + 2 * i) := fun T t i hi => hr _ (nw _ (by unfold isSt at t; omega) (fun T' t' => by unfold isSt at t t'; omega)) (by unfold isSt at t; omega)
  refine ⟨?_, fun T t => ?_, ?_, ?_, ?_, ?_, ?_, ?_, ?_⟩
  · rw [ht]; exact a1
  · have r0 := qs T t 0 (by omega)
    rw [Nat.add_zero] at r0
    rw [r0, qs T t 2 (by omega), qs T t 3 (by omega)]
    obtain ⟨b1, b2, b3, b4, b5⟩ := a2 T t
    exact ⟨b1, b2, b3, fun i hi => by rw [qh T t i hi]; exact b4 i hi, b5⟩
  · rw [ht, q 1 (by omega)]; exact a3
  · rw [ht, q 101 (by omega)]; exact a4
  · rw [ht, q 235 (by omega)]; exact a5
  · rw [ht, q 239 (by omega)]; exact a6
  · rw [ht]; exact a7
  · rw [ht]; exact a8
  · exact Nat.le_trans a9 hn
/-- cells that stay -/
def Fr (P : Nat → Prop) (h h' : Hp) : Prop := hT h' = hT h ∧ hN h' = hN h ∧ ∀ x, ¬ P x → hI h' x = hI h x ∧ hL h' x = hL h x ∧ hR h' x = hR h x
theorem Fr.rfl' {P : Nat → Prop} {h : Hp} : Fr P h h := ⟨rfl, rfl, fun _ _ => ⟨rfl, rfl, rfl⟩⟩
theorem Fr.trans {P : Nat → Prop} {h h1 h2 : Hp} (a : Fr P h h1) (b : Fr P h1 h2) : Fr P h h2 := by
  refine ⟨b.1.trans a.1, b.2.1.trans a.2.1, fun x hx => ?_⟩
  obtain ⟨p1, p2, p3⟩ := a.2.2 x hx
  obtain ⟨q1, q2, q3⟩ := b.2.2 x hx
  exact ⟨q1.trans p1, q2.trans p2, q3.trans p3⟩
theorem Fr.mono {P Q : Nat → Prop} {h h1 : Hp} (a : Fr P h h1) (hq : ∀ x, P x → Q x) : Fr Q h h1 := ⟨a.1, a.2.1, fun x hp => a.2.2 x (fun z => hp (hq x z))⟩
theorem Fr.sI {P : Nat → Prop} {h h1 : Hp} (a : Fr P h h1) (b k : Nat) (v : Int32) (hb : P b) : Fr P h (sI h1 b k v) :=
  a.trans ⟨rfl, rfl, fun x hp => ⟨hI_sIn _ _ _ _ _ (fun q => hp (by rw [q]; exact hb)), rfl, rfl⟩⟩
theorem Fr.sL {P : Nat → Prop} {h h1 : Hp} (a : Fr P h h1) (b k : Nat) (v : Int64) (hb : P b) : Fr P h (sL h1 b k v) :=
  a.trans ⟨rfl, rfl, fun x hp => ⟨rfl, hL_sLn _ _ _ _ _ (fun q => hp (by rw [q]; exact hb)), rfl⟩⟩
theorem Fr.sR {P : Nat → Prop} {h h1 : Hp} (a : Fr P h h1) (b k : Nat) (v : Nat) (hb : P b) : Fr P h (sR h1 b k v) :=
  a.trans ⟨rfl, rfl, fun x hp => ⟨rfl, rfl, hR_sRn _ _ _ _ _ (fun q => hp (by rw [q]; exact hb))⟩⟩
theorem Fr.ch {P : Nat → Prop} {h h' : Hp} (a : Fr P h h') : Ch P h h' := ⟨Nat.le_of_eq a.2.1.symm, fun _ _ => by rw [a.1], fun x _ hp => a.2.2 x hp⟩
theorem c_copyW {h : Hp} {a b : Nat} (ea : hT h a = (7, 0)) (eb : hT h b = (7, 0)) (ha : a ≠ 0) (hb : b ≠ 0) (hr : hR h b 0 ≠ 0) (hab : b ≠ a) :
    ∃ h', s_X7_copyFrom a b h = some ((), h') ∧ Fr (fun x => x = a) h h' ∧ (hI h' a 1 = hI h b 1 ∧ hI h' a 2 = hI h b 2 ∧ hI h' a 3 = hI h b 3 ∧ hI h' a 4 = hI h b 4 ∧ hI h' a 5 = hI h b 5 ∧ hI h' a 7 = hI h b 7) ∧ hL h' a 6 = hL h b 6 ∧ hR h' a = fun k => if k = 0 then hR h b 0 else hR h a k := by
  have e : (b = a) = False := eq_false hab
  refine ⟨sI (sL (sI (sI (sI (sI (sI (sR h a 0 (hR h b 0)) a 1 (hI h b 1)) a 2 (hI h b 2)) a 3 (hI h b 3)) a 4 (hI h b 4)) a 5 (hI h b 5)) a 6 (hL h b 6)) a 7 (hI h b 7), ?_, ?_, ?_, ?_, ?_⟩
  · unfold s_X7_copyFrom
    simp only [getI, getL, getR, putI, putZ, putL, putR, ldI, ldR, stI, stR, divI, divL, bnd, inv, retI, retZ, retC, retR, retU, hT_sI, hT_sL, hT_sR, hR_sI, hR_sL, hN_sI, hN_sL, hN_sR, hI_sL, hI_sR, hL_sI, hL_sR, ↓reduceIte, true_and, and_true, and_self, ne_eq, not_false_eq_true, not_true_eq_false, reduceCtorEq, if_true, if_false, ea, eb, ha, hb, hr, e, hI_sI, false_and]
  · exact ((((((((Fr.rfl' (P := fun x => x = a)).sR a 0 _ rfl).sI a 1 _ rfl).sI a 2 _ rfl).sI a 3 _ rfl).sI a 4 _ rfl).sI a 5 _ rfl).sL a 6 _ rfl).sI a 7 _ rfl
  · simp [hI_sI, hI_sL]
  · rw [hL_sI, hL_sL, if_pos ⟨rfl, rfl⟩]
  · funext k
    show hR (sR h a 0 (hR h b 0)) a k = _
    rw [hR_sR]
    simp
theorem c_copyH {h : Hp} {a b wa wb : Nat} (ea : hT h a = (2, 0)) (eb : hT h b = (2, 0)) (ra : hR h a 0 = wa) (rb : hR h b 0 = wb) (ta : hT h wa = (7, 0)) (tb : hT h wb = (7, 0)) (hwa : wa ≠ 0) (hwb : wb ≠ 0) (hr : hR h wb 0 ≠ 0) (hab : wb ≠ wa) (n1 : b ≠ a) (n2 : a ≠ wa) (n3 : b ≠ wa) (n4 : wa ≠ a) (n5 : wb ≠ a) :
    ∃ h', s_X2_copyFrom a b h = some ((), h') ∧ Fr (fun x => x = a ∨ x = wa) h h' ∧ (hI h' wa 1 = hI h wb 1 ∧ hI h' wa 2 = hI h wb 2 ∧ hI h' wa 3 = hI h wb 3 ∧ hI h' wa 4 = hI h wb 4 ∧ hI h' wa 5 = hI h wb 5 ∧ hI h' wa 7 = hI h wb 7) ∧ hL h' wa 6 = hL h wb 6 ∧ hR h' wa 0 = hR h wb 0 ∧ hR h' a = hR h a ∧
      (hI h' a 1 = hI h b 1 ∧ hI h' a 2 = hI h b 2 ∧ hI h' a 3 = hI h b 3 ∧ hI h' a 4 = hI h b 4 ∧ hI h' a 5 = hI h b 5 ∧ hI h' a 6 = hI h b 6 ∧ hI h' a 7 = hI h b 7 ∧ hI h' a 8 = hI h b 8 ∧ hI h' a 9 = hI h b 9) := by
  obtain ⟨h1, c1, c2, c3, c4, c5⟩ := c_copyW ta tb hwa hwb hr hab
  obtain ⟨fa, fb⟩ := And.intro (c2.2.2 a n2) (c2.2.2 b n3)
  have ea1 : hT h1 a = (2, 0) := by rw [c2.1]; exact ea
  have eb1 : hT h1 b = (2, 0) := by rw [c2.1]; exact eb
  have e : (b = a) = False := eq_false n1
  have e2 : (wa = a) = False := eq_false n4
  refine ⟨sI (sI (sI (sI (sI (sI (sI (sI (sI h1 a 1 (hI h b 1)) a 2 (hI h b 2)) a 3 (hI h b 3)) a 4 (hI h b 4)) a 5 (hI h b 5)) a 6 (hI h b 6)) a 7 (hI h b 7)) a 8 (hI h b 8)) a 9 (hI h b 9), ?_, ?_, ?_, ?_, ?_, ?_, ?_⟩
  · unfold s_X2_copyFrom
    simp only [getI, getL, getR, putI, putZ, putL, putR, ldI, ldR, stI, stR, divI, divL, bnd, inv, retI, retZ, retC, retR, retU, hT_sI, hT_sL, hT_sR, hR_sI, hR_sL, hN_sI, hN_sL, hN_sR, hI_sL, hI_sR, hL_sI, hL_sR, ↓reduceIte, true_and, and_true, and_self, ne_eq, not_false_eq_true, not_true_eq_false, reduceCtorEq, if_true, if_false, ea, eb, ra, rb, hwa, hwb, ta, c1, ea1, eb1, e, hI_sI, false_and, fb.1]
  · refine (c2.mono (fun x hx => Or.inr hx)).trans ?_
    exact (((((((((Fr.rfl' (P := fun x => x = a ∨ x = wa)).sI a 1 _ (Or.inl rfl)).sI a 2 _ (Or.inl rfl)).sI a 3 _ (Or.inl rfl)).sI a 4 _ (Or.inl rfl)).sI a 5 _ (Or.inl rfl)).sI a 6 _ (Or.inl rfl)).sI a 7 _ (Or.inl rfl)).sI a 8 _ (Or.inl rfl)).sI a 9 _ (Or.inl rfl)
  · simp only [hI_sI, e2, false_and, if_false]
    exact c3
  · exact c4
  · show hR h1 wa 0 = _
    rw [c5]
    rfl
  · exact fa.2.2
  · simp [hI_sI]
theorem c_copyL {h : Hp} {a b : Nat} (ea : hT h a = (3, 0)) (eb : hT h b = (3, 0)) (n1 : b ≠ a) :
    ∃ h', s_X3_copyFrom a b h = some ((), h') ∧ Fr (fun x => x = a) h h' ∧ hR h' = hR h ∧ ∀ k, k < 5 → hI h' a k = hI h b k := by
  have e : (b = a) = False := eq_false n1
  refine ⟨sI (sI (sI (sI (sI h a 0 (hI h b 0)) a 1 (hI h b 1)) a 2 (hI h b 2)) a 3 (hI h b 3)) a 4 (hI h b 4), ?_, ?_, rfl, fun k hk => ?_⟩
  · unfold s_X3_copyFrom
    simp only [getI, getL, getR, putI, putZ, putL, putR, ldI, ldR, stI, stR, divI, divL, bnd, inv, retI, retZ, retC, retR, retU, hT_sI, hT_sL, hT_sR, hR_sI, hR_sL, hN_sI, hN_sL, hN_sR, hI_sL, hI_sR, hL_sI, hL_sR, ↓reduceIte, true_and, and_true, and_self, ne_eq, not_false_eq_true, not_true_eq_false, reduceCtorEq, if_true, if_false, ea, eb, e, hI_sI, false_and]
  · exact (((((Fr.rfl' (P := fun x => x = a)).sI a 0 _ rfl).sI a 1 _ rfl).sI a 2 _ rfl).sI a 3 _ rfl).sI a 4 _ rfl
  · rcases (show k = 0 ∨ k = 1 ∨ k = 2 ∨ k = 3 ∨ k = 4 by omega) with rfl | rfl | rfl | rfl | rfl <;> simp [hI_sI]
