/-! type, clearText -/
def TC (x : Nat) : Prop := 239 ≤ x ∧ x ≤ 245
theorem TC.mut {x : Nat} (q : TC x) : Mut x := ⟨by unfold TC at q; omega, fun T t => by unfold isSt at t; unfold TC at q; omega⟩
theorem CS.tc {h h' : Hp} {e v : Ent} {c : Nat} {u : Nat → Ent} {sn : Int32} (a : Ch TC h h') (S' : Sh h') (C : CS h e c u sn v) : CS h' e c u sn v := by
  obtain ⟨S, R, ⟨c4, c1, p1, p2, U⟩, ⟨s1, s2⟩, z⟩ := C
  have hN0 := S.2.2.2.2.2.2.2.2
  have f : ∀ x, x < 239 → hI h' x = hI h x ∧ hL h' x = hL h x ∧ hR h' x = hR h x := fun x hx => a.2.2 x (by omega) (fun q => by have := q.1; omega)
  have m : ∀ T, isSt T → ∀ e, SRe h T e → SRe h' T e := fun T t e q => SR.ch a (fun x hx => hx.mut) t hN0 (fun x hx => by have := hx.1; unfold isSt at t; omega) q
  refine ⟨S', m 2 (Or.inl rfl) e R, ⟨c4, by rw [(f 101 (by omega)).1]; exact c1, by rw [(f 102 (by omega)).2.2]; exact p1, by rw [(f 102 (by omega)).2.2]; exact p2, fun k hk => by rw [(f 102 (by omega)).2.2]; exact m _ (p1 k (by omega)).st _ (U k hk)⟩, ⟨by rw [(f 1 (by omega)).1]; exact s1, fun q => m 68 (by unfold isSt; omega) _ (s2 q)⟩, fun i hi => by rw [(f 238 (by omega)).1]; exact z i hi⟩
theorem T_x5 {h : Hp} (S : Sh h) {α : Type} (f : Nat → Option α) : getR h 1 8 5 f = f 239 := by
  simp only [getR, S.2.2.1.1, S.2.2.1.2.2.2.2.2.2, true_and, show ((239 : Nat) = 0) = False from eq_false (by decide), ne_eq, not_false_eq_true, if_true]
theorem T_u0 {h : Hp} (S : Sh h) {α : Type} (f : Nat → Option α) : getR h 239 5 0 f = f 240 := by
  simp only [getR, S.2.2.2.2.2.1.1, S.2.2.2.2.2.1.2.1, true_and, show ((240 : Nat) = 0) = False from eq_false (by decide), ne_eq, not_false_eq_true, if_true]
theorem T_u1 {h : Hp} (S : Sh h) {α : Type} (f : Int32 → Option α) : getI h 239 5 1 f = f (hI h 239 1) := by
  simp only [getI, S.2.2.2.2.2.1.1, if_true]
theorem T_up1 {h : Hp} (S : Sh h) {α : Type} (v : Int32) (f : Hp → Option α) : putI h 239 5 1 v f = f (sI h 239 1 v) := by
  simp only [putI, S.2.2.2.2.2.1.1, if_true]
theorem T_ui {h : Hp} (S : Sh h) {α β : Type} (x : Rv α) (f : α → Hp → Rv β) : inv h 239 5 x f = bnd x f := by
  simp only [inv, S.2.2.2.2.2.1.1, if_true]
theorem T_ul {h : Hp} (S : Sh h) {α : Type} {k : Nat} (hk : k < 60) (f : Int32 → Option α) : ldI h 240 21 (nI k) f = f (hI h 240 k) := by
  simp only [ldI, S.2.2.2.2.2.1.2.2, nI_ge0 (show k < 2 ^ 31 by omega), nI_clamp (show k < 2 ^ 31 by omega), hk, true_and, if_true]
theorem T_us {h : Hp} (S : Sh h) {α : Type} {k : Nat} (hk : k < 60) (v : Int32) (f : Hp → Option α) : stI h 240 21 (nI k) v f = f (sI h 240 k v) := by
  simp only [stI, S.2.2.2.2.2.1.2.2, nI_ge0 (show k < 2 ^ 31 by omega), nI_clamp (show k < 2 ^ 31 by omega), hk, true_and, if_true]
