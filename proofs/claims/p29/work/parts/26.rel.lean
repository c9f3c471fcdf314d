/-! the relation between a street of the system (its block begins at T) and a row of the reference -/
abbrev Row : Type := Nat → Int32
def pt (w : Row) (i k : Nat) : Int32 := w (15 + 42 * i + k)
def sp (w : Row) (i k : Nat) (v : Int32) : Row := upd w (15 + 42 * i + k) v
def pOK (p : Nat) : Prop := 246 ≤ p ∨ ∃ T, isSt T ∧ p = T + 4
/-- a washer's program against a house's row (from o on) -/
def PR (h : Hp) (p : Nat) (w : Row) (o : Nat) : Prop := pOK p ∧ p + 2 ≤ hN h ∧ ∃ np, np ≤ 12 ∧ w (o + 15) = nI np ∧ PO h p np ∧ ∀ k, k < np → hI h (p + 1) k = w (o + 18 + k) ∧ hI h (p + 2) k = w (o + 30 + k)
def HR (h : Hp) (A W : Nat) (w : Row) (o : Nat) : Prop :=
  (hI h A 1 = w o ∧ hI h A 2 = w (o + 1) ∧ hI h A 3 = w (o + 2) ∧ hI h A 4 = w (o + 3) ∧ hI h A 5 = w (o + 4) ∧ hI h A 6 = w (o + 5) ∧ hI h A 7 = w (o + 6) ∧ hI h A 8 = w (o + 7) ∧ hI h A 9 = w (o + 8)) ∧
  (hI h W 1 = w (o + 9) ∧ (w (o + 9) ≠ 0 → hI h W 3 = w (o + 10) ∧ hI h W 4 = w (o + 14)) ∧ hI h W 5 = w (o + 11) ∧ hL h W 6 = (w (o + 12)).toInt64 ∧ hI h W 2 = w (o + 13) ∧ hI h W 7 = w (o + 17)) ∧
  PR h (hR h W 0) w o
/-- a house that is not there -/
def NH (h : Hp) (A W : Nat) : Prop :=
  (hI h A 4 = 0 ∧ hI h A 5 = 0 ∧ hI h A 6 = 0 ∧ hI h A 7 = 0 ∧ hI h A 8 = 0 ∧ hI h A 9 = 0) ∧
  (hI h W 1 = 0 ∧ hI h W 5 = 0 ∧ hL h W 6 = 0 ∧ hI h W 2 = 1 ∧ hI h W 7 = 0) ∧
  (pOK (hR h W 0) ∧ hR h W 0 + 2 ≤ hN h ∧ PO h (hR h W 0) 0)
def SR (h : Hp) (T : Nat) (w : Row) (n nl : Nat) : Prop :=
  (w 2 = nI n ∧ n ≤ 8 ∧ w 8 = nI nl ∧ nl ≤ 10) ∧
  (hI h T 3 = w 2 ∧ hI h T 4 = w 8 ∧ hI h T 5 = w 0 ∧ hI h T 6 = w 11 ∧ hI h T 7 = w 1 ∧ hI h T 8 = w 7 ∧ hI h T 9 = w 13 ∧ hI h T 10 = w 14) ∧
  (∀ k, k < 4 → hI h (T + 1) k = w (3 + k)) ∧
  (∀ i, i < n → HR h (T + 7 + 2 * i) (T + 8 + 2 * i) w (15 + 42 * i)) ∧
  (∀ i, n ≤ i → i < 8 → NH h (T + 7 + 2 * i) (T + 8 + 2 * i)) ∧
  (∀ j, j < nl → ∀ k, k < 5 → hI h (T + 23 + j) k = w (351 + 5 * j + k))
/-- what differs between two heaps: only cells with P (and new ones) -/
def Ch (P : Nat → Prop) (h h' : Hp) : Prop := hN h ≤ hN h' ∧ (∀ b, b ≤ hN h → hT h' b = hT h b) ∧ ∀ b, b ≤ hN h → ¬ P b → hI h' b = hI h b ∧ hL h' b = hL h b ∧ hR h' b = hR h b
theorem Ch.rfl' {P : Nat → Prop} {h : Hp} : Ch P h h := ⟨Nat.le_refl _, fun _ _ => rfl, fun _ _ _ => ⟨rfl, rfl, rfl⟩⟩
theorem Ch.trans {P : Nat → Prop} {h h1 h2 : Hp} (a : Ch P h h1) (b : Ch P h1 h2) : Ch P h h2 := by
  refine ⟨Nat.le_trans a.1 b.1, fun x hx => ?_, fun x hx hp => ?_⟩
  · rw [b.2.1 x (Nat.le_trans hx a.1), a.2.1 x hx]
  · obtain ⟨p1, p2, p3⟩ := a.2.2 x hx hp
    obtain ⟨q1, q2, q3⟩ := b.2.2 x (Nat.le_trans hx a.1) hp
    exact ⟨q1.trans p1, q2.trans p2, q3.trans p3⟩
theorem Ch.mono {P Q : Nat → Prop} {h h1 : Hp} (a : Ch P h h1) (hq : ∀ x, P x → Q x) : Ch Q h h1 := ⟨a.1, a.2.1, fun x hx hp => a.2.2 x hx (fun z => hp (hq x z))⟩
theorem Ch.sI {P : Nat → Prop} {h h1 : Hp} (a : Ch P h h1) (b k : Nat) (v : Int32) (hb : P b) : Ch P h (sI h1 b k v) := by
  refine a.trans ⟨Nat.le_refl _, fun _ _ => rfl, fun x _ hp => ⟨hI_sIn _ _ _ _ _ (fun q => hp (by rw [q]; exact hb)), rfl, rfl⟩⟩
theorem Ch.sL {P : Nat → Prop} {h h1 : Hp} (a : Ch P h h1) (b k : Nat) (v : Int64) (hb : P b) : Ch P h (sL h1 b k v) := by
  refine a.trans ⟨Nat.le_refl _, fun _ _ => rfl, fun x _ hp => ⟨rfl, hL_sLn _ _ _ _ _ (fun q => hp (by rw [q]; exact hb)), rfl⟩⟩
theorem Ch.sR {P : Nat → Prop} {h h1 : Hp} (a : Ch P h h1) (b k : Nat) (v : Nat) (hb : P b) : Ch P h (sR h1 b k v) := by
  refine a.trans ⟨Nat.le_refl _, fun _ _ => rfl, fun x _ hp => ⟨rfl, rfl, hR_sRn _ _ _ _ _ (fun q => hp (by rw [q]; exact hb))⟩⟩
/-- cells that may change: none of a program -/
def Mut (a : Nat) : Prop := a < 246 ∧ ∀ T, isSt T → ¬ (T + 4 ≤ a ∧ a ≤ T + 6)
theorem pOK.not {p a : Nat} (hp : pOK p) (ha : Mut a) : a ≠ p ∧ a ≠ p + 1 ∧ a ≠ p + 2 := by
  obtain ⟨h1, h2⟩ := ha
  rcases hp with q | ⟨T, t, rfl⟩
  · omega
  · have := h2 T t
    omega
theorem PO.ch {P : Nat → Prop} {h h' : Hp} {p n : Nat} (a : Ch P h h') (hP : ∀ x, P x → Mut x) (hp : pOK p) (hN' : p + 2 ≤ hN h) (o : PO h p n) : PO h' p n := by
  obtain ⟨e1, e2, e3, e4, e5, e6, e7⟩ := o
  have n0 : ¬ P p := fun z => (hp.not (hP _ z)).1 rfl
  have a0 := a.2.2 p (by omega) n0
  exact ⟨by rw [a.2.1 p (by omega)]; exact e1, by rw [a0.2.2]; exact e2, by rw [a0.2.2]; exact e3, by rw [a0.1]; exact e4, by rw [a.2.1 _ (by omega)]; exact e5, by rw [a.2.1 _ (by omega)]; exact e6, e7⟩
theorem PR.ch {P : Nat → Prop} {h h' : Hp} {p o : Nat} {w w' : Row} (a : Ch P h h') (hP : ∀ x, P x → Mut x) (q : PR h p w o) (hw : ∀ k, 15 ≤ k → k < 42 → k ≠ 16 → k ≠ 17 → w' (o + k) = w (o + k)) : PR h' p w' o := by
  obtain ⟨hp, hn, np, h12, e1, e2, e3⟩ := q
  have n1 : ¬ P (p + 1) := fun z => (hp.not (hP _ z)).2.1 rfl
  have n2 : ¬ P (p + 2) := fun z => (hp.not (hP _ z)).2.2 rfl
  refine ⟨hp, Nat.le_trans hn a.1, np, h12, by rw [hw 15 (by omega) (by omega) (by omega) (by omega)]; exact e1, e2.ch a hP hp hn, fun k hk => ?_⟩
  rw [(a.2.2 _ (by omega) n1).1, (a.2.2 _ hn n2).1, Nat.add_assoc o 18 k, hw (18 + k) (by omega) (by omega) (by omega) (by omega), Nat.add_assoc o 30 k, hw (30 + k) (by omega) (by omega) (by omega) (by omega), ← Nat.add_assoc, ← Nat.add_assoc]
  exact e3 k hk
theorem HR.ch {P : Nat → Prop} {h h' : Hp} {A W o : Nat} {w w' : Row} (a : Ch P h h') (hP : ∀ x, P x → Mut x) (q : HR h A W w o) (hA : ¬ P A) (hW : ¬ P W) (hAn : A ≤ hN h) (hWn : W ≤ hN h) (hw : ∀ k, k < 42 → w' (o + k) = w (o + k)) : HR h' A W w' o := by
  obtain ⟨q1, q2, q3⟩ := q
  have aA := a.2.2 A hAn hA
  have aW := a.2.2 W hWn hW
  unfold HR
  rw [aA.1, aW.1, aW.2.1, aW.2.2]
  have w0 := hw 0 (by omega)
  simp only [Nat.add_zero] at w0
  rw [w0, hw 1 (by omega), hw 2 (by omega), hw 3 (by omega), hw 4 (by omega), hw 5 (by omega), hw 6 (by omega), hw 7 (by omega), hw 8 (by omega), hw 9 (by omega), hw 10 (by omega), hw 11 (by omega), hw 12 (by omega), hw 13 (by omega), hw 14 (by omega), hw 17 (by omega)]
  exact ⟨q1, q2, q3.ch a hP (fun k _ h2 _ _ => hw k h2)⟩
theorem NH.ch {P : Nat → Prop} {h h' : Hp} {A W : Nat} (a : Ch P h h') (hP : ∀ x, P x → Mut x) (q : NH h A W) (hA : ¬ P A) (hW : ¬ P W) (hAn : A ≤ hN h) (hWn : W ≤ hN h) : NH h' A W := by
  obtain ⟨q1, q2, q3, q4, q5⟩ := q
  have aA := a.2.2 A hAn hA
  have aW := a.2.2 W hWn hW
  unfold NH
  rw [aA.1, aW.1, aW.2.1, aW.2.2]
  exact ⟨q1, q2, q3, Nat.le_trans q4 a.1, q5.ch a hP q3 q4⟩
/-- a street whose block isn't touched -/
theorem SR.ch {P : Nat → Prop} {h h' : Hp} {T n nl : Nat} {w : Row} (a : Ch P h h') (hP : ∀ x, P x → Mut x) (hT : isSt T) (hN0 : 245 ≤ hN h) (hd : ∀ x, P x → ¬ (T ≤ x ∧ x < T + 33)) (q : SR h T w n nl) : SR h' T w n nl := by
  obtain ⟨q1, q2, q3, q4, q5, q6⟩ := q
  have hp := hT.pos
  have nP : ∀ d, d < 33 → ¬ P (T + d) := fun d hd' z => hd _ z (by omega)
  refine ⟨q1, ?_, fun k hk => ?_, fun i hi => ?_, fun i h1 h2 => ?_, fun j hj k hk => ?_⟩
  · rw [(a.2.2 T (by omega) (nP 0 (by omega))).1]
    exact q2
  · rw [(a.2.2 (T + 1) (by omega) (nP 1 (by omega))).1]
    exact q3 k hk
  · refine (q4 i hi).ch a hP ?_ ?_ (by omega) (by omega) (fun k _ => rfl)
    · rw [Nat.add_assoc]; exact nP _ (by omega)
    · rw [Nat.add_assoc]; exact nP _ (by omega)
  · refine (q5 i h1 h2).ch a hP ?_ ?_ (by omega) (by omega)
    · rw [Nat.add_assoc]; exact nP _ (by omega)
    · rw [Nat.add_assoc]; exact nP _ (by omega)
  · rw [(a.2.2 (T + 23 + j) (by omega) (by rw [Nat.add_assoc]; exact nP _ (by omega))).1]
    exact q6 j hj k hk
/-- a change of one house alone -/
theorem SR.house {P : Nat → Prop} {h h' : Hp} {T n nl i : Nat} {w w' : Row} (a : Ch P h h') (hP : ∀ x, P x → Mut x) (hT : isSt T) (hN0 : 245 ≤ hN h) (hi : i < n) (hd : ∀ x, P x → T ≤ x ∧ x < T + 33 → x = T + 7 + 2 * i ∨ x = T + 8 + 2 * i) (hw : ∀ j, (j < 15 + 42 * i ∨ 15 + 42 * i + 42 ≤ j) → j ≠ 12 → j ≠ 9 → j ≠ 10 → w' j = w j) (q : SR h T w n nl) (hr : HR h' (T + 7 + 2 * i) (T + 8 + 2 * i) w' (15 + 42 * i)) : SR h' T w' n nl := by
  obtain ⟨q1, q2, q3, q4, q5, q6⟩ := q
  have hp := hT.pos
  have nP : ∀ d, d < 33 → d ≠ 7 + 2 * i → d ≠ 8 + 2 * i → ¬ P (T + d) := fun d hd' n1 n2 z => by
    have := hd _ z (by omega)
    omega
  have n8 := q1.2.1
  have wl : ∀ j, j < 15 → j ≠ 12 → j ≠ 9 → j ≠ 10 → w' j = w j := fun j hj z1 z2 z3 => hw j (by omega) z1 z2 z3
  refine ⟨by rw [wl 2 (by omega) (by omega) (by omega) (by omega), wl 8 (by omega) (by omega) (by omega) (by omega)]; exact q1, ?_, fun k hk => ?_, fun j hj => ?_, fun j h1 h2 => ?_, fun j hj k hk => ?_⟩
  · rw [(a.2.2 T (by omega) (nP 0 (by omega) (by omega) (by omega))).1, wl 2 (by omega) (by omega) (by omega) (by omega), wl 8 (by omega) (by omega) (by omega) (by omega), wl 0 (by omega) (by omega) (by omega) (by omega), wl 11 (by omega) (by omega) (by omega) (by omega), wl 1 (by omega) (by omega) (by omega) (by omega), wl 7 (by omega) (by omega) (by omega) (by omega), wl 13 (by omega) (by omega) (by omega) (by omega), wl 14 (by omega) (by omega) (by omega) (by omega)]
    exact q2
  · rw [(a.2.2 (T + 1) (by omega) (nP 1 (by omega) (by omega) (by omega))).1, wl (3 + k) (by omega) (by omega) (by omega) (by omega)]
    exact q3 k hk
  · by_cases e : j = i
    · subst e
      exact hr
    · refine (q4 j hj).ch a hP ?_ ?_ (by omega) (by omega) (fun k hk => hw _ (by omega) (by omega) (by omega) (by omega))
      · rw [Nat.add_assoc]; exact nP _ (by omega) (by omega) (by omega)
      · rw [Nat.add_assoc]; exact nP _ (by omega) (by omega) (by omega)
  · refine (q5 j h1 h2).ch a hP ?_ ?_ (by omega) (by omega)
    · rw [Nat.add_assoc]; exact nP _ (by omega) (by omega) (by omega)
    · rw [Nat.add_assoc]; exact nP _ (by omega) (by omega) (by omega)
  · rw [(a.2.2 (T + 23 + j) (by omega) (by rw [Nat.add_assoc]; exact nP _ (by omega) (by omega) (by omega))).1, hw _ (by omega) (by omega) (by omega) (by omega)]
    exact q6 j hj k hk
