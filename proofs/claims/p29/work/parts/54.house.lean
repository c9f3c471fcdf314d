/-! calls that speak of one house -/
def inH (a : Int32) (n : Nat) : Prop := (if 0 ≤ a ∧ a ≤ nI n - 1 then (1 : Int32) else 0) = 1
theorem inH_iff {a : Int32} {n : Nat} : inH a n ↔ (0 ≤ a ∧ a ≤ nI n - 1) := by
  unfold inH
  by_cases q : 0 ≤ a ∧ a ≤ nI n - 1
  · rw [if_pos q]; exact ⟨fun _ => q, fun _ => rfl⟩
  · rw [if_neg q]; exact ⟨fun z => absurd z (by decide), fun z => absurd z q⟩
def hasI (a : Int32) (n : Nat) : Int32 := if 0 ≤ a ∧ a ≤ nI n - 1 then 1 else 0
theorem hasI_1 {a : Int32} {n : Nat} (q : inH a n) : hasI a n = 1 := q
theorem hasI_0 {a : Int32} {n : Nat} (q : ¬ inH a n) : hasI a n = 0 := if_neg (fun z => q (inH_iff.mpr z))
theorem inH_of {a : Int32} {n : Nat} (h8 : n ≤ 8) (q : inH a n) : ∃ i, a = nI i ∧ i < n := by
  obtain ⟨m, rfl, hm⟩ := nI_ofI (inH_iff.mp q).1
  refine ⟨m, rfl, ?_⟩
  have := Int32.le_iff_toInt_le.mp (inH_iff.mp q).2
  rw [show (1 : Int32) = nI 1 from rfl, nI_subT (by omega) (by omega), nI_toInt hm] at this
  omega
theorem inH_is {i n : Nat} (h8 : n ≤ 8) (hi : i < n) : inH (nI i) n := by
  refine inH_iff.mpr ⟨nI_pos' (by omega), ?_⟩
  rw [Int32.le_iff_toInt_le, show (1 : Int32) = nI 1 from rfl, nI_subT (by omega) (by omega), nI_toInt (by omega)]
  omega
theorem Sh.x0 {h : Hp} (S : Sh h) {α : Type} (f : Nat → Option α) : getR h 1 8 0 f = f 2 := by
  simp only [getR, S.2.2.1.1, S.2.2.1.2.1, true_and, show ((2 : Nat) = 0) = False from eq_false (by decide), ne_eq, not_false_eq_true, if_true]
theorem Sh.x3 {h : Hp} (S : Sh h) {α : Type} (f : Nat → Option α) : getR h 1 8 3 f = f 101 := by
  simp only [getR, S.2.2.1.1, S.2.2.1.2.2.2.2.1, true_and, show ((101 : Nat) = 0) = False from eq_false (by decide), ne_eq, not_false_eq_true, if_true]
theorem inv6 {h : Hp} (S : Sh h) {α β : Type} (x : Rv α) (f : α → Hp → Rv β) : inv h 2 6 x f = bnd x f := by
  simp only [inv, S.t0 (show isSt 2 from Or.inl rfl), if_true]
theorem invW {h : Hp} (S : Sh h) {i : Nat} (hi : i < 8) {α β : Type} (x : Rv α) (f : α → Hp → Rv β) : inv h (2 + 8 + 2 * i) 7 x f = bnd x f := by
  simp only [inv, S.tW (show isSt 2 from Or.inl rfl) hi, if_true]
theorem getW {h : Hp} (S : Sh h) {i : Nat} (hi : i < 8) {α : Type} (k : Nat) (f : Int32 → Option α) : getI h (2 + 8 + 2 * i) 7 k f = f (hI h (2 + 8 + 2 * i) k) := by
  simp only [getI, S.tW (show isSt 2 from Or.inl rfl) hi, if_true]
theorem putW {h : Hp} (S : Sh h) {i : Nat} (hi : i < 8) {α : Type} (k : Nat) (v : Int32) (f : Hp → Option α) : putI h (2 + 8 + 2 * i) 7 k v f = f (sI h (2 + 8 + 2 * i) k v) := by
  simp only [putI, S.tW (show isSt 2 from Or.inl rfl) hi, if_true]
theorem get6 {h : Hp} (S : Sh h) {α : Type} (k : Nat) (f : Int32 → Option α) : getI h 2 6 k f = f (hI h 2 k) := by
  simp only [getI, S.t0 (show isSt 2 from Or.inl rfl), if_true]
theorem c_has {h : Hp} {e : Ent} (S : Sh h) (R : SRe h 2 e) (a : Int32) : s_X6_hasHouse 2 a h = some (hasI a e.2.1, h) := by
  have e3 : hI h 2 3 = nI e.2.1 := by rw [R.2.1.1, R.1.1]
  unfold s_X6_hasHouse hasI
  simp only [get6 S, win8, bnd, e3, retZ]
  split <;> rfl
/-- a row with one house changed -/
theorem WF.house {w w' : Row} {n nl t i : Nat} (hi : i < n) (hw : ∀ j, (j < 15 + 42 * i ∨ 15 + 42 * i + 42 ≤ j) → w' j = w j) (h0 : ∀ k, (k = 0 ∨ k = 4 ∨ k = 5 ∨ k = 6) → pt w' i k = pt w i k) (H' : WH w' i t) (F : WF w n nl t) : WF w' n nl t := by
  obtain ⟨⟨h8, h10, e2, e8⟩, hp, B, L, H, s4, s5, s6, N⟩ := F
  have pp : ∀ j, j ≠ i → ∀ k, k < 42 → pt w' j k = pt w j k := fun j hj k hk => hw _ (by omega)
  have pk : ∀ k, (k = 0 ∨ k = 4 ∨ k = 5 ∨ k = 6) → ∀ j, pt w' j k = pt w j k := fun k hk j => by
    by_cases q : j = i
    · rw [q]; exact h0 k hk
    · exact pp j q k (by omega)
  refine ⟨⟨h8, h10, by rw [hw 2 (by omega)]; exact e2, by rw [hw 8 (by omega)]; exact e8⟩, by rw [hw 1 (by omega)]; exact hp, ?_, ⟨fun j hj => by rw [hw _ (by omega)]; exact L.1 j hj, fun j hj => ?_⟩, fun j hj => ?_, ?_, ?_, ?_, fun j hj k hk => by rw [hw _ (by omega)]; exact N j hj k hk⟩
  · unfold WB
    rw [hw 3 (by omega), hw 4 (by omega), hw 5 (by omega), hw 7 (by omega)]
    exact B
  · rw [pk 0 (by omega) j, lentN_congr (w := w) (w' := w') (fun j hj k hk => hw _ (by omega))]
    exact L.2 j hj
  · by_cases q : j = i
    · rw [q]; exact H'
    · exact (H j hj).congr (pp j q)
  · rw [hw 12 (by omega), s4]
    exact (sumP_congr (fun j _ => pk 4 (by omega) j)).symm
  · rw [hw 9 (by omega), s5]
    exact (sumP_congr (fun j _ => pk 5 (by omega) j)).symm
  · rw [hw 10 (by omega), s6]
    exact (sumP_congr (fun j _ => pk 6 (by omega) j)).symm
theorem sp_off (w : Row) (i k j : Nat) (v : Int32) (hk : k < 42) (hj : j < 15 + 42 * i ∨ 15 + 42 * i + 42 ≤ j) : sp w i k v j = w j := upd_ne _ _ (by omega)
/-- a washer at rest -/
theorem WH.rest {w : Row} {i t : Nat} (q : WH w i t) (v : Int32) (hv : v = 0 ∨ v = 2) : WH (sp w i 9 v) i t := by
  obtain ⟨q1, q2, ⟨wt', wm', w1, w2, w3, w4, w5⟩, np, n3, n4, n5, n6⟩ := q
  have f : ∀ k, k ≠ 9 → pt (sp w i 9 v) i k = pt w i k := fun k hk => by rw [pt_sp, if_neg hk]
  have f9 : pt (sp w i 9 v) i 9 = v := by rw [pt_sp, if_pos rfl]
  refine ⟨by rw [f 0 (by omega)]; exact q1, by rw [f9]; exact hv.elim Or.inl (fun z => Or.inr (Or.inr z)), ⟨wt', wm', by rw [f 11 (by omega)]; exact w1, by rw [f 12 (by omega)]; exact w2, w3, w4, w5⟩, np, by rw [f 15 (by omega)]; exact n3, n4, fun k hk => by rw [f _ (by omega), f _ (by omega)]; exact n5 k hk, fun z => ?_⟩
  rw [f9] at z
  rcases hv with y | y <;> (rw [y] at z; exact absurd z (by decide))
