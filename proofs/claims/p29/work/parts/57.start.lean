/-! start -/
def begF (w : Row) (i : Nat) : Row := sp (sp (sp (sp (sp w i 9 1) i 13 2) i 10 0) i 14 0) i 16 0
theorem begF_pt (w : Row) (i : Nat) {k : Nat} (h9 : k ≠ 9) (h13 : k ≠ 13) (h10 : k ≠ 10) (h14 : k ≠ 14) (h16 : k ≠ 16) : pt (begF w i) i k = pt w i k := by
  unfold begF
  rw [pt_sp, if_neg h16, pt_sp, if_neg h14, pt_sp, if_neg h10, pt_sp, if_neg h13, pt_sp, if_neg h9]
theorem begF_9 (w : Row) (i : Nat) : pt (begF w i) i 9 = 1 ∧ pt (begF w i) i 13 = 2 ∧ pt (begF w i) i 10 = 0 ∧ pt (begF w i) i 14 = 0 ∧ pt (begF w i) i 16 = 0 := by
  unfold begF
  simp only [pt_sp]
  simp
theorem begF_off (w : Row) (i j : Nat) (hj : j < 15 + 42 * i ∨ 15 + 42 * i + 42 ≤ j) : begF w i j = w j := by
  unfold begF
  rw [sp_off _ _ _ _ _ (by omega) hj, sp_off _ _ _ _ _ (by omega) hj, sp_off _ _ _ _ _ (by omega) hj, sp_off _ _ _ _ _ (by omega) hj, sp_off _ _ _ _ _ (by omega) hj]
theorem WH.begin' {w : Row} {i t : Nat} (q : WH w i t) (h15 : pt w i 15 ≠ 0) : WH (begF w i) i t := by
  obtain ⟨q1, q2, ⟨wt', wm', w1, w2, w3, w4, w5⟩, np, n3, n4, n5, n6⟩ := q
  obtain ⟨b1, b2, b3, b4, b5⟩ := begF_9 w i
  have hnp : 0 < np := by
    rcases Nat.eq_zero_or_pos np with z | z
    · rw [z] at n3
      exact absurd n3 h15
    · exact z
  have f : ∀ k, 17 ≤ k → pt (begF w i) i k = pt w i k := fun k hk => begF_pt w i (by omega) (by omega) (by omega) (by omega) (by omega)
  refine ⟨by rw [begF_pt w i (by omega) (by omega) (by omega) (by omega) (by omega)]; exact q1, Or.inr (Or.inl b1), ⟨wt', wm', by rw [begF_pt w i (by omega) (by omega) (by omega) (by omega) (by omega)]; exact w1, by rw [begF_pt w i (by omega) (by omega) (by omega) (by omega) (by omega)]; exact w2, w3, w4, w5⟩, np, by rw [begF_pt w i (by omega) (by omega) (by omega) (by omega) (by omega)]; exact n3, n4, fun k hk => by rw [f _ (by omega), f _ (by omega)]; exact n5 k hk, fun _ => ⟨0, hnp, b3, fun y => ?_⟩⟩
  rw [f _ (by omega)] at y
  obtain ⟨-, x, x1, x2, x3⟩ := n5 0 hnp
  have := x3 y
  exact ⟨0, x, b4, b5, by rw [f _ (by omega)]; exact x1, by omega, x2⟩
theorem WR.begin' {g : Hp} {i : Nat} {w : Row} (hi8 : i < 8) (R : WR g (2 + 8 + 2 * i) w i) : Fr (fun x => x = 2 + 8 + 2 * i) g (sI (sI (sI (sI g (2 + 8 + 2 * i) 1 1) (2 + 8 + 2 * i) 2 2) (2 + 8 + 2 * i) 3 0) (2 + 8 + 2 * i) 4 0) ∧ WR (sI (sI (sI (sI g (2 + 8 + 2 * i) 1 1) (2 + 8 + 2 * i) 2 2) (2 + 8 + 2 * i) 3 0) (2 + 8 + 2 * i) 4 0) (2 + 8 + 2 * i) (begF w i) i := by
  obtain ⟨⟨a1, a2, a3, a4, a5, a6⟩, a7⟩ := R
  obtain ⟨b1, b2, b3, b4, b5⟩ := begF_9 w i
  have F : Fr (fun x => x = 2 + 8 + 2 * i) g (sI (sI (sI (sI g (2 + 8 + 2 * i) 1 1) (2 + 8 + 2 * i) 2 2) (2 + 8 + 2 * i) 3 0) (2 + 8 + 2 * i) 4 0) := ((((Fr.rfl' (P := fun x => x = 2 + 8 + 2 * i)).sI _ 1 _ rfl).sI _ 2 _ rfl).sI _ 3 _ rfl).sI _ 4 _ rfl
  refine ⟨F, ⟨?_, fun z => ?_, ?_, ?_, ?_, ?_⟩, ?_⟩
  · rw [b1]; simp [hI_sI]
  · rw [b3, b4]; simp [hI_sI]
  · rw [begF_pt w i (by omega) (by omega) (by omega) (by omega) (by omega), ← a3]; simp [hI_sI]
  · rw [begF_pt w i (by omega) (by omega) (by omega) (by omega) (by omega), ← a4]; rfl
  · rw [b2]; simp [hI_sI]
  · rw [begF_pt w i (by omega) (by omega) (by omega) (by omega) (by omega), ← a6]; simp [hI_sI]
  · exact a7.ch F.ch (fun x hx => by rw [hx]; exact Mut_W (Or.inl rfl) hi8) (fun k k1 k2 k3 k4 => begF_pt w i (k := k) (by omega) (by omega) (by omega) (by omega) (by omega))
/-- how many phases a washer's program has -/
theorem WR.len {g : Hp} {i : Nat} {w : Row} (S : Sh g) (hi8 : i < 8) (R : WR g (2 + 8 + 2 * i) w i) {α : Type} (f : Int32 → Option α) : (getR g (2 + 8 + 2 * i) 7 0 fun x1 => getI g x1 4 0 f) = f (pt w i 15) := by
  obtain ⟨p1, p2, np, q1, q2, q3, q4⟩ := R.2
  have h0 : hR g (2 + 8 + 2 * i) 0 ≠ 0 := by
    rcases p1 with z | ⟨T, z, z2⟩ <;> omega
  simp only [getR, getI, S.tW (show isSt 2 from Or.inl rfl) hi8, q3.1, h0, true_and, ne_eq, not_false_eq_true, if_true, q3.2.2.2.1]
  rw [← q2]
  rfl
