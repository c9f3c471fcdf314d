/-! bail, openDoor, closeDoor -/
theorem WH.door {w : Row} {i t : Nat} (v : Int32) (q : WH w i t) : WH (sp w i 13 v) i t := by
  obtain ⟨q1, q2, ⟨wt', wm', w1, w2, w3, w4, w5⟩, np, n3, n4, n5, n6⟩ := q
  have f : ∀ k, k ≠ 13 → pt (sp w i 13 v) i k = pt w i k := fun k hk => by rw [pt_sp, if_neg hk]
  refine ⟨by rw [f 0 (by omega)]; exact q1, by rw [f 9 (by omega)]; exact q2, ⟨wt', wm', by rw [f 11 (by omega)]; exact w1, by rw [f 12 (by omega)]; exact w2, w3, w4, w5⟩, np, by rw [f 15 (by omega)]; exact n3, n4, fun k hk => by rw [f _ (by omega), f _ (by omega)]; exact n5 k hk, fun z => ?_⟩
  rw [f 9 (by omega)] at z
  obtain ⟨ph, p1, p2, p3⟩ := n6 z
  refine ⟨ph, p1, by rw [f 10 (by omega)]; exact p2, fun y => ?_⟩
  rw [f _ (by omega)] at y
  obtain ⟨g, m, r1, r2, r3, r4⟩ := p3 y
  exact ⟨g, m, by rw [f 14 (by omega)]; exact r1, by rw [f 16 (by omega)]; exact r2, by rw [f _ (by omega)]; exact r3, r4⟩
theorem WH.empty {w : Row} {i t : Nat} (q : WH w i t) (h9 : pt w i 9 ≠ 1) : WH (sp (sp w i 11 0) i 12 0) i t := by
  obtain ⟨q1, q2, -, np, n3, n4, n5, n6⟩ := q
  have f : ∀ k, k ≠ 11 → k ≠ 12 → pt (sp (sp w i 11 0) i 12 0) i k = pt w i k := fun k hk h2 => by rw [pt_sp, if_neg h2, pt_sp, if_neg hk]
  refine ⟨by rw [f 0 (by omega) (by omega)]; exact q1, by rw [f 9 (by omega) (by omega)]; exact q2, ⟨0, 0, by rw [pt_sp, if_neg (by omega), pt_sp, if_pos rfl]; rfl, by rw [pt_sp, if_pos rfl]; rfl, by omega, by omega, fun _ => rfl⟩, np, by rw [f 15 (by omega) (by omega)]; exact n3, n4, fun k hk => by rw [f _ (by omega) (by omega), f _ (by omega) (by omega)]; exact n5 k hk, fun z => ?_⟩
  rw [f 9 (by omega) (by omega)] at z
  exact absurd z h9
theorem WR.door {g : Hp} {i : Nat} {w : Row} (hi8 : i < 8) (v : Int32) (R : WR g (2 + 8 + 2 * i) w i) : Fr (fun x => x = 2 + 8 + 2 * i) g (sI g (2 + 8 + 2 * i) 2 v) ∧ WR (sI g (2 + 8 + 2 * i) 2 v) (2 + 8 + 2 * i) (sp w i 13 v) i := by
  obtain ⟨⟨a1, a2, a3, a4, a5, a6⟩, a7⟩ := R
  have F : Fr (fun x => x = 2 + 8 + 2 * i) g (sI g (2 + 8 + 2 * i) 2 v) := (Fr.rfl' (P := fun x => x = 2 + 8 + 2 * i)).sI _ 2 _ rfl
  refine ⟨F, ⟨?_, fun z => ?_, ?_, ?_, ?_, ?_⟩, ?_⟩
  · rw [pt_sp, if_neg (by omega), ← a1]; simp [hI_sI]
  · rw [pt_sp, if_neg (by omega)] at z
    rw [pt_sp, if_neg (by omega), pt_sp, if_neg (by omega), ← (a2 z).1, ← (a2 z).2]
    simp [hI_sI]
  · rw [pt_sp, if_neg (by omega), ← a3]; simp [hI_sI]
  · rw [pt_sp, if_neg (by omega), ← a4]; rfl
  · rw [pt_sp, if_pos rfl]; simp [hI_sI]
  · rw [pt_sp, if_neg (by omega), ← a6]; simp [hI_sI]
  · exact a7.ch F.ch (fun x hx => by rw [hx]; exact Mut_W (Or.inl rfl) hi8) (fun k k1 k2 _ _ => upd_ne _ _ (by omega))
