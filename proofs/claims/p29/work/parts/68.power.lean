/-! power -/
def spinF (w : Row) (i : Nat) : Row := if pt w i 9 = 1 ∧ pt w i (18 + phN w i) = 115 then sp w i 14 0 else w
theorem spinF_off (w : Row) (i j : Nat) (hj : j < 15 + 42 * i ∨ 15 + 42 * i + 42 ≤ j) : spinF w i j = w j := by
  unfold spinF
  split
  · exact sp_off _ _ _ _ _ (by omega) hj
  · rfl
theorem spinF_pt (w : Row) (i k : Nat) (hk : k ≠ 14) : pt (spinF w i) i k = pt w i k := by
  unfold spinF
  split
  · rw [pt_sp, if_neg hk]
  · rfl
theorem WH.spin {w : Row} {i t : Nat} (q : WH w i t) : WH (spinF w i) i t := by
  unfold spinF
  split
  · rename_i z
    obtain ⟨q1, q2, ⟨wt', wm', w1, w2, w3, w4, w5⟩, np, n3, n4, n5, n6⟩ := q
    obtain ⟨ph, p1, p2, p3⟩ := n6 z.1
    have e0 : phN w i = ph := by unfold phN; rw [p2, nI_clamp (by omega)]; omega
    have z2 := z.2
    rw [e0] at z2
    have f : ∀ k, k ≠ 14 → pt (sp w i 14 0) i k = pt w i k := fun k hk => by rw [pt_sp, if_neg hk]
    refine ⟨by rw [f 0 (by omega)]; exact q1, by rw [f 9 (by omega)]; exact q2, ⟨wt', wm', by rw [f 11 (by omega)]; exact w1, by rw [f 12 (by omega)]; exact w2, w3, w4, w5⟩, np, by rw [f 15 (by omega)]; exact n3, n4, fun k hk => by rw [f _ (by omega), f _ (by omega)]; exact n5 k hk, fun _ => ⟨ph, p1, by rw [f 10 (by omega)]; exact p2, fun y => ?_⟩⟩
    rw [f _ (by omega), z2] at y
    exact absurd y (by decide)
  · exact q
theorem WF.spin {w : Row} {n nl t i : Nat} (hi : i < n) (F : WF w n nl t) : WF (spinF w i) n nl t :=
  WF.house hi (fun j hj => spinF_off w i j hj) (fun k hk => spinF_pt w i k (by omega)) (F.2.2.2.2.1 i hi).spin F
theorem WF.pow {w : Row} {n nl t : Nat} {v : Int32} (hv : v = 0 ∨ v = 1) (F : WF w n nl t) : WF (upd w 1 v) n nl t := by
  obtain ⟨⟨h8, h10, e2, e8⟩, hp, B, L, H, s4, s5, s6, N⟩ := F
  have hw : ∀ j, j ≠ 1 → upd w 1 v j = w j := fun j hj => upd_ne _ _ hj
  refine ⟨⟨h8, h10, by rw [hw 2 (by omega)]; exact e2, by rw [hw 8 (by omega)]; exact e8⟩, by rw [upd_eq]; exact hv, ?_, L.lo (by omega), fun i hi => (H i hi).lo (by omega), ?_, ?_, ?_, fun j hj k hk => by rw [hw _ (by omega)]; exact N j hj k hk⟩
  · unfold WB
    rw [hw 3 (by omega), hw 4 (by omega), hw 5 (by omega), hw 7 (by omega)]
    exact B
  · rw [hw 12 (by omega), s4]
    exact (sumP_congr (fun j _ => pt_upd _ _ _ _ _ (by omega))).symm
  · rw [hw 9 (by omega), s5]
    exact (sumP_congr (fun j _ => pt_upd _ _ _ _ _ (by omega))).symm
  · rw [hw 10 (by omega), s6]
    exact (sumP_congr (fun j _ => pt_upd _ _ _ _ _ (by omega))).symm
theorem c_spin {h : Hp} {i t n nl : Nat} {w : Row} (S : Sh h) (R : SR h 2 w n nl) (hi : i < n) (H : WH w i t) :
    ∃ h', s_X7_spinAnew (2 + 8 + 2 * i) h = some ((), h') ∧ Fr (fun x => x = 2 + 8 + 2 * i) h h' ∧ hR h' = hR h ∧ SR h' 2 (spinF w i) n nl := by
  have n8 := R.n8
  have hi8 : i < 8 := by omega
  have st2 : isSt 2 := Or.inl rfl
  obtain ⟨⟨a1, a2, a3, a4, a5, a6⟩, a7⟩ := (R.hr hi).w
  unfold s_X7_spinAnew spinF
  simp only [getW S hi8, a1]
  by_cases q : pt w i 9 = 1
  · obtain ⟨q1, q2, q3, np, n3, n4, n5, n6⟩ := id H
    obtain ⟨ph, p1, p2, p3⟩ := n6 q
    have e0 : phN w i = ph := by unfold phN; rw [p2, nI_clamp (by omega)]; omega
    have b := a2 (by rw [q]; decide)
    obtain ⟨o1, o2, np', o3, o4, o5, o6⟩ := id a7
    have en : np' = np := (nI_eq (by omega) (by omega)).mp (o4.symm.trans n3)
    subst en
    have hz : hR h (2 + 8 + 2 * i) 0 ≠ 0 := by
      rcases o1 with z | ⟨T, z, z2⟩ <;> omega
    have w1 := (o6 ph p1).1
    have f1 : w (15 + 42 * i + 18 + ph) = pt w i (18 + ph) := by unfold pt; rw [Nat.add_assoc (15 + 42 * i) 18 ph]
    rw [f1] at w1
    have ck : s_X4_kindOf (hR h (2 + 8 + 2 * i) 0) (nI ph) h = some (pt w i (18 + ph), h) := by
      rw [c_kindOf o5 p1 (by rw [w1]; exact (n5 ph p1).nar), w1]
    rw [e0]
    simp only [q, if_true, true_and, getR, S.tW st2 hi8, hz, ne_eq, not_false_eq_true, getI, b.1, p2, inv, o5.1, ck, bnd]
    by_cases y : pt w i (18 + ph) = 115
    · have F : Fr (fun x => x = 2 + 8 + 2 * i) h (sI h (2 + 8 + 2 * i) 4 0) := (Fr.rfl' (P := fun x => x = 2 + 8 + 2 * i)).sI _ 4 _ rfl
      refine ⟨sI h (2 + 8 + 2 * i) 4 0, ?_, F, rfl, ?_⟩
      · simp only [y, if_true, putW S hi8, retU]
      · rw [if_pos y]
        refine SR.washer st2 S R hi F.ch (fun j hj _ => sp_off _ _ _ _ _ (by omega) hj) (fun k hk => by rw [pt_sp, if_neg (by omega)]) ⟨⟨?_, fun z => ?_, ?_, ?_, ?_, ?_⟩, ?_⟩
        · rw [pt_sp, if_neg (by omega), ← a1]; simp [hI_sI]
        · rw [pt_sp, if_neg (by omega), pt_sp, if_pos rfl, ← b.1]; simp [hI_sI]
        · rw [pt_sp, if_neg (by omega), ← a3]; simp [hI_sI]
        · rw [pt_sp, if_neg (by omega), ← a4]; rfl
        · rw [pt_sp, if_neg (by omega), ← a5]; simp [hI_sI]
        · rw [pt_sp, if_neg (by omega), ← a6]; simp [hI_sI]
        · exact a7.ch F.ch (fun x hx => by rw [hx]; exact Mut_W st2 hi8) (fun k k1 k2 _ _ => upd_ne _ _ (by omega))
    · refine ⟨h, ?_, Fr.rfl', rfl, ?_⟩
      · simp only [y, if_false, retU]
      · rw [if_neg y]
        exact R
  · refine ⟨h, ?_, Fr.rfl', rfl, ?_⟩
    · simp only [q, if_false, retU]
    · rw [if_neg (fun z => q z.1)]
      exact R
