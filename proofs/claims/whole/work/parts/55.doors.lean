/-! bail, openDoor, closeDoor -/
theorem house_pair {h : Hp} {t : Nat} {e v : Ent} {c : Nat} {u : Nat → Ent} {sn : Int32} (C : CS h e c u sn v) (Q : RS h e.1 c u sn v) (W : WFe e t ∧ (∀ k, k < c → WFe (u k) t) ∧ (sn = 0 ∨ sn = 1) ∧ (sn ≠ 0 → WFe v t)) (X : TX h) {i : Nat} (hi : i < e.2.1) (w' : Row) (r : Int32) {bc br : Hp → Rv Int32}
    (hw : ∀ j, (j < 15 + 42 * i ∨ 15 + 42 * i + 42 ≤ j) → w' j = e.1 j) (hp : ∀ k, k < 9 → pt w' i k = pt e.1 i k) (H' : WH w' i (t + 60))
    (hc : ∀ g, Sh g → WR g (2 + 8 + 2 * i) e.1 i → ∃ g', bc g = some (r, g') ∧ Fr (fun x => x = 2 + 8 + 2 * i) g g' ∧ hR g' = hR g ∧ WR g' (2 + 8 + 2 * i) w' i)
    (hr : ∀ g, Sh g → ∀ a b, br (sQ g e.1 a b) = some (r, sQ g w' a b)) :
    ∃ h1 h2, (inv h 101 1 (s_X1_record 101 2 h) fun _ g => bc g) = some (r, h1) ∧ (bnd (s_X9_record 241 h1) fun _ g => br g) = some (r, h2) ∧ REL h2 (t + 60) ∧ Sh h1 ∧ hI h1 242 = e.1 := by
  have n8 : e.2.1 ≤ 8 := W.1.1.1
  have hi8 : i < 8 := by omega
  have st2 : isSt 2 := Or.inl rfl
  obtain ⟨h1, h2, p1, p2, p3, S1, ⟨p5, -⟩⟩ := rec_pair C Q W X r (w', e.2.1, e.2.2) (Z := True) (bc := bc) (br := br) (fun g Cg => by
    obtain ⟨g', x1, x2, x3, x4⟩ := hc g Cg.1 (Cg.2.1.hr hi).w
    refine ⟨g', x1, x2.ch.mono (fun x hx => Or.inl (by rw [hx]; exact ST.W hi8)), Cg.1.of x3 x2.1 (Nat.le_of_eq x2.2.1.symm), SR.washer st2 Cg.1 Cg.2.1 hi x2.ch (fun j hj _ => hw j hj) hp x4, fun j hj => ?_, trivial⟩
    rw [(x2.2.2 238 (by omega)).1]
    exact Cg.2.2.2.2 j hj) (fun _ g Sg Qg => ⟨hI g 247, hI g 248, by
      have := hr g Sg (hI g 247) (hI g 248)
      rw [← sQ_of Qg.1] at this
      exact this, Qg.2.2.2⟩) (fun _ => WF.house hi hw (fun k hk => hp k (by omega)) H' (W.1.up (by omega)))
  rw [inv9 S1] at p2
  exact ⟨h1, h2, p1, p2, p3, S1, p5⟩
theorem WH.door {w : Row} {i t : Nat} (v : Int32) (q : WH w i t) : WH (sp w i 13 v) i t := by
  obtain ⟨q1, q2, ⟨wt', wm', w1, w2, w3, w4, w5⟩, np, n3, n4, n5, n6⟩ := q
  have f : ∀ k, k ≠ 13 → pt (sp w i 13 v) i k = pt w i k := fun k hk => by rw [pt_sp, if_neg hk]
  refine ⟨by rw [f 0 (by omega)]; exact q1, by rw [f 9 (by omega)]; exact q2, ⟨wt', wm', by rw [f 11 (by omega)]; exact w1, by rw [f 12 (by omega)]; exact w2, w3, w4, w5⟩, np, by rw [f 15 (by omega)]; exact n3, n4, fun k hk => by rw [f _ (by omega), f _ (by omega)]; exact n5 k hk, fun z => ?_⟩
  rw [f 9 (by omega)] at z
  obtain ⟨ph, p1, p2, p3⟩ := n6 z
  refine ⟨ph, p1, by rw [f 10 (by omega)]; exact p2, fun y => ?_⟩
  rw [f _ (by omega)] at y
  obtain ⟨g, m, r1, r2, r3, r4⟩ := p3 y
  exact ⟨g, m, by rw [f 14 (by omega)]; exact r1, by rw [f 16 (by omega)]; exact r2, by rw [f _ (by omega)]; exact r3, r4⟩
theorem WH.empty {w : Row} {i t : Nat} (q : WH w i t) (h9 : pt w i 9 ≠ 1) : WH (sp (sp w i 11 0) i 12 0) i t := by
  obtain ⟨q1, q2, -, np, n3, n4, n5, n6⟩ := q
  have f : ∀ k, k ≠ 11 → k ≠ 12 → pt (sp (sp w i 11 0) i 12 0) i k = pt w i k := fun k hk h2 => by rw [pt_sp, if_neg h2, pt_sp, if_neg hk]
  refine ⟨by rw [f 0 (by omega) (by omega)]; exact q1, by rw [f 9 (by omega) (by omega)]; exact q2, ⟨0, 0, by rw [pt_sp, if_neg (by omega), pt_sp, if_pos rfl]; rfl, by rw [pt_sp, if_pos rfl]; rfl, by omega, by omega, fun _ => rfl⟩, np, by rw [f 15 (by omega) (by omega)]; exact n3, n4, fun k hk => by rw [f _ (by omega) (by omega), f _ (by omega) (by omega)]; exact n5 k hk, fun z => ?_⟩
  rw [f 9 (by omega) (by omega)] at z
  exact absurd z h9
theorem WR.door {g : Hp} {i : Nat} {w : Row} (hi8 : i < 8) (v : Int32) (R : WR g (2 + 8 + 2 * i) w i) : Fr (fun x => x = 2 + 8 + 2 * i) g (sI g (2 + 8 + 2 * i) 2 v) ∧ WR (sI g (2 + 8 + 2 * i) 2 v) (2 + 8 + 2 * i) (sp w i 13 v) i := by
  obtain ⟨⟨a1, a2, a3, a4, a5, a6⟩, a7⟩ := R
  have F : Fr (fun x => x = 2 + 8 + 2 * i) g (sI g (2 + 8 + 2 * i) 2 v) := (Fr.rfl' (P := fun x => x = 2 + 8 + 2 * i)).sI _ 2 _ rfl
  refine ⟨F, ⟨?_, fun z => ?_, ?_, ?_, ?_, ?_⟩, ?_⟩
  · rw [pt_sp, if_neg (by omega), ← a1]; simp [hI_sI]
  · rw [pt_sp, if_neg (by omega)] at z
    rw [pt_sp, if_neg (by omega), pt_sp, if_neg (by omega), ← (a2 z).1, ← (a2 z).2]
    simp [hI_sI]
  · rw [pt_sp, if_neg (by omega), ← a3]; simp [hI_sI]
  · rw [pt_sp, if_neg (by omega), ← a4]; rfl
  · rw [pt_sp, if_pos rfl]; simp [hI_sI]
  · rw [pt_sp, if_neg (by omega), ← a6]; simp [hI_sI]
  · exact a7.ch F.ch (fun x hx => by rw [hx]; exact Mut_W (Or.inl rfl) hi8) (fun k k1 k2 _ _ => upd_ne _ _ (by omega))
theorem p_closeDoor (t : Nat) (a1 : Int32) : Pair (s_X8_closeDoor 1 a1) (s_X9_closeDoor 241 a1) t := by
  intro h R
  have R' := R
  obtain ⟨e, c, u, sn, v, C, Q, W, X⟩ := R
  have S := C.1
  have n8 : e.2.1 ≤ 8 := W.1.1.1
  have e2 : e.1 2 = nI e.2.1 := W.1.1.2.2.1
  have st2 : isSt 2 := Or.inl rfl
  have hh2 : hI h 242 2 = nI e.2.1 := by rw [Q.1]; exact e2
  by_cases q : inH a1 e.2.1
  · obtain ⟨i, rfl, hi⟩ := inH_of n8 q
    have hi8 : i < 8 := by omega
    have r1 : hI h (2 + 8 + 2 * i) 2 = pt e.1 i 13 := (C.2.1.hr hi).w.1.2.2.2.2.1
    have p9 := r_partH S hi8 (show 13 < 42 by omega)
    rw [Q.1, show nI 13 = 13 from rfl] at p9
    by_cases q2 : pt e.1 i 13 = 0
    · obtain ⟨h1, h2, p1, p2, p3, S1, p5⟩ := house_pair C Q W X hi (sp e.1 i 13 1) 1 (bc := fun h => putI h (2 + 8 + 2 * i) 7 2 1 fun h => retI 1 h) (br := fun h => inv h 241 9 (s_X9_setPart 241 (nI i) 13 1 h) fun _ h => retI 1 h) (fun j hj => sp_off _ _ _ _ _ (by omega) hj) (fun k hk => by rw [pt_sp, if_neg (by omega)]) (((W.1.2.2.2.2.1 i hi).mono (by omega)).door 1) (fun g Sg Rg => ⟨sI g (2 + 8 + 2 * i) 2 1, by simp only [putW Sg hi8, retI], (Rg.door hi8 1).1, rfl, (Rg.door hi8 1).2⟩) (fun g Sg a b => by
        simp only [q_inv Sg, rs_13 Sg hi8, bnd, retI])
      have p9' := r_partH S1 hi8 (show 13 < 42 by omega)
      rw [p5, show nI 13 = 13 from rfl] at p9'
      refine ⟨1, h1, h2, ?_, ?_, p3, S1⟩
      · unfold s_X8_closeDoor
        simp only [S.x0, S.x3, inv6 S, c_has S C.2.1, hasI_1 q, bnd, if_true, if_false, show ((1 : Int32) = 0) = False from eq_false (by decide), c_washerOf S st2 hi8, getW S hi8, r1, q2]
        exact p1
      · unfold s_X9_closeDoor s_X9_closeDoor_J28
        simp only [inv9 S1, r_has S1 (show hI h1 242 2 = nI e.2.1 by rw [p5]; exact e2), hasI_1 q, bnd, if_true, if_false, show ((1 : Int32) = 0) = False from eq_false (by decide), p9', q2, show ((0 : Int32) ≤ 0) = True from eq_true (by decide)]
        exact p2
    · refine Pair.same (x := fun h => _) (m := fun h => _) R' (-5) ?_ ?_
      · unfold s_X8_closeDoor
        simp only [S.x0, inv6 S, c_has S C.2.1, hasI_1 q, bnd, if_true, if_false, show ((1 : Int32) = 0) = False from eq_false (by decide), c_washerOf S st2 hi8, getW S hi8, r1, q2]
        rfl
      · unfold s_X9_closeDoor s_X9_closeDoor_J28
        simp only [inv9 S, r_has S hh2, hasI_1 q, bnd, if_true, if_false, show ((1 : Int32) = 0) = False from eq_false (by decide), p9, q2, show ((0 : Int32) ≤ -5) = False from eq_false (by decide)]
        rfl
  · refine Pair.same (x := fun h => _) (m := fun h => _) R' (-1) ?_ ?_
    · unfold s_X8_closeDoor
      simp only [S.x0, inv6 S, c_has S C.2.1, hasI_0 q, bnd, if_true, if_false]
      rfl
    · unfold s_X9_closeDoor s_X9_closeDoor_J28
      simp only [inv9 S, r_has S hh2, hasI_0 q, bnd, if_true, if_false, show ((0 : Int32) ≤ -1) = False from eq_false (by decide)]
      rfl
