/-! openDoor, bail -/
theorem putWL {h : Hp} (S : Sh h) {i : Nat} (hi : i < 8) {α : Type} (k : Nat) (v : Int64) (f : Hp → Option α) : putL h (2 + 8 + 2 * i) 7 k v f = f (sL h (2 + 8 + 2 * i) k v) := by
  simp only [putL, S.tW (show isSt 2 from Or.inl rfl) hi, if_true]
theorem c_tmp {g : Hp} {i t : Nat} {w : Row} (S : Sh g) (hi : i < 8) (H : WH w i t) (ht : t ≤ 40000) (R : WR g (2 + 8 + 2 * i) w i) : s_X7_temperature (2 + 8 + 2 * i) g = some (nI (tmpN (wtN w i) (wmN w i)), g) := by
  obtain ⟨wt, wm, hq⟩ := H.hw ht
  obtain ⟨n1, n2⟩ := hq.n
  obtain ⟨q1, q2, q3, q4⟩ := hq
  rw [n1, n2]
  exact c_temperature (S.tW (Or.inl rfl) hi) (R.1.2.2.1.trans q1) (by rw [R.1.2.2.2.1, q2, nI_l (by omega)]) (by omega) (by omega)
theorem r_tmp {h : Hp} {i t : Nat} {w : Row} (S : Sh h) (hi : i < 8) (H : WH w i t) (ht : t ≤ 40000) (a b : Row) : s_X9_temperature 241 (nI i) (sQ h w a b) = some (nI (tmpN (wtN w i) (wmN w i)), sQ h w a b) := by
  obtain ⟨wt, wm, hq⟩ := H.hw ht
  obtain ⟨n1, n2⟩ := hq.n
  obtain ⟨q1, q2, q3, q4⟩ := hq
  rw [n1, n2]
  exact r_temperature S hi q1 q2 (by omega) (by omega) a b
theorem p_openDoor (t : Nat) (ht : t ≤ 38000) (a1 : Int32) : Pair (s_X8_openDoor 1 a1) (s_X9_openDoor 241 a1) t := by
  intro h R
  have R' := R
  obtain ⟨e, c, u, sn, v, C, Q, W, X⟩ := R
  have S := C.1
  have n8 : e.2.1 ≤ 8 := W.1.1.1
  have e2 : e.1 2 = nI e.2.1 := W.1.1.2.2.1
  have st2 : isSt 2 := Or.inl rfl
  have hh2 : hI h 242 2 = nI e.2.1 := by rw [Q.1]; exact e2
  by_cases q : inH a1 e.2.1
  · obtain ⟨i, rfl, hi⟩ := inH_of n8 q
    have hi8 : i < 8 := by omega
    have r1 : hI h (2 + 8 + 2 * i) 2 = pt e.1 i 13 := (C.2.1.hr hi).w.1.2.2.2.2.1
    have p9 := r_partH S hi8 (show 13 < 42 by omega)
    rw [Q.1, show nI 13 = 13 from rfl] at p9
    by_cases q0 : pt e.1 i 13 = 2
    · refine Pair.same (x := fun h => _) (m := fun h => _) R' (-4) ?_ ?_
      · unfold s_X8_openDoor
        simp only [S.x0, inv6 S, c_has S C.2.1, hasI_1 q, bnd, if_true, if_false, show ((1 : Int32) = 0) = False from eq_false (by decide), c_washerOf S st2 hi8, getW S hi8, r1, q0]
        rfl
      · unfold s_X9_openDoor s_X9_openDoor_J44
        simp only [inv9 S, r_has S hh2, hasI_1 q, bnd, if_true, if_false, show ((1 : Int32) = 0) = False from eq_false (by decide), p9, q0, show ((0 : Int32) ≤ -4) = False from eq_false (by decide)]
        rfl
    by_cases q2 : pt e.1 i 13 = 0
    · refine Pair.same (x := fun h => _) (m := fun h => _) R' (-5) ?_ ?_
      · unfold s_X8_openDoor
        simp only [S.x0, inv6 S, c_has S C.2.1, hasI_1 q, bnd, if_true, if_false, show ((1 : Int32) = 0) = False from eq_false (by decide), c_washerOf S st2 hi8, getW S hi8, r1, q2, show ((0 : Int32) = 2) = False from eq_false (by decide)]
        rfl
      · unfold s_X9_openDoor s_X9_openDoor_J44
        simp only [inv9 S, r_has S hh2, hasI_1 q, bnd, if_true, if_false, show ((1 : Int32) = 0) = False from eq_false (by decide), p9, q2, show ((0 : Int32) = 2) = False from eq_false (by decide), show ((0 : Int32) ≤ -5) = False from eq_false (by decide)]
        rfl
    · have hw0 := W.1.2.2.2.2.1 i hi
      have ew : wtN (sp e.1 i 13 0) i = wtN e.1 i ∧ wmN (sp e.1 i 13 0) i = wmN e.1 i := by
        unfold wtN wmN
        rw [pt_sp, if_neg (by omega), pt_sp, if_neg (by omega)]
        exact ⟨rfl, rfl⟩
      obtain ⟨h1, h2, p1, p2, p3, S1, p5⟩ := house_pair C Q W X hi (sp e.1 i 13 0) (nI (tmpN (wtN e.1 i) (wmN e.1 i))) (bc := fun h => putI h (2 + 8 + 2 * i) 7 2 0 fun h => inv h (2 + 8 + 2 * i) 7 (s_X7_temperature (2 + 8 + 2 * i) h) fun x9 h => retI x9 h) (br := fun h => inv h 241 9 (s_X9_setPart 241 (nI i) 13 0 h) fun _ h => inv h 241 9 (s_X9_temperature 241 (nI i) h) fun x4 h => retI x4 h) (fun j hj => sp_off _ _ _ _ _ (by omega) hj) (fun k hk => by rw [pt_sp, if_neg (by omega)]) ((hw0.mono (by omega)).door 0) (fun g Sg Rg => ⟨sI g (2 + 8 + 2 * i) 2 0, by
          have ct := c_tmp (Sg.sI (2 + 8 + 2 * i) 2 0) hi8 (hw0.door 0) (by omega) (Rg.door hi8 0).2
          rw [ew.1, ew.2] at ct
          simp only [putW Sg hi8, invW (Sg.sI _ _ _) hi8, ct, bnd, retI], (Rg.door hi8 0).1, rfl, (Rg.door hi8 0).2⟩) (fun g Sg a b => by
        have ct := r_tmp Sg hi8 (hw0.door 0) (by omega) a b
        rw [ew.1, ew.2] at ct
        simp only [q_inv Sg, rs_13 Sg hi8, bnd, ct, retI])
      have p9' := r_partH S1 hi8 (show 13 < 42 by omega)
      rw [p5, show nI 13 = 13 from rfl] at p9'
      refine ⟨nI (tmpN (wtN e.1 i) (wmN e.1 i)), h1, h2, ?_, ?_, p3, S1⟩
      · unfold s_X8_openDoor
        simp only [S.x0, S.x3, inv6 S, c_has S C.2.1, hasI_1 q, bnd, if_true, if_false, show ((1 : Int32) = 0) = False from eq_false (by decide), c_washerOf S st2 hi8, getW S hi8, r1, q0, q2]
        exact p1
      · unfold s_X9_openDoor s_X9_openDoor_J44
        simp only [inv9 S1, r_has S1 (show hI h1 242 2 = nI e.2.1 by rw [p5]; exact e2), hasI_1 q, bnd, if_true, if_false, show ((1 : Int32) = 0) = False from eq_false (by decide), p9', q0, q2, show ((0 : Int32) ≤ 0) = True from eq_true (by decide)]
        exact p2
  · refine Pair.same (x := fun h => _) (m := fun h => _) R' (-1) ?_ ?_
    · unfold s_X8_openDoor
      simp only [S.x0, inv6 S, c_has S C.2.1, hasI_0 q, bnd, if_true, if_false]
      rfl
    · unfold s_X9_openDoor s_X9_openDoor_J44
      simp only [inv9 S, r_has S hh2, hasI_0 q, bnd, if_true, if_false, show ((0 : Int32) ≤ -1) = False from eq_false (by decide)]
      rfl
theorem WR.empty {g : Hp} {i : Nat} {w : Row} (hi8 : i < 8) (R : WR g (2 + 8 + 2 * i) w i) : Fr (fun x => x = 2 + 8 + 2 * i) g (sL (sI g (2 + 8 + 2 * i) 5 0) (2 + 8 + 2 * i) 6 0) ∧ WR (sL (sI g (2 + 8 + 2 * i) 5 0) (2 + 8 + 2 * i) 6 0) (2 + 8 + 2 * i) (sp (sp w i 11 0) i 12 0) i := by
  obtain ⟨⟨a1, a2, a3, a4, a5, a6⟩, a7⟩ := R
  have F : Fr (fun x => x = 2 + 8 + 2 * i) g (sL (sI g (2 + 8 + 2 * i) 5 0) (2 + 8 + 2 * i) 6 0) := ((Fr.rfl' (P := fun x => x = 2 + 8 + 2 * i)).sI _ 5 _ rfl).sL _ 6 _ rfl
  have f : ∀ k, k ≠ 11 → k ≠ 12 → pt (sp (sp w i 11 0) i 12 0) i k = pt w i k := fun k hk h2 => by rw [pt_sp, if_neg h2, pt_sp, if_neg hk]
  refine ⟨F, ⟨?_, fun z => ?_, ?_, ?_, ?_, ?_⟩, ?_⟩
  · rw [f 9 (by omega) (by omega), ← a1]; simp [hI_sI, hI_sL]
  · rw [f 9 (by omega) (by omega)] at z
    rw [f 10 (by omega) (by omega), f 14 (by omega) (by omega), ← (a2 z).1, ← (a2 z).2]
    simp [hI_sI, hI_sL]
  · rw [pt_sp, if_neg (by omega), pt_sp, if_pos rfl]; simp [hI_sI, hI_sL]
  · rw [pt_sp, if_pos rfl, hL_sL, if_pos ⟨rfl, rfl⟩]; rfl
  · rw [f 13 (by omega) (by omega), ← a5]; simp [hI_sI, hI_sL]
  · rw [f 17 (by omega) (by omega), ← a6]; simp [hI_sI, hI_sL]
  · exact a7.ch F.ch (fun x hx => by rw [hx]; exact Mut_W (Or.inl rfl) hi8) (fun k k1 k2 _ _ => (upd_ne _ _ (by omega)).trans (upd_ne _ _ (by omega)))
theorem r_runsH {h : Hp} (S : Sh h) {i : Nat} (hi : i < 8) : s_X9_runs 241 (nI i) h = some (if pt (hI h 242) i 9 = 1 then 1 else 0, h) := by
  have := r_runs S hi (hI h 242) (hI h 247) (hI h 248)
  rwa [sQ_self] at this
theorem p_bail (t : Nat) (a1 : Int32) : Pair (s_X8_bail 1 a1) (s_X9_bail 241 a1) t := by
  intro h R
  have R' := R
  obtain ⟨e, c, u, sn, v, C, Q, W, X⟩ := R
  have S := C.1
  have n8 : e.2.1 ≤ 8 := W.1.1.1
  have e2 : e.1 2 = nI e.2.1 := W.1.1.2.2.1
  have st2 : isSt 2 := Or.inl rfl
  have hh2 : hI h 242 2 = nI e.2.1 := by rw [Q.1]; exact e2
  by_cases q : inH a1 e.2.1
  · obtain ⟨i, rfl, hi⟩ := inH_of n8 q
    have hi8 : i < 8 := by omega
    have r1 : hI h (2 + 8 + 2 * i) 1 = pt e.1 i 9 := (C.2.1.hr hi).w.1.1
    have r5 : hI h (2 + 8 + 2 * i) 5 = pt e.1 i 11 := (C.2.1.hr hi).w.1.2.2.1
    have p9 := r_runsH S hi8
    have p11 := r_partH S hi8 (show 11 < 42 by omega)
    rw [Q.1] at p9
    rw [Q.1, show nI 11 = 11 from rfl] at p11
    by_cases q0 : pt e.1 i 9 = 1
    · refine Pair.same (x := fun h => _) (m := fun h => _) R' (-4) ?_ ?_
      · unfold s_X8_bail
        simp only [S.x0, inv6 S, c_has S C.2.1, hasI_1 q, bnd, if_true, if_false, show ((1 : Int32) = 0) = False from eq_false (by decide), c_washerOf S st2 hi8, getW S hi8, r1, q0]
        rfl
      · unfold s_X9_bail s_X9_bail_J41
        simp only [inv9 S, r_has S hh2, hasI_1 q, bnd, if_true, if_false, show ((1 : Int32) = 0) = False from eq_false (by decide), p9, q0, show ((0 : Int32) ≤ -4) = False from eq_false (by decide)]
        rfl
    by_cases q2 : pt e.1 i 11 = 0
    · refine Pair.same (x := fun h => _) (m := fun h => _) R' (-5) ?_ ?_
      · unfold s_X8_bail
        simp only [S.x0, inv6 S, c_has S C.2.1, hasI_1 q, bnd, if_true, if_false, show ((1 : Int32) = 0) = False from eq_false (by decide), c_washerOf S st2 hi8, getW S hi8, r1, r5, q0, q2]
        rfl
      · unfold s_X9_bail s_X9_bail_J41
        simp only [inv9 S, r_has S hh2, hasI_1 q, bnd, if_true, if_false, show ((1 : Int32) = 0) = False from eq_false (by decide), p9, p11, q0, q2, show ((0 : Int32) ≤ -5) = False from eq_false (by decide)]
        rfl
    · obtain ⟨h1, h2, p1, p2, p3, S1, p5⟩ := house_pair C Q W X hi (sp (sp e.1 i 11 0) i 12 0) (pt e.1 i 11) (bc := fun h => getI h (2 + 8 + 2 * i) 7 5 fun x9 => putI h (2 + 8 + 2 * i) 7 5 0 fun h => putL h (2 + 8 + 2 * i) 7 6 0 fun h => retI x9 h) (br := fun h => inv h 241 9 (s_X9_part 241 (nI i) 11 h) fun x4 h => inv h 241 9 (s_X9_setPart 241 (nI i) 11 0 h) fun _ h => inv h 241 9 (s_X9_setPart 241 (nI i) 12 0 h) fun _ h => retI x4 h) (fun j hj => (sp_off _ _ _ _ _ (by omega) hj).trans (sp_off _ _ _ _ _ (by omega) hj)) (fun k hk => by rw [pt_sp, if_neg (by omega), pt_sp, if_neg (by omega)]) (((W.1.2.2.2.2.1 i hi).mono (by omega)).empty q0) (fun g Sg Rg => ⟨sL (sI g (2 + 8 + 2 * i) 5 0) (2 + 8 + 2 * i) 6 0, by
          simp only [getW Sg hi8, putW Sg hi8, putWL (Sg.sI _ _ _) hi8, Rg.1.2.2.1, retI], (Rg.empty hi8).1, rfl, (Rg.empty hi8).2⟩) (fun g Sg a b => by
        simp only [q_inv Sg, rp_11 Sg hi8, rs_11 Sg hi8, rs_12 Sg hi8, bnd, retI])
      have p9' := r_runsH S1 hi8
      have p11' := r_partH S1 hi8 (show 11 < 42 by omega)
      rw [p5] at p9'
      rw [p5, show nI 11 = 11 from rfl] at p11'
      refine ⟨pt e.1 i 11, h1, h2, ?_, ?_, p3, S1⟩
      · unfold s_X8_bail
        simp only [S.x0, S.x3, inv6 S, c_has S C.2.1, hasI_1 q, bnd, if_true, if_false, show ((1 : Int32) = 0) = False from eq_false (by decide), c_washerOf S st2 hi8, getW S hi8, r1, r5, q0, q2]
        exact p1
      · unfold s_X9_bail s_X9_bail_J41
        simp only [inv9 S1, r_has S1 (show hI h1 242 2 = nI e.2.1 by rw [p5]; exact e2), hasI_1 q, bnd, if_true, if_false, show ((1 : Int32) = 0) = False from eq_false (by decide), p9', p11', q0, q2, show ((0 : Int32) ≤ 0) = True from eq_true (by decide)]
        exact p2
  · refine Pair.same (x := fun h => _) (m := fun h => _) R' (-1) ?_ ?_
    · unfold s_X8_bail
      simp only [S.x0, inv6 S, c_has S C.2.1, hasI_0 q, bnd, if_true, if_false]
      rfl
    · unfold s_X9_bail s_X9_bail_J41
      simp only [inv9 S, r_has S hh2, hasI_0 q, bnd, if_true, if_false, show ((0 : Int32) ≤ -1) = False from eq_false (by decide)]
      rfl
