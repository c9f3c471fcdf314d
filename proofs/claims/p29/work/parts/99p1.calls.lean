/-! the class's calls, each with its answer and the state behind it -/
def CST (h : Hp) (e : Ent) : Prop := ∃ c u sn v, CS h e c u sn v
/-- the law's cells and the text stay -/
def LFr (h h' : Hp) : Prop := hN h ≤ hN h' ∧ ∀ x, 239 ≤ x → x ≤ 245 → hI h' x = hI h x
theorem LFr.rfl' {h : Hp} : LFr h h := ⟨Nat.le_refl _, fun _ _ _ => rfl⟩
theorem CST.sh {h : Hp} {e : Ent} (C : CST h e) : Sh h := by
  obtain ⟨c, u, sn, v, C⟩ := C
  exact C.1
theorem CST.sr {h : Hp} {e : Ent} (C : CST h e) : SRe h 2 e := by
  obtain ⟨c, u, sn, v, C⟩ := C
  exact C.2.1
theorem CST.z {h : Hp} {e : Ent} (C : CST h e) : ∀ i, 8 ≤ i → hI h 238 i = 0 := by
  obtain ⟨c, u, sn, v, C⟩ := C
  exact C.2.2.2.2
theorem rec_one {h : Hp} {t : Nat} {e : Ent} (C : CST h e) (W : WFe e t) (r : Int32) (e' : Ent) {Z : Prop} {bc : Hp → Rv Int32}
    (hc : ∀ g, CST g e → ∃ g', bc g = some (r, g') ∧ Ch SC g g' ∧ Sh g' ∧ SRe g' 2 e' ∧ (∀ i, 8 ≤ i → hI g' 238 i = 0) ∧ Z) :
    ∃ h1, (inv h 101 1 (s_X1_record 101 2 h) fun _ g => bc g) = some (r, h1) ∧ CST h1 e' ∧ LFr h h1 ∧ Z := by
  obtain ⟨c, u, sn, v, C⟩ := C
  have S := C.1
  obtain ⟨g, a1, a2, a3, a4, a5⟩ := c_record C W.2.1
  obtain ⟨h1, b1, b2, b4, b5, b6, z⟩ := hc g ⟨_, _, _, _, a5⟩
  have Sg := a5.1
  have hN0 : 245 ≤ hN g := Sg.2.2.2.2.2.2.2.2
  have sc : ∀ x, 239 ≤ x → x ≤ 245 → ¬ SC x := fun x h1 h2 q => by
    rcases q with q | q
    · have := q.2.1; omega
    · unfold SPP at q; omega
  refine ⟨h1, ?_, ⟨_, _, _, _, a5.step b2 b4 b5 b6⟩, ⟨by rw [← a3]; exact b2.1, fun x x1 x2 => ((b2.2.2 x (by omega) (sc x x1 x2)).1).trans (a4 x (by omega))⟩, z⟩
  simp only [inv, S.2.2.2.1.1, if_true, a1, bnd]
  exact b1
theorem house_one {h : Hp} {t : Nat} {e : Ent} (C : CST h e) (W : WFe e t) {i : Nat} (hi : i < e.2.1) (w' : Row) (r : Int32) {bc : Hp → Rv Int32}
    (hw : ∀ j, (j < 15 + 42 * i ∨ 15 + 42 * i + 42 ≤ j) → w' j = e.1 j) (hp : ∀ k, k < 9 → pt w' i k = pt e.1 i k) (H' : WH w' i t)
    (hc : ∀ g, Sh g → WR g (2 + 8 + 2 * i) e.1 i → ∃ g', bc g = some (r, g') ∧ Fr (fun x => x = 2 + 8 + 2 * i) g g' ∧ hR g' = hR g ∧ WR g' (2 + 8 + 2 * i) w' i) :
    ∃ h1, (inv h 101 1 (s_X1_record 101 2 h) fun _ g => bc g) = some (r, h1) ∧ CST h1 (w', e.2.1, e.2.2) ∧ LFr h h1 ∧ WFe (w', e.2.1, e.2.2) t := by
  have n8 : e.2.1 ≤ 8 := W.1.1
  have hi8 : i < 8 := by omega
  have st2 : isSt 2 := Or.inl rfl
  obtain ⟨h1, p1, p2, p3, -⟩ := rec_one C W r (w', e.2.1, e.2.2) (Z := True) (bc := bc) (fun g Cg => by
    obtain ⟨g', x1, x2, x3, x4⟩ := hc g Cg.sh (Cg.sr.hr hi).w
    refine ⟨g', x1, x2.ch.mono (fun x hx => Or.inl (by rw [hx]; exact ST.W hi8)), Cg.sh.of x3 x2.1 (Nat.le_of_eq x2.2.1.symm), SR.washer st2 Cg.sh Cg.sr hi x2.ch (fun j hj _ => hw j hj) hp x4, fun j hj => ?_, trivial⟩
    rw [(x2.2.2 238 (by omega)).1]
    exact Cg.z j hj)
  exact ⟨h1, p1, p2, p3, WF.house hi hw (fun k hk => hp k (by omega)) H' W⟩
/-- stop at a house that is there -/
theorem q_stop {h : Hp} {t : Nat} {e : Ent} (C : CST h e) (W : WFe e t) {i : Nat} (hi : i < e.2.1) :
    ∃ h1, s_X8_stop 1 (nI i) h = some (if pt e.1 i 9 = 0 then -5 else pt e.1 i 10, h1) ∧ CST h1 (sp e.1 i 9 0, e.2.1, e.2.2) ∧ LFr h h1 ∧ WFe (sp e.1 i 9 0, e.2.1, e.2.2) t := by
  have S := C.sh
  have n8 : e.2.1 ≤ 8 := W.1.1
  have hi8 : i < 8 := by omega
  have st2 : isSt 2 := Or.inl rfl
  have q := inH_is n8 hi
  have r1 : hI h (2 + 8 + 2 * i) 1 = pt e.1 i 9 := (C.sr.hr hi).w.1.1
  by_cases q2 : pt e.1 i 9 = 0
  · have e0 : sp e.1 i 9 0 = e.1 := by
      rw [← q2]; exact sp_self _ _ _
    rw [if_pos q2, e0]
    refine ⟨h, ?_, C, LFr.rfl', W⟩
    unfold s_X8_stop
    simp only [S.x0, inv6 S, c_has S C.sr, hasI_1 q, bnd, if_true, if_false, show ((1 : Int32) = 0) = False from eq_false (by decide), c_washerOf S st2 hi8, getW S hi8, r1, q2]
    rfl
  · rw [if_neg q2]
    obtain ⟨h1, p1, p2, p3, p4⟩ := house_one C W hi (sp e.1 i 9 0) (pt e.1 i 10) (bc := fun h => putI h (2 + 8 + 2 * i) 7 1 0 fun h => getI h (2 + 8 + 2 * i) 7 3 fun x8 => retI x8 h) (fun j hj => sp_off _ _ _ _ _ (by omega) hj) (fun k hk => by rw [pt_sp, if_neg (by omega)]) ((W.2.2.2.2.1 i hi).rest 0 (Or.inl rfl)) (fun g Sg Rg => by
      obtain ⟨⟨a1, a2, a3, a4, a5, a6⟩, a7⟩ := Rg
      have F : Fr (fun x => x = 2 + 8 + 2 * i) g (sI g (2 + 8 + 2 * i) 1 0) := (Fr.rfl' (P := fun x => x = 2 + 8 + 2 * i)).sI _ 1 _ rfl
      refine ⟨sI g (2 + 8 + 2 * i) 1 0, ?_, F, rfl, ⟨⟨?_, fun z => ?_, ?_, ?_, ?_, ?_⟩, ?_⟩⟩
      · simp only [putW Sg hi8, getW (Sg.sI _ _ _) hi8, retI, hI_sI, show ((3 : Nat) = 1) = False from eq_false (by decide), and_false, if_false, (a2 q2).1]
      · rw [hI_sI, if_pos ⟨rfl, rfl⟩, pt_sp, if_pos rfl]
      · rw [pt_sp, if_pos rfl] at z
        exact absurd rfl z
      · rw [pt_sp, if_neg (by omega), ← a3]; simp [hI_sI]
      · rw [pt_sp, if_neg (by omega), ← a4]; rfl
      · rw [pt_sp, if_neg (by omega), ← a5]; simp [hI_sI]
      · rw [pt_sp, if_neg (by omega), ← a6]; simp [hI_sI]
      · exact a7.ch F.ch (fun x hx => by rw [hx]; exact Mut_W st2 hi8) (fun k k1 k2 _ _ => upd_ne _ _ (by omega)))
    refine ⟨h1, ?_, p2, p3, p4⟩
    unfold s_X8_stop
    simp only [S.x0, S.x3, inv6 S, c_has S C.sr, hasI_1 q, bnd, if_true, if_false, show ((1 : Int32) = 0) = False from eq_false (by decide), c_washerOf S st2 hi8, getW S hi8, r1, q2]
    exact p1
/-- closeDoor at an open door -/
theorem q_closeDoor {h : Hp} {t : Nat} {e : Ent} (C : CST h e) (W : WFe e t) {i : Nat} (hi : i < e.2.1) (q2 : pt e.1 i 13 = 0) :
    ∃ h1, s_X8_closeDoor 1 (nI i) h = some (1, h1) ∧ CST h1 (sp e.1 i 13 1, e.2.1, e.2.2) ∧ LFr h h1 ∧ WFe (sp e.1 i 13 1, e.2.1, e.2.2) t := by
  have S := C.sh
  have n8 : e.2.1 ≤ 8 := W.1.1
  have hi8 : i < 8 := by omega
  have st2 : isSt 2 := Or.inl rfl
  have q := inH_is n8 hi
  have r1 : hI h (2 + 8 + 2 * i) 2 = pt e.1 i 13 := (C.sr.hr hi).w.1.2.2.2.2.1
  obtain ⟨h1, p1, p2, p3, p4⟩ := house_one C W hi (sp e.1 i 13 1) 1 (bc := fun h => putI h (2 + 8 + 2 * i) 7 2 1 fun h => retI 1 h) (fun j hj => sp_off _ _ _ _ _ (by omega) hj) (fun k hk => by rw [pt_sp, if_neg (by omega)]) ((W.2.2.2.2.1 i hi).door 1) (fun g Sg Rg => ⟨sI g (2 + 8 + 2 * i) 2 1, by simp only [putW Sg hi8, retI], (Rg.door hi8 1).1, rfl, (Rg.door hi8 1).2⟩)
  refine ⟨h1, ?_, p2, p3, p4⟩
  unfold s_X8_closeDoor
  simp only [S.x0, S.x3, inv6 S, c_has S C.sr, hasI_1 q, bnd, if_true, if_false, show ((1 : Int32) = 0) = False from eq_false (by decide), c_washerOf S st2 hi8, getW S hi8, r1, q2]
  exact p1
/-- openDoor: the answer, and the door -/
theorem q_openDoor {h : Hp} {t : Nat} (ht : t ≤ 38000) {e : Ent} (C : CST h e) (W : WFe e t) {i : Nat} (hi : i < e.2.1) :
    ∃ h1, s_X8_openDoor 1 (nI i) h = some (if pt e.1 i 13 = 2 then -4 else if pt e.1 i 13 = 0 then -5 else nI (tmpN (wtN e.1 i) (wmN e.1 i)), h1) ∧ CST h1 (if pt e.1 i 13 = 2 then e.1 else sp e.1 i 13 0, e.2.1, e.2.2) ∧ LFr h h1 ∧ WFe (if pt e.1 i 13 = 2 then e.1 else sp e.1 i 13 0, e.2.1, e.2.2) t := by
  have S := C.sh
  have n8 : e.2.1 ≤ 8 := W.1.1
  have hi8 : i < 8 := by omega
  have st2 : isSt 2 := Or.inl rfl
  have q := inH_is n8 hi
  have r1 : hI h (2 + 8 + 2 * i) 2 = pt e.1 i 13 := (C.sr.hr hi).w.1.2.2.2.2.1
  by_cases q0 : pt e.1 i 13 = 2
  · rw [if_pos q0, if_pos q0]
    refine ⟨h, ?_, C, LFr.rfl', W⟩
    unfold s_X8_openDoor
    simp only [S.x0, inv6 S, c_has S C.sr, hasI_1 q, bnd, if_true, if_false, show ((1 : Int32) = 0) = False from eq_false (by decide), c_washerOf S st2 hi8, getW S hi8, r1, q0]
    rfl
  rw [if_neg q0, if_neg q0]
  by_cases q2 : pt e.1 i 13 = 0
  · have e0 : sp e.1 i 13 0 = e.1 := by
      rw [← q2]; exact sp_self _ _ _
    rw [if_pos q2, e0]
    refine ⟨h, ?_, C, LFr.rfl', W⟩
    unfold s_X8_openDoor
    simp only [S.x0, inv6 S, c_has S C.sr, hasI_1 q, bnd, if_true, if_false, show ((1 : Int32) = 0) = False from eq_false (by decide), c_washerOf S st2 hi8, getW S hi8, r1, q2, show ((0 : Int32) = 2) = False from eq_false (by decide)]
    rfl
  · rw [if_neg q2]
    have hw0 := W.2.2.2.2.1 i hi
    have ew : wtN (sp e.1 i 13 0) i = wtN e.1 i ∧ wmN (sp e.1 i 13 0) i = wmN e.1 i := by
      unfold wtN wmN
      rw [pt_sp, if_neg (by omega), pt_sp, if_neg (by omega)]
      exact ⟨rfl, rfl⟩
    obtain ⟨h1, p1, p2, p3, p4⟩ := house_one C W hi (sp e.1 i 13 0) (nI (tmpN (wtN e.1 i) (wmN e.1 i))) (bc := fun h => putI h (2 + 8 + 2 * i) 7 2 0 fun h => inv h (2 + 8 + 2 * i) 7 (s_X7_temperature (2 + 8 + 2 * i) h) fun x9 h => retI x9 h) (fun j hj => sp_off _ _ _ _ _ (by omega) hj) (fun k hk => by rw [pt_sp, if_neg (by omega)]) (hw0.door 0) (fun g Sg Rg => ⟨sI g (2 + 8 + 2 * i) 2 0, by
        have ct := c_tmp (Sg.sI (2 + 8 + 2 * i) 2 0) hi8 (hw0.door 0) (by omega) (Rg.door hi8 0).2
        rw [ew.1, ew.2] at ct
        simp only [putW Sg hi8, invW (Sg.sI _ _ _) hi8, ct, bnd, retI], (Rg.door hi8 0).1, rfl, (Rg.door hi8 0).2⟩)
    refine ⟨h1, ?_, p2, p3, p4⟩
    unfold s_X8_openDoor
    simp only [S.x0, S.x3, inv6 S, c_has S C.sr, hasI_1 q, bnd, if_true, if_false, show ((1 : Int32) = 0) = False from eq_false (by decide), c_washerOf S st2 hi8, getW S hi8, r1, q0, q2]
    exact p1
/-- start: whether it can, the answer, the row -/
def canS (w : Row) (i : Nat) : Prop := w 1 ≠ 0 ∧ pt w i 15 ≠ 0 ∧ pt w i 9 = 0 ∧ pt w i 13 ≠ 0
theorem q_start {h : Hp} {t : Nat} {e : Ent} (C : CST h e) (W : WFe e t) {i : Nat} (hi : i < e.2.1) :
    (canS e.1 i → ∃ h1, s_X8_start 1 (nI i) h = some (pt e.1 i 15, h1) ∧ CST h1 (begF e.1 i, e.2.1, e.2.2) ∧ LFr h h1 ∧ WFe (begF e.1 i, e.2.1, e.2.2) t) ∧
    (¬ canS e.1 i → s_X8_start 1 (nI i) h = some (-4, h)) := by
  have S := C.sh
  have n8 : e.2.1 ≤ 8 := W.1.1
  have hi8 : i < 8 := by omega
  have st2 : isSt 2 := Or.inl rfl
  have q := inH_is n8 hi
  have h7 : hI h 2 7 = e.1 1 := C.sr.2.1.2.2.2.2.1
  have WRi := (C.sr.hr hi).w
  have r1 : hI h (2 + 8 + 2 * i) 1 = pt e.1 i 9 := WRi.1.1
  have r2 : hI h (2 + 8 + 2 * i) 2 = pt e.1 i 13 := WRi.1.2.2.2.2.1
  have hw0 := W.2.2.2.2.1 i hi
  obtain ⟨np, n3, n4, -⟩ := hw0.2.2.2
  have hle : (pt e.1 i 15 ≤ 0) = (pt e.1 i 15 = 0) := by
    rw [n3, show (0 : Int32) = nI 0 from rfl, nI_leE (by omega) (by omega), nI_eqE (by omega) (by omega)]
    exact propext Nat.le_zero
  have cs : s_X7_canStart (2 + 8 + 2 * i) h = some (if pt e.1 i 15 = 0 then 0 else if pt e.1 i 9 = 0 then (if pt e.1 i 13 = 0 then 0 else 1) else 0, h) := by
    unfold s_X7_canStart
    rw [WRi.len S hi8]
    simp only [hle, getW S hi8, r1, r2, retZ]
    by_cases z1 : pt e.1 i 15 = 0
    · simp [z1]
    · by_cases z2 : pt e.1 i 9 = 0
      · by_cases z3 : pt e.1 i 13 = 0
        · simp [z1, z2, z3]
        · simp [z1, z2, z3]
      · simp [z1, z2]
  refine ⟨fun ok => ?_, fun ok => ?_⟩
  · obtain ⟨k1, k2, k3, k4⟩ := ok
    obtain ⟨h1, p1, p2, p3, p4⟩ := house_one C W hi (begF e.1 i) (pt e.1 i 15) (bc := fun h => inv h (2 + 8 + 2 * i) 7 (s_X7_begin (2 + 8 + 2 * i) h) fun _ h => getR h (2 + 8 + 2 * i) 7 0 fun x10 => getI h x10 4 0 fun x11 => retI x11 h) (fun j hj => begF_off _ _ _ hj) (fun k hk => begF_pt _ _ (by omega) (by omega) (by omega) (by omega) (by omega)) (hw0.begin' k2) (fun g Sg Rg => by
        obtain ⟨f1, f2⟩ := Rg.begin' hi8
        refine ⟨_, ?_, f1, rfl, f2⟩
        have Sg' : Sh (sI (sI (sI (sI g (2 + 8 + 2 * i) 1 1) (2 + 8 + 2 * i) 2 2) (2 + 8 + 2 * i) 3 0) (2 + 8 + 2 * i) 4 0) := Sg
        have ln := f2.len Sg' hi8 (fun x11 => retI x11 (sI (sI (sI (sI g (2 + 8 + 2 * i) 1 1) (2 + 8 + 2 * i) 2 2) (2 + 8 + 2 * i) 3 0) (2 + 8 + 2 * i) 4 0))
        unfold s_X7_begin
        simp only [invW Sg hi8, putW Sg hi8, putW (Sg.sI _ _ _) hi8, putW ((Sg.sI _ _ _).sI _ _ _) hi8, putW (((Sg.sI _ _ _).sI _ _ _).sI _ _ _) hi8, retU, bnd]
        refine ln.trans ?_
        rw [begF_pt _ _ (by omega) (by omega) (by omega) (by omega) (by omega)]
        rfl)
    refine ⟨h1, ?_, p2, p3, p4⟩
    unfold s_X8_start
    simp only [S.x0, S.x3, inv6 S, invW S hi8, get6 S, c_has S C.sr, hasI_1 q, bnd, if_true, if_false, show ((1 : Int32) = 0) = False from eq_false (by decide), c_washerOf S st2 hi8, h7, k1, cs, k2, k3, k4]
    exact p1
  · have cs0 : e.1 1 ≠ 0 → s_X7_canStart (2 + 8 + 2 * i) h = some (0, h) := fun k1 => by
      rw [cs]
      by_cases z1 : pt e.1 i 15 = 0
      · rw [if_pos z1]
      · rw [if_neg z1]
        by_cases z2 : pt e.1 i 9 = 0
        · rw [if_pos z2]
          by_cases z3 : pt e.1 i 13 = 0
          · rw [if_pos z3]
          · exact absurd ⟨k1, z1, z2, z3⟩ ok
        · rw [if_neg z2]
    unfold s_X8_start
    simp only [S.x0, inv6 S, invW S hi8, get6 S, c_has S C.sr, hasI_1 q, bnd, if_true, if_false, show ((1 : Int32) = 0) = False from eq_false (by decide), c_washerOf S st2 hi8, h7]
    by_cases k1 : e.1 1 = 0
    · rw [if_pos k1]
      rfl
    · rw [if_neg k1, cs0 k1]
      rfl
