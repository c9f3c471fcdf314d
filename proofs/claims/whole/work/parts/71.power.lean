/-! power, both sides -/
theorem r_powAll {g : Hp} (S : Sh g) {w a b : Row} {n nl t : Nat} {v : Int32} (F : WF (powR w n v) n nl t) (F1 : WF (upd w 1 v) n nl t) : s_X9_power_L36 100000 241 v 0 (sQ g (upd w 1 v) a b) = some (sumL (isF (powR w n v) 9 1) n 0 0, sQ g (powR w n v) a b) := by
  have n8 := F.1.1
  by_cases q : v = 0
  · subst q
    have e : powR w n 0 = upd w 1 0 := if_pos rfl
    rw [e]
    have hw : s_X9_washersIn 241 1 (sQ g (upd w 1 0) a b) = some (sumL (isF (upd w 1 0) 9 1) n 0 0, sQ g (upd w 1 0) a b) := r_washersInL S n8 F1.1.2.2.1 1 n 0 100000 0 (by omega) (by omega)
    have key : ∀ m, s_X9_power_L36 (m + 1) 241 0 0 (sQ g (upd w 1 0) a b) = some (sumL (isF (upd w 1 0) 9 1) n 0 0, sQ g (upd w 1 0) a b) := fun m => by
      rw [s_X9_power_L36]
      simp only [qg S, ql_2 S, if_true, q_inv S, hw, bnd, retI]
      split <;> rfl
    exact key 99999
  · have e : powR w n v = itF spinF 0 n (upd w 1 v) := if_neg q
    rw [e]
    exact r_powL2 S q n 0 100000 (upd w 1 v) (by omega) (by omega) F1
theorem p_power (t : Nat) (a1 : Int32) (hv : a1 = 0 ∨ a1 = 1) : Pair (s_X8_power 1 a1) (s_X9_power 241 a1) t := by
  intro h R
  have R' := R
  obtain ⟨e, c, u, sn, v, C, Q, W, X⟩ := R
  have S := C.1
  have st2 : isSt 2 := Or.inl rfl
  have h7 : hI h 2 7 = e.1 1 := C.2.1.2.1.2.2.2.2.1
  have er : s_X9_power 241 a1 = fun h => s_X9_power_J9 241 a1 a1 h := by
    funext h
    unfold s_X9_power
    rcases hv with q | q
    · rw [if_pos q, q]
    · rw [if_neg (by rw [q]; decide), q]
  rw [er]
  have getp : ∀ (g : Hp), Sh g → hI g 242 = e.1 → ∀ {α : Type} (f : Int32 → Option α), (getR g 241 9 0 fun x2 => ldI g x2 20 1 f) = f (e.1 1) := fun g Sg eg α f => by
    rw [sQ_of eg]
    simp only [qg Sg, ql_1 Sg]
  by_cases q : e.1 1 = a1
  · refine Pair.same (x := fun h => _) (m := fun h => _) R' (-5) ?_ ?_
    · unfold s_X8_power
      simp only [S.x0, get6 S, h7, q, if_true]
      rfl
    · unfold s_X9_power_J9
      rw [getp h S Q.1, if_pos q]
      rfl
  · obtain ⟨h1, h2, p1, p2, p3, S1, p5⟩ := rec_pair C Q W X (sumL (isF (powR e.1 e.2.1 a1) 9 1) e.2.1 0 0) (powR e.1 e.2.1 a1, e.2.1, e.2.2) (Z := WF (powR e.1 e.2.1 a1) e.2.1 e.2.2 t) (bc := fun h => getR h 1 8 0 fun x5 => inv h x5 6 (s_X6_switchPower x5 a1 h) fun _ h => getR h 1 8 0 fun x6 => inv h x6 6 (s_X6_washersIn x6 1 h) fun x7 h => retI x7 h) (br := fun h => getR h 241 9 0 fun x3 => stI h x3 20 1 a1 fun h => s_X9_power_L36 100000 241 a1 0 h) (fun g Cg => by
      have Sg := Cg.1
      obtain ⟨g', b1, b2, b3, b4, b5, b6⟩ := c_switch hv Sg Cg.2.1 W.1
      have cw : s_X6_washersIn 2 1 g' = some (sumL (isF (powR e.1 e.2.1 a1) 9 1) e.2.1 0 0, g') := c_washersInL (e := (powR e.1 e.2.1 a1, e.2.1, e.2.2)) b4 b5 1 e.2.1 0 100000 0 (by simp) (by have := b6.1.1; omega)
      refine ⟨g', ?_, b2.mono (fun x hx => Or.inl hx), b4, b5, fun j hj => ?_, b6⟩
      · simp only [Sg.x0, inv6 Sg, b1, bnd, b4.x0, inv6 b4, cw, retI]
      · rw [(b2.2.2 238 (by have := Sg.2.2.2.2.2.2.2.2; omega) (fun z => by have := z.2.1; omega)).1]
        exact Cg.2.2.2.2 j hj) (fun z g Sg Qg => by
      refine ⟨hI g 247, hI g 248, ?_, Qg.2.2.2⟩
      have k := r_powAll Sg (a := hI g 247) (b := hI g 248) z (WF.pow hv W.1)
      have eg := sQ_of Qg.1
      have k2 : (getR (sQ g e.1 (hI g 247) (hI g 248)) 241 9 0 fun x3 => stI (sQ g e.1 (hI g 247) (hI g 248)) x3 20 1 a1 fun h => s_X9_power_L36 100000 241 a1 0 h) = some (sumL (isF (powR e.1 e.2.1 a1) 9 1) e.2.1 0 0, sQ g (powR e.1 e.2.1 a1) (hI g 247) (hI g 248)) := by
        rw [qg Sg, qs_1 Sg]
        exact k
      rw [← eg] at k2
      exact k2) (fun z => z.mono (by omega))
    refine ⟨sumL (isF (powR e.1 e.2.1 a1) 9 1) e.2.1 0 0, h1, h2, ?_, ?_, p3, S1⟩
    · unfold s_X8_power
      simp only [S.x0, S.x3, get6 S, h7, q, if_false]
      exact p1
    · show s_X9_power_J9 241 a1 a1 h1 = _
      unfold s_X9_power_J9
      rw [getp h1 S1 p5.1, if_neg q]
      exact p2
