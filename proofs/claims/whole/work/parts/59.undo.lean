/-! undo -/
theorem p_undo (t : Nat) : Pair (s_X8_undo 1) (s_X9_undo 241) t := by
  intro h R
  have R' := R
  obtain ⟨e, c, u, sn, v, C, Q, W, X⟩ := R
  have S := C.1
  have st2 : isSt 2 := Or.inl rfl
  have c4 := C.2.2.1.1
  have c1 : hI h 101 1 = nI c := C.2.2.1.2.1
  have m5 : hI h 241 5 = nI c := Q.2.1.2.1
  by_cases q : c = 0
  · subst q
    refine Pair.same R' (-5) ?_ ?_
    · unfold s_X8_undo s_X1_takeBack
      simp only [S.x0, S.x3, inv, getI, S.2.2.2.1.1, c1, show (nI 0 = 0) = True from eq_true rfl, if_true, retZ, true_or, bnd]
      rfl
    · unfold s_X9_undo
      simp only [getI, S.m0, m5, show (nI 0 = 0) = True from eq_true rfl, if_true]
      rfl
  · obtain ⟨d, rfl⟩ : ∃ d, c = d + 1 := ⟨c - 1, by omega⟩
    obtain ⟨-, R2, ⟨-, -, p1, p2, U⟩, ⟨s1, s2⟩, z⟩ := C
    have hd := p1 d (by omega)
    have e0 : hR h 102 d ≠ 0 := by unfold isH at hd; omega
    have z1 : (nI (d + 1) = 0) = False := eq_false (fun y => by have := (nI_0' (d + 1) (by omega)).mp y; omega)
    have ec : nI (d + 1) - 1 = nI d := by
      rw [show (1 : Int32) = nI 1 from rfl, nI_sub (by omega)]
      rfl
    have F0 : Fr (fun x => x = 101) h (sI h 101 1 (nI d)) := (Fr.rfl' (P := fun x => x = 101)).sI 101 1 _ rfl
    have S0 : Sh (sI h 101 1 (nI d)) := S
    have mp0 : ∀ x, x = 101 → Mut x := fun x hx => by rw [hx]; exact mut_101
    have sep0 : ∀ T, isSt T → ∀ x, x = 101 → ¬ (T ≤ x ∧ x < T + 33) := fun T tt x hx => by unfold isSt at tt; omega
    have Ud := (U d (by omega)).fr F0 S mp0 hd.st (sep0 _ hd.st)
    obtain ⟨h1, b1, b2, b3, b4, b5⟩ := c_copyFrom S0 st2 hd.st (by unfold isH at hd; omega) Ud (W.2.1 d (by omega)).2.1
    have F1 : Fr (fun x => ST 2 x ∨ x = 101) h h1 := (F0.mono (fun x hx => Or.inr hx)).trans (b2.mono (fun x hx => Or.inl hx))
    have mp1 : ∀ x, (ST 2 x ∨ x = 101) → Mut x := fun x hx => by
      rcases hx with y | y
      · exact ST.mut st2 y
      · rw [y]; exact mut_101
    have sep1 : ∀ T, isSt T → T ≠ 2 → ∀ x, (ST 2 x ∨ x = 101) → ¬ (T ≤ x ∧ x < T + 33) := fun T tt hT x hx => by
      rcases hx with y | y
      · have := tt.sep st2 hT; have := y.1; have := y.2.1; unfold isSt at tt; omega
      · unfold isSt at tt; omega
    have fI : ∀ x, 35 ≤ x → x ≠ 101 → hI h1 x = hI h x := fun x x1 x2 => (F1.2.2 x (fun y => by
      rcases y with y | y
      · have := y.2.1; omega
      · exact x2 y)).1
    have w102 : hR h1 102 = hR h 102 := (F1.2.2 102 (fun y => by
      rcases y with y | y
      · have := y.2.1; omega
      · omega)).2.2
    have i101 : hI h1 101 1 = nI d := by
      rw [(b2.2.2 101 (fun y => by have := y.2.1; omega)).1, hI_sI, if_pos ⟨rfl, rfl⟩]
    have C1 : CS h1 (mixR (u d).1 e.1, (u d).2.1, (u d).2.2) d u sn v := by
      refine ⟨b4, SRe.mix b5, ⟨by omega, i101, by rw [w102]; exact p1, by rw [w102]; exact p2, fun k hk => ?_⟩, ⟨?_, fun y => (s2 y).fr F1 S mp1 (by unfold isSt; omega) (sep1 68 (by unfold isSt; omega) (by omega))⟩, fun i hi => by rw [fI 238 (by omega) (by omega)]; exact z i hi⟩
      · rw [w102]
        exact (U k (by omega)).fr F1 S mp1 (p1 k (by omega)).st (sep1 _ (p1 k (by omega)).st (by have := p1 k (by omega); unfold isH at this; omega))
      · rw [(F1.2.2 1 (fun y => by
          rcases y with y | y
          · have := y.1; omega
          · omega)).1]
        exact s1
    have Q1 : RS h1 e.1 (d + 1) u sn v := Q.fr (fun x hx => fI x (by have := hx.1; omega) (by have := hx.1; omega))
    have S2 : Sh (sI h1 241 5 (nI d)) := b4
    have m5' : hI h1 241 5 = nI (d + 1) := Q1.2.1.2.1
    have bk := r_back S2 (A := 245) (la := 1604) (x := d * 401) S2.m45 (by decide) (by decide) (by omega) (by omega) (u d).1 (fun j hj => by
      rw [hI_sIn _ _ _ _ _ (by omega), Nat.mul_comm]
      exact Q1.2.1.2.2 d (by omega) j hj)
    have e42 : hI (sI h1 241 5 (nI d)) 242 = e.1 := by rw [hI_sIn _ _ _ _ _ (by omega)]; exact Q1.1
    rw [e42] at bk
    have Fq : Fr RC h1 (sQ (sI h1 241 5 (nI d)) (mixR (u d).1 e.1) (hI (sI h1 241 5 (nI d)) 247) (hI (sI h1 241 5 (nI d)) 248)) := ((Fr.rfl' (P := RC)).sI 241 5 _ ⟨by omega, by omega⟩).trans (sQ_fr _ _ _ _)
    refine ⟨nI d, h1, sQ (sI h1 241 5 (nI d)) (mixR (u d).1 e.1) (hI (sI h1 241 5 (nI d)) 247) (hI (sI h1 241 5 (nI d)) 248), ?_, ?_, ⟨(mixR (u d).1 e.1, (u d).2.1, (u d).2.2), d, u, sn, v, C1.fr Fq.ch S2, ?_, ⟨WFe.mix ((W.2.1 d (by omega)).up (by omega)), fun k hk => (W.2.1 k (by omega)).up (by omega), W.2.2.1, fun y => (W.2.2.2 y).up (by omega)⟩, ?_⟩, b4⟩
    · unfold s_X8_undo s_X1_takeBack
      simp only [S.2.2.1.1, S.2.2.1.2.1, S.2.2.1.2.2.2.2.1, show ((2 : Nat) = 0) = False from eq_false (by decide), inv, getI, putI, S.2.2.2.1.1, c1, z1, if_true, if_false, ec, getR, ldR, hT_sI, hR_sI, hI_sI, true_and, and_self, S.2.2.2.1.2.1, S.2.2.2.1.2.2, show ((102 : Nat) = 0) = False from eq_false (by decide), ne_eq, not_false_eq_true, nI_ge0 (show d < 2 ^ 31 by omega), nI_clamp (show d < 2 ^ 31 by omega), show d < 4 by omega, e0, S.t0 st2, b1, bnd, retZ, or_true, show ((1 : Int32) = 0) = False from eq_false (by decide), b4.2.2.1.1, b4.2.2.1.2.2.2.2.1, show ((101 : Nat) = 0) = False from eq_false (by decide), b4.2.2.2.1.1, i101, retI]
    · unfold s_X9_undo
      have em : nI d * 401 = nI (d * 401) := nI_mul d 401
      have bk' : s_X9_copy 245 (nI (d * 401)) 242 0 (sI h1 241 5 (nI d)) = _ := bk
      simp only [getI, putI, b4.m0, m5', z1, if_false, if_true, ec, getR, hT_sI, hR_sI, b4.m4, b4.m1, hI_sI, true_and, and_self, show ((242 : Nat) = 0) = False from eq_false (by decide), show ((245 : Nat) = 0) = False from eq_false (by decide), ne_eq, not_false_eq_true, em, bk', bnd, hT_sQ, retI]
      rw [hI_sQn _ _ _ _ 241 (by omega) (by omega) (by omega), hI_sI, if_pos ⟨rfl, rfl⟩]
    · obtain ⟨g1, ⟨g2, g3, g4⟩, g6, g5⟩ := Q1
      refine ⟨rfl, ⟨by omega, ?_, fun k hk j hj => ?_⟩, ?_, fun i hi => ?_⟩
      · rw [hI_sQn _ _ _ _ 241 (by omega) (by omega) (by omega), hI_sI, if_pos ⟨rfl, rfl⟩]
      · rw [hI_sQn _ _ _ _ 245 (by omega) (by omega) (by omega), hI_sIn _ _ _ _ _ (by omega)]
        exact g4 k (by omega) j hj
      · rw [hI_sQn _ _ _ _ 241 (by omega) (by omega) (by omega), hI_sQn _ _ _ _ 244 (by omega) (by omega) (by omega), hI_sI, if_neg (fun y => by omega), hI_sIn _ _ _ _ _ (by omega)]
        exact g6
      · rw [hI_sQ8, hI_sIn _ _ _ _ _ (by omega)]
        exact g5 i hi
    · refine (X.fr (fun x hx => fI x (by omega) (by omega)) (by rw [fI 241 (by omega) (by omega)])).fr (fun x hx => ?_) ?_
      · rw [hI_sQn _ _ _ _ x (by omega) (by omega) (by omega), hI_sIn _ _ _ _ _ (by omega)]
      · rw [hI_sQn _ _ _ _ 241 (by omega) (by omega) (by omega), hI_sI, if_neg (fun y => by omega)]
