/-! overIn, freeIn, both sides -/
theorem p_overIn (t : Nat) (ht : t ≤ 38000) (a1 : Int32) : Pair (s_X8_overIn 1 a1) (s_X9_overIn 241 a1) t := by
  intro h R
  have R' := R
  obtain ⟨e, c, u, sn, v, C, Q, W, X⟩ := R
  have S := C.1
  have n8 : e.2.1 ≤ 8 := W.1.1.1
  have e2 : e.1 2 = nI e.2.1 := W.1.1.2.2.1
  have st2 : isSt 2 := Or.inl rfl
  have st35 : isSt 35 := by unfold isSt; omega
  have hN0 : 250 ≤ hN h := S.2.2.2.2.2.2.2.2
  obtain ⟨N, hN6⟩ : ∃ N, N = 600 := ⟨_, rfl⟩
  have hh2 : hI h 242 2 = nI e.2.1 := by rw [Q.1]; exact e2
  by_cases q : inH a1 e.2.1
  · obtain ⟨i, rfl, hi⟩ := inH_of n8 q
    have hi8 : i < 8 := by omega
    have r1 : hI h (2 + 8 + 2 * i) 1 = pt e.1 i 9 := (C.2.1.hr hi).w.1.1
    have rr : ∀ g, Sh g → hI g 242 = e.1 → s_X9_runs 241 (nI i) g = some (if pt e.1 i 9 = 1 then 1 else 0, g) := fun g Sg eg => by
      have := r_runs Sg hi8 e.1 (hI g 247) (hI g 248)
      rwa [← sQ_of eg] at this
    by_cases q2 : pt e.1 i 9 = 1
    · obtain ⟨h1, b1, b2, b3, b4, b5⟩ := c_copyFrom S st35 st2 (by omega) C.2.1 W.1.2.1
      have z1 : ∀ j, 8 ≤ j → hI h1 238 j = 0 := fun j hj => by
        rw [(b2.2.2 238 (fun z => by have := z.2.1; omega)).1]
        exact C.2.2.2.2 j hj
      obtain ⟨h2, d1, d2, d3, d4, d5, d6⟩ := c_overL hi8 (fun y0 y1 h => s_X8_overIn_J86 y0 y1 h) N 0 100000 t h1 e (by omega) (by omega) (by omega) hi b4 b5 W.1 z1
      have A : Ch (PMP 35) h h2 := (b2.ch.mono (fun x hx => Or.inl hx)).trans d2
      have far : ∀ x, 239 ≤ x → x ≤ 250 → hI h2 x = hI h x := fun x x1 x2 => (A.2.2 x (by omega) (fun z => by
        rcases z with z | z
        · have := z.2.1; omega
        · unfold SPP at z; omega)).1
      have C1 : CS h2 e c u sn v := C.trial A d3 d5
      have Q1 : RS h2 e.1 c u sn v := Q.fr (fun x hx => far x (by have := hx.1; omega) hx.2)
      have X1 : TX h2 := X.fr (fun x hx => far x (by omega) (by omega)) (by rw [far 241 (by omega) (by omega)])
      obtain ⟨g, k1, Sg, Qg, Fg, kk⟩ := r_keep d3 Q1
      have eg := sQ_of Qg.1
      obtain ⟨a', b', o1, o2⟩ := r_overL Sg hi8 (fun y0 y1 y2 h => s_X9_overIn_J74 y0 y1 y2 h) N 0 100000 t (hI g 247) (hI g 248) e (by omega) (by omega) (by omega) W.1 d6 Qg.2.2.2
      rw [← eg] at o1
      have hi' : i < (runI 9 i 1 N 0 e).2.2.1 := by rw [runI_n]; exact hi
      have w1 : hI h2 (35 + 8 + 2 * i) 1 = pt (runI 9 i 1 N 0 e).2.1 i 9 := (d4.hr hi').w.1.1
      have Sq : Sh (sQ g (runI 9 i 1 N 0 e).2.1 a' b') := Sg.of rfl rfl (Nat.le_refl _)
      refine ⟨if pt (runI 9 i 1 N 0 e).2.1 i 9 = 0 then nI (runI 9 i 1 N 0 e).1 else -5, h2, sQ g (mixR e.1 (runI 9 i 1 N 0 e).2.1) a' b', ?_, ?_, q_fin C1 W X1 Fg Sg Qg _ a' b' o2, d3⟩
      · unfold s_X8_overIn
        simp only [S.x0, inv6 S, c_has S C.2.1, hasI_1 q, bnd, if_true, if_false, show ((1 : Int32) = 0) = False from eq_false (by decide), c_washerOf S st2 hi8, getW S hi8, r1, q2, T_x1 S, T_i35 S, b1]
        rw [T_x1 b4, T_i35 b4, c_washerOf b4 st35 hi8]
        have d1' : s_X8_overIn_L53 (fun y0 y1 h => s_X8_overIn_J86 y0 y1 h) 100000 1 (35 + 8 + 2 * i) 0 h1 = s_X8_overIn_J86 (35 + 8 + 2 * i) (nI (runI 9 i 1 N 0 e).1) h2 := d1
        simp only [bnd]
        rw [d1']
        show s_X8_overIn_J86 (35 + 8 + 2 * i) (nI (runI 9 i 1 N 0 e).1) h2 = _
        unfold s_X8_overIn_J86
        rw [T_w35 d3 hi8, w1]
        split <;> rfl
      · unfold s_X9_overIn
        simp only [inv9 d3, r_has d3 (show hI h2 242 2 = nI e.2.1 by rw [Q1.1]; exact e2), hasI_1 q, bnd, if_false, show ((1 : Int32) = 0) = False from eq_false (by decide), rr h2 d3 Q1.1, if_pos q2]
        unfold s_X9_overIn_J26
        rw [if_pos (by decide), T_k0 d3, T_k1 d3, k1]
        have o1' : s_X9_overIn_L48 (fun y0 y1 y2 h => s_X9_overIn_J74 y0 y1 y2 h) 100000 241 (nI i) 0 g = s_X9_overIn_J74 241 (nI i) (nI (runI 9 i 1 N 0 e).1) (sQ g (runI 9 i 1 N 0 e).2.1 a' b') := o1
        simp only [bnd]
        rw [o1']
        show s_X9_overIn_J74 241 (nI i) (nI (runI 9 i 1 N 0 e).1) (sQ g (runI 9 i 1 N 0 e).2.1 a' b') = _
        unfold s_X9_overIn_J74
        rw [q_inv Sg, rp_9 Sg hi8]
        simp only [bnd, T_k1 Sq, T_k0 Sq, r_unkeep Sg kk]
        split <;> rfl
    · refine Pair.same (x := fun h => _) (m := fun h => _) R' (-4) ?_ ?_
      · unfold s_X8_overIn
        simp only [S.x0, inv6 S, c_has S C.2.1, hasI_1 q, bnd, if_true, if_false, show ((1 : Int32) = 0) = False from eq_false (by decide), c_washerOf S st2 hi8, getW S hi8, r1, q2]
        rfl
      · unfold s_X9_overIn s_X9_overIn_J26
        simp only [inv9 S, r_has S hh2, hasI_1 q, bnd, if_true, if_false, show ((1 : Int32) = 0) = False from eq_false (by decide), rr h S Q.1, if_neg q2, show ((0 : Int32) ≤ -4) = False from eq_false (by decide)]
        rfl
  · refine Pair.same (x := fun h => _) (m := fun h => _) R' (-1) ?_ ?_
    · unfold s_X8_overIn
      simp only [S.x0, inv6 S, c_has S C.2.1, hasI_0 q, bnd, if_true, if_false]
      rfl
    · unfold s_X9_overIn s_X9_overIn_J26
      simp only [inv9 S, r_has S hh2, hasI_0 q, bnd, if_true, if_false, show ((0 : Int32) ≤ -1) = False from eq_false (by decide)]
      rfl
theorem p_freeIn (t : Nat) (ht : t ≤ 38000) (a1 : Int32) : Pair (s_X8_freeIn 1 a1) (s_X9_freeIn 241 a1) t := by
  intro h R
  have R' := R
  obtain ⟨e, c, u, sn, v, C, Q, W, X⟩ := R
  have S := C.1
  have n8 : e.2.1 ≤ 8 := W.1.1.1
  have e2 : e.1 2 = nI e.2.1 := W.1.1.2.2.1
  have st2 : isSt 2 := Or.inl rfl
  have st35 : isSt 35 := by unfold isSt; omega
  have hN0 : 250 ≤ hN h := S.2.2.2.2.2.2.2.2
  obtain ⟨N, hN6⟩ : ∃ N, N = 600 := ⟨_, rfl⟩
  have hh2 : hI h 242 2 = nI e.2.1 := by rw [Q.1]; exact e2
  by_cases q : inH a1 e.2.1
  · obtain ⟨i, rfl, hi⟩ := inH_of n8 q
    have hi8 : i < 8 := by omega
    obtain ⟨h1, b1, b2, b3, b4, b5⟩ := c_copyFrom S st35 st2 (by omega) C.2.1 W.1.2.1
    have z1 : ∀ j, 8 ≤ j → hI h1 238 j = 0 := fun j hj => by
      rw [(b2.2.2 238 (fun z => by have := z.2.1; omega)).1]
      exact C.2.2.2.2 j hj
    obtain ⟨h2, d1, d2, d3, d4, d5, d6⟩ := c_freeL hi8 (fun y0 y1 h => s_X8_freeIn_J68 y0 y1 h) N 0 100000 t h1 e (by omega) (by omega) (by omega) hi b4 b5 W.1 z1
    have A : Ch (PMP 35) h h2 := (b2.ch.mono (fun x hx => Or.inl hx)).trans d2
    have far : ∀ x, 239 ≤ x → x ≤ 250 → hI h2 x = hI h x := fun x x1 x2 => (A.2.2 x (by omega) (fun z => by
      rcases z with z | z
      · have := z.2.1; omega
      · unfold SPP at z; omega)).1
    have C1 : CS h2 e c u sn v := C.trial A d3 d5
    have Q1 : RS h2 e.1 c u sn v := Q.fr (fun x hx => far x (by have := hx.1; omega) hx.2)
    have X1 : TX h2 := X.fr (fun x hx => far x (by omega) (by omega)) (by rw [far 241 (by omega) (by omega)])
    obtain ⟨g, k1, Sg, Qg, Fg, kk⟩ := r_keep d3 Q1
    have eg := sQ_of Qg.1
    obtain ⟨a', b', o1, o2⟩ := r_freeL Sg hi8 (fun y0 y1 y2 h => s_X9_freeIn_J54 y0 y1 y2 h) N 0 100000 t (hI g 247) (hI g 248) e (by omega) (by omega) (by omega) W.1 d6 Qg.2.2.2
    rw [← eg] at o1
    have hi' : i < (runI 13 i 2 N 0 e).2.2.1 := by rw [runI_n]; exact hi
    have w1 : hI h2 (35 + 8 + 2 * i) 2 = pt (runI 13 i 2 N 0 e).2.1 i 13 := (d4.hr hi').w.1.2.2.2.2.1
    have Sq : Sh (sQ g (runI 13 i 2 N 0 e).2.1 a' b') := Sg.of rfl rfl (Nat.le_refl _)
    refine ⟨if pt (runI 13 i 2 N 0 e).2.1 i 13 = 2 then -5 else nI (runI 13 i 2 N 0 e).1, h2, sQ g (mixR e.1 (runI 13 i 2 N 0 e).2.1) a' b', ?_, ?_, q_fin C1 W X1 Fg Sg Qg _ a' b' o2, d3⟩
    · unfold s_X8_freeIn
      simp only [S.x0, inv6 S, c_has S C.2.1, hasI_1 q, bnd, if_false, show ((1 : Int32) = 0) = False from eq_false (by decide), T_x1 S, T_i35 S, b1]
      rw [T_x1 b4, T_i35 b4, c_washerOf b4 st35 hi8]
      have d1' : s_X8_freeIn_L35 (fun y0 y1 h => s_X8_freeIn_J68 y0 y1 h) 100000 1 (35 + 8 + 2 * i) 0 h1 = s_X8_freeIn_J68 (35 + 8 + 2 * i) (nI (runI 13 i 2 N 0 e).1) h2 := d1
      simp only [bnd]
      rw [d1']
      show s_X8_freeIn_J68 (35 + 8 + 2 * i) (nI (runI 13 i 2 N 0 e).1) h2 = _
      unfold s_X8_freeIn_J68
      rw [T_w35 d3 hi8, w1]
      split <;> rfl
    · unfold s_X9_freeIn
      simp only [inv9 d3, r_has d3 (show hI h2 242 2 = nI e.2.1 by rw [Q1.1]; exact e2), hasI_1 q, bnd, if_false, show ((1 : Int32) = 0) = False from eq_false (by decide)]
      rw [T_k0 d3, T_k1 d3, k1]
      have o1' : s_X9_freeIn_L25 (fun y0 y1 y2 h => s_X9_freeIn_J54 y0 y1 y2 h) 100000 241 (nI i) 0 g = s_X9_freeIn_J54 241 (nI i) (nI (runI 13 i 2 N 0 e).1) (sQ g (runI 13 i 2 N 0 e).2.1 a' b') := o1
      simp only [bnd]
      rw [o1']
      show s_X9_freeIn_J54 241 (nI i) (nI (runI 13 i 2 N 0 e).1) (sQ g (runI 13 i 2 N 0 e).2.1 a' b') = _
      unfold s_X9_freeIn_J54
      rw [q_inv Sg, rp_13 Sg hi8]
      simp only [bnd, T_k1 Sq, T_k0 Sq, r_unkeep Sg kk]
      split <;> rfl
  · refine Pair.same (x := fun h => _) (m := fun h => _) R' (-1) ?_ ?_
    · unfold s_X8_freeIn
      simp only [S.x0, inv6 S, c_has S C.2.1, hasI_0 q, bnd, if_true, if_false]
      rfl
    · unfold s_X9_freeIn
      simp only [inv9 S, r_has S hh2, hasI_0 q, bnd, if_true, if_false]
      rfl
