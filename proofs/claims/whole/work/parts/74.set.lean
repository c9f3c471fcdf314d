/-! set, the call -/
theorem setW {w : Row} {k : Nat} {a2 : Int32} (hk : k < 4) (B : WB w) (hb : leastS k ≤ a2 ∧ a2 ≤ mostS k) : WB (upd w (3 + k) a2) := by
  obtain ⟨B1, B2, B3, B4⟩ := B
  rcases (show k = 0 ∨ k = 1 ∨ k = 2 ∨ k = 3 by omega) with rfl | rfl | rfl | rfl
  · obtain ⟨m, rfl, m1, m2⟩ := win_of (lo := 1000) (hi := 60000) (by omega) (by omega) hb
    exact ⟨⟨m, upd_eq _ _ _, m2⟩, by rw [upd_ne _ _ (by omega)]; exact B2, by rw [upd_ne _ _ (by omega)]; exact B3, by rw [upd_ne _ _ (by omega)]; exact B4⟩
  · obtain ⟨m, rfl, m1, m2⟩ := win_of (lo := 0) (hi := 900) (by omega) (by omega) hb
    exact ⟨by rw [upd_ne _ _ (by omega)]; exact B1, ⟨m, upd_eq _ _ _, m2⟩, by rw [upd_ne _ _ (by omega)]; exact B3, by rw [upd_ne _ _ (by omega)]; exact B4⟩
  · obtain ⟨m, rfl, m1, m2⟩ := win_of (lo := 10) (hi := 2000) (by omega) (by omega) hb
    exact ⟨by rw [upd_ne _ _ (by omega)]; exact B1, by rw [upd_ne _ _ (by omega)]; exact B2, ⟨m, upd_eq _ _ _, m2⟩, by rw [upd_ne _ _ (by omega)]; exact B4⟩
  · exact ⟨by rw [upd_ne _ _ (by omega)]; exact B1, by rw [upd_ne _ _ (by omega)]; exact B2, by rw [upd_ne _ _ (by omega)]; exact B3, by rw [upd_ne _ _ (by omega)]; exact B4⟩
theorem q_ldk {h : Hp} (S : Sh h) {α : Type} (w a b : Row) {k : Nat} (hk : k < 401) (f : Int32 → Option α) : ldI (sQ h w a b) 242 20 (nI k) f = f (w k) := by
  rw [q_ld S w a b (nI_pos' (by omega)) (by rw [nI_clamp (by omega)]; exact hk), nI_clamp (by omega)]
theorem q_stk {h : Hp} (S : Sh h) {α : Type} (w a b : Row) {k : Nat} (v : Int32) (hk : k < 401) (f : Hp → Option α) : stI (sQ h w a b) 242 20 (nI k) v f = f (sQ h (upd w k v) a b) := by
  rw [q_st S w a b (nI_pos' (by omega)) (by rw [nI_clamp (by omega)]; exact hk), nI_clamp (by omega)]
theorem setJ {h : Hp} {t : Nat} {e v : Ent} {c : Nat} {u : Nat → Ent} {sn : Int32} (R' : REL h t) (C : CS h e c u sn v) (Q : RS h e.1 c u sn v) (W : WFe e t ∧ (∀ k, k < c → WFe (u k) t) ∧ (sn = 0 ∨ sn = 1) ∧ (sn ≠ 0 → WFe v t)) (X : TX h) {k : Nat} (hk : k < 4) {a2 : Int32} (hb : leastS k ≤ a2 ∧ a2 ≤ mostS k) :
    ∃ r h1 h2, s_X8_set_J63 1 (nI k) a2 h = some (r, h1) ∧ s_X9_set_J42 241 (nI k) a2 h1 = some (r, h2) ∧ REL h2 (t + 60) ∧ Sh h1 ∧ RS h1 e.1 c u sn v := by
  have S := C.1
  have st2 : isSt 2 := Or.inl rfl
  have ix : (3 : Int32) + nI k = nI (3 + k) := nI_add 3 k
  have s0 : hI h 3 k = e.1 (3 + k) := C.2.1.2.2.1 k hk
  have ls : ∀ (g : Hp), Sh g → ∀ {α : Type} (f : Int32 → Option α), (getR g 2 6 0 fun x6 => ldI g x6 20 (nI k) f) = f (hI g 3 k) := fun g Sg α f => by
    have t1 : hT g 3 = (20, 4) := Sg.t1 st2
    have r0 : hR g 2 0 = 3 := Sg.r0 st2
    simp only [getR, ldI, Sg.t0 st2, r0, t1, true_and, show ((3 : Nat) = 0) = False from eq_false (by decide), ne_eq, not_false_eq_true, if_true, nI_ge0 (show k < 2 ^ 31 by omega), nI_clamp (show k < 2 ^ 31 by omega), hk]
  have lq : ∀ (g : Hp), Sh g → hI g 242 = e.1 → ∀ {α : Type} (f : Int32 → Option α), (getR g 241 9 0 fun x2 => ldI g x2 20 (3 + nI k) f) = f (e.1 (3 + k)) := fun g Sg eg α f => by
    rw [sQ_of eg, qg Sg, ix, q_ldk Sg _ _ _ (by omega)]
  by_cases q : e.1 (3 + k) = a2
  · refine ⟨-5, h, h, ?_, ?_, R'.up (by omega), S, Q⟩
    · unfold s_X8_set_J63
      rw [S.x0, ls h S, s0, if_pos q]
      rfl
    · unfold s_X9_set_J42
      rw [lq h S Q.1, if_pos q]
      rfl
  · obtain ⟨h1, h2, p1, p2, p3, S1, p5⟩ := rec_pair C Q W X (e.1 (3 + k)) (upd e.1 (3 + k) a2, e.2.1, e.2.2) (Z := True) (bc := fun h => getR h 1 8 0 fun x10 => getR h x10 6 0 fun x11 => stI h x11 20 (nI k) a2 fun h => retI (e.1 (3 + k)) h) (br := fun h => getR h 241 9 0 fun x4 => stI h x4 20 (3 + nI k) a2 fun h => retI (e.1 (3 + k)) h) (fun g Cg => by
      have Sg := Cg.1
      obtain ⟨c1, c2⟩ := SR.set (v := a2) Sg Cg.2.1 hk
      have t1 : hT g 3 = (20, 4) := Sg.t1 st2
      have r0 : hR g 2 0 = 3 := Sg.r0 st2
      refine ⟨sI g 3 k a2, ?_, c1.mono (fun x hx => Or.inl (by rw [hx]; exact ⟨by omega, by omega, by omega⟩)), Sg.sI _ _ _, c2, fun j hj => ?_, trivial⟩
      · simp only [Sg.x0]
        simp only [getR, stI, Sg.t0 st2, r0, t1, true_and, and_self, show ((3 : Nat) = 0) = False from eq_false (by decide), ne_eq, not_false_eq_true, if_true, nI_ge0 (show k < 2 ^ 31 by omega), nI_clamp (show k < 2 ^ 31 by omega), hk, retI]
      · rw [hI_sIn _ _ _ _ _ (by omega)]
        exact Cg.2.2.2.2 j hj) (fun _ g Sg Qg => by
      refine ⟨hI g 247, hI g 248, ?_, Qg.2.2.2⟩
      have k2 : (getR (sQ g e.1 (hI g 247) (hI g 248)) 241 9 0 fun x4 => stI (sQ g e.1 (hI g 247) (hI g 248)) x4 20 (3 + nI k) a2 fun h => retI (e.1 (3 + k)) h) = some (e.1 (3 + k), sQ g (upd e.1 (3 + k) a2) (hI g 247) (hI g 248)) := by
        rw [qg Sg, ix, q_stk Sg _ _ _ _ (by omega)]
        rfl
      rw [← sQ_of Qg.1] at k2
      exact k2) (fun _ => (WF.set hk (setW hk W.1.2.2.1 hb) W.1).mono (by omega))
    refine ⟨e.1 (3 + k), h1, h2, ?_, ?_, p3, S1, p5⟩
    · unfold s_X8_set_J63
      rw [S.x0, ls h S, s0, if_neg q, S.x3, S.x0]
      exact p1
    · unfold s_X9_set_J42
      rw [lq h1 S1 p5.1, if_neg q]
      exact p2
