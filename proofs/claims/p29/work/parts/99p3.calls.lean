/-! the class's calls that change the street -/
theorem q_set {h : Hp} {t : Nat} {e : Ent} (C : CST h e) (W : WFe e t) {k : Nat} (hk : k < 4) (n0 : k ≠ 0) (n3 : k ≠ 3) {a2 : Int32} (hb : leastS k ≤ a2 ∧ a2 ≤ mostS k) (q : e.1 (3 + k) ≠ a2) :
    ∃ h1, s_X8_set 1 (nI k) a2 h = some (e.1 (3 + k), h1) ∧ CST h1 (upd e.1 (3 + k) a2, e.2.1, e.2.2) ∧ LFr h h1 ∧ WFe (upd e.1 (3 + k) a2, e.2.1, e.2.2) t := by
  have S := C.sh
  have st2 : isSt 2 := Or.inl rfl
  have s0 : hI h 3 k = e.1 (3 + k) := C.sr.2.2.1 k hk
  have ls : ∀ (g : Hp), Sh g → ∀ {α : Type} (f : Int32 → Option α), (getR g 2 6 0 fun x6 => ldI g x6 20 (nI k) f) = f (hI g 3 k) := fun g Sg α f => by
    have t1 : hT g 3 = (20, 4) := Sg.t1 st2
    have r0 : hR g 2 0 = 3 := Sg.r0 st2
    simp only [getR, ldI, Sg.t0 st2, r0, t1, true_and, show ((3 : Nat) = 0) = False from eq_false (by decide), ne_eq, not_false_eq_true, if_true, nI_ge0 (show k < 2 ^ 31 by omega), nI_clamp (show k < 2 ^ 31 by omega), hk]
  obtain ⟨h1, p1, p2, p3, -⟩ := rec_one C W (e.1 (3 + k)) (upd e.1 (3 + k) a2, e.2.1, e.2.2) (Z := True) (bc := fun h => getR h 1 8 0 fun x10 => getR h x10 6 0 fun x11 => stI h x11 20 (nI k) a2 fun h => retI (e.1 (3 + k)) h) (fun g Cg => by
    have Sg := Cg.sh
    obtain ⟨c1, c2⟩ := SR.set (v := a2) Sg Cg.sr hk
    have t1 : hT g 3 = (20, 4) := Sg.t1 st2
    have r0 : hR g 2 0 = 3 := Sg.r0 st2
    refine ⟨sI g 3 k a2, ?_, c1.mono (fun x hx => Or.inl (by rw [hx]; exact ⟨by omega, by omega, by omega⟩)), Sg.sI _ _ _, c2, fun j hj => ?_, trivial⟩
    · simp only [Sg.x0]
      simp only [getR, stI, Sg.t0 st2, r0, t1, true_and, and_self, show ((3 : Nat) = 0) = False from eq_false (by decide), ne_eq, not_false_eq_true, if_true, nI_ge0 (show k < 2 ^ 31 by omega), nI_clamp (show k < 2 ^ 31 by omega), hk, retI]
    · rw [hI_sIn _ _ _ _ _ (by omega)]
      exact Cg.z j hj)
  have qk : 0 ≤ nI k ∧ nI k ≤ 3 := ⟨nI_pos' (by omega), (nI_leI (a := k) (b := 3) (by omega) (by omega)).mpr (by omega)⟩
  have z0 : ¬ nI k = 0 := fun z => n0 ((nI_0' k (by omega)).mp z)
  have z3 : ¬ nI k = 3 := fun z => n3 ((nI_eq (b := 3) (by omega) (by omega)).mp z)
  refine ⟨h1, ?_, p2, p3, WF.set hk (setW hk W.2.2.1 hb) W⟩
  unfold s_X8_set
  simp only [win8, qk, and_self, if_true, bnd, show ((1 : Int32) = 0) = False from eq_false (by decide), if_false, ldS_nI _ hk, hb]
  rw [if_neg z0]
  unfold s_X8_set_J44
  rw [if_neg z3]
  unfold s_X8_set_J63
  rw [S.x0, ls h S, s0, if_neg q, S.x3, S.x0]
  exact p1
theorem q_addHouse {h : Hp} {t : Nat} {e : Ent} (C : CST h e) (W : WFe e t) (n7 : e.2.1 < 8) {sa : Nat} {a2 a3 : Int32} (q1 : 1 ≤ nI sa ∧ nI sa ≤ 20) (s20 : sa ≤ 20) (q2 : 1 ≤ a2 ∧ a2 ≤ 50) (q3 : 0 ≤ a3 ∧ a3 ≤ 9999) :
    ∃ h1, s_X8_addHouse 1 (nI sa) a2 a3 h = some (nI e.2.1, h1) ∧ CST h1 (addF e.1 e.2.1 (nI sa) a2 a3, e.2.1 + 1, e.2.2) ∧ LFr h h1 ∧ WFe (addF e.1 e.2.1 (nI sa) a2 a3, e.2.1 + 1, e.2.2) t := by
  have S := C.sh
  have e2 : e.1 2 = nI e.2.1 := W.1.2.2.1
  have e3 : hI h 2 3 = nI e.2.1 := by rw [C.sr.2.1.1, e2]
  obtain ⟨h1, p1, p2, p3, -⟩ := rec_one C W (nI e.2.1) (addF e.1 e.2.1 (nI sa) a2 a3, e.2.1 + 1, e.2.2) (Z := True) (bc := fun h => getR h 1 8 0 fun x8 => inv h x8 6 (s_X6_settle x8 (nI sa) a2 a3 h) fun x9 h => retI x9 h) (fun g Cg => by
    have Sg := Cg.sh
    obtain ⟨g', b1, b2, b3, b4⟩ := c_settle Sg Cg.sr n7 (nI sa) a2 a3
    have Sg' : Sh g' := Sg.of b3 b2.1 (Nat.le_of_eq b2.2.1.symm)
    refine ⟨g', ?_, b2.ch.mono (fun x hx => Or.inl ?_), Sg', b4, fun j hj => ?_, trivial⟩
    · simp only [Sg.x0, inv6 Sg, b1, bnd, retI]
    · rcases hx with z | z
      · rw [z]; exact ST.T
      · rw [z]; exact ST.H n7
    · rw [(b2.2.2 238 (by omega)).1]
      exact Cg.z j hj)
  refine ⟨h1, ?_, p2, p3, WF.add n7 s20 a2 a3 W⟩
  unfold s_X8_addHouse
  simp only [win8, bnd, q1, q2, q3, and_self, if_true, if_false, show ((1 : Int32) = 0) = False from eq_false (by decide), S.x0, S.x3, get6 S, e3]
  rw [if_pos (by rw [show (8 : Int32) = nI 8 from rfl, nI_ltE (by omega) (by omega)]; exact n7)]
  exact p1
theorem q_power {h : Hp} {t : Nat} {e : Ent} (C : CST h e) (W : WFe e t) {a1 : Int32} (hv : a1 = 0 ∨ a1 = 1) :
    (e.1 1 = a1 → s_X8_power 1 a1 h = some (-5, h)) ∧
    (e.1 1 ≠ a1 → ∃ h1, s_X8_power 1 a1 h = some (sumL (isF (powR e.1 e.2.1 a1) 9 1) e.2.1 0 0, h1) ∧ CST h1 (powR e.1 e.2.1 a1, e.2.1, e.2.2) ∧ LFr h h1 ∧ WFe (powR e.1 e.2.1 a1, e.2.1, e.2.2) t) := by
  have S := C.sh
  have h7 : hI h 2 7 = e.1 1 := C.sr.2.1.2.2.2.2.1
  refine ⟨fun q => ?_, fun q => ?_⟩
  · unfold s_X8_power
    simp only [S.x0, get6 S, h7, q, if_true]
    rfl
  · obtain ⟨h1, p1, p2, p3, p4⟩ := rec_one C W (sumL (isF (powR e.1 e.2.1 a1) 9 1) e.2.1 0 0) (powR e.1 e.2.1 a1, e.2.1, e.2.2) (Z := WF (powR e.1 e.2.1 a1) e.2.1 e.2.2 t) (bc := fun h => getR h 1 8 0 fun x5 => inv h x5 6 (s_X6_switchPower x5 a1 h) fun _ h => getR h 1 8 0 fun x6 => inv h x6 6 (s_X6_washersIn x6 1 h) fun x7 h => retI x7 h) (fun g Cg => by
      have Sg := Cg.sh
      obtain ⟨g', b1, b2, b3, b4, b5, b6⟩ := c_switch hv Sg Cg.sr W
      have cw : s_X6_washersIn 2 1 g' = some (sumL (isF (powR e.1 e.2.1 a1) 9 1) e.2.1 0 0, g') := c_washersInL (e := (powR e.1 e.2.1 a1, e.2.1, e.2.2)) b4 b5 1 e.2.1 0 100000 0 (by simp) (by have := b6.1.1; omega)
      refine ⟨g', ?_, b2.mono (fun x hx => Or.inl hx), b4, b5, fun j hj => ?_, b6⟩
      · simp only [Sg.x0, inv6 Sg, b1, bnd, b4.x0, inv6 b4, cw, retI]
      · rw [(b2.2.2 238 (by have := Sg.2.2.2.2.2.2.2.2; omega) (fun z => by have := z.2.1; omega)).1]
        exact Cg.z j hj)
    refine ⟨h1, ?_, p2, p3, p4⟩
    unfold s_X8_power
    simp only [S.x0, S.x3, get6 S, h7, q, if_false]
    exact p1
theorem q_pass {h : Hp} {t m : Nat} (ht : t ≤ 38000) (m1 : 1 ≤ m) (m2 : m ≤ 60) {e : Ent} (C : CST h e) (W : WFe e t) :
    ∃ h1, s_X8_pass 1 (nI m) h = some (hetI m e 0, h1) ∧ CST h1 (minI m e) ∧ LFr h h1 ∧ MWs m e t := by
  have S := C.sh
  have q : 1 ≤ nI m ∧ nI m ≤ 60 := ⟨(nI_leI (a := 1) (b := m) (by omega) (by omega)).mpr m1, (nI_leI (a := m) (b := 60) (by omega) (by omega)).mpr m2⟩
  obtain ⟨h1, p1, p2, p3, p4⟩ := rec_one C W (hetI m e 0) (minI m e) (Z := MWs m e t) (bc := fun g => s_X8_pass_L28 100000 1 (nI m) 0 0 g) (fun g Cg => by
    obtain ⟨g', x1, x2, x3, x4, x5, x6⟩ := c_passL (show m ≤ 1000 by omega) m 0 100000 t g e 0 (by omega) (by omega) (by omega) Cg.sh Cg.sr W Cg.z
    exact ⟨g', x1, x2.mono (fun x hx => hx.sc), x3, x4, x5, x6⟩)
  refine ⟨h1, ?_, p2, p3, p4⟩
  unfold s_X8_pass
  rw [win8]
  simp only [bnd, q, and_self, if_true, show ((1 : Int32) = 0) = False from eq_false (by decide), if_false, getR, S.2.2.1.1, S.2.2.1.2.1, S.2.2.1.2.2.2.2.1, true_and, show ((2 : Nat) = 0) = False from eq_false (by decide), show ((101 : Nat) = 0) = False from eq_false (by decide), ne_eq, not_false_eq_true]
  exact p1
theorem q_heatNext {h : Hp} {t : Nat} (ht : t ≤ 38000) {e : Ent} (C : CST h e) (W : WFe e t) {i : Nat} (hi : i < e.2.1) :
    ∃ h1, s_X8_heatNext 1 (nI i) h = some (if e.1 1 = 0 then 0 else nI ((getA e.1 e.2.1 e.2.2).1 i), h1) ∧ CST h1 e ∧ LFr h h1 := by
  have S := C.sh
  have n8 : e.2.1 ≤ 8 := W.1.1
  have st2 : isSt 2 := Or.inl rfl
  have hN0 : 245 ≤ hN h := S.2.2.2.2.2.2.2.2
  have h7 : hI h 2 7 = e.1 1 := C.sr.2.1.2.2.2.2.1
  have q := inH_is n8 hi
  have hi8 : i < 8 := by omega
  by_cases q2 : e.1 1 = 0
  · rw [if_pos q2]
    refine ⟨h, ?_, C, LFr.rfl'⟩
    unfold s_X8_heatNext
    simp only [S.x0, inv6 S, c_has S C.sr, hasI_1 q, bnd, if_true, if_false, show ((1 : Int32) = 0) = False from eq_false (by decide), get6 S, h7, q2]
    rfl
  · rw [if_neg q2]
    obtain ⟨c, u, sn, v, C'⟩ := id C
    obtain ⟨h1, d1, d2, d3, d4, d5⟩ := c_divideHeat (t := t) st2 (by omega) S C.sr W.2.2.1 W.2.2.2.1 W.2.2.2.2.1 C.z
    have S1 : Sh h1 := S.of d3 d4 d2.1
    have C1 : CS h1 e c u sn v := C'.step (d2.mono (fun x hx => Or.inr hx)) S1 (SR.sp st2 S C'.2.1 d2) (getA_gI_tail d5 (getA_sum n8).2.2.2)
    refine ⟨h1, ?_, ⟨c, u, sn, v, C1⟩, d2.1, fun x x1 x2 => (d2.2.2 x (by omega) (fun z => by unfold SPP at z; omega)).1⟩
    unfold s_X8_heatNext
    simp only [S.x0, inv6 S, c_has S C.sr, hasI_1 q, bnd, if_false, show ((1 : Int32) = 0) = False from eq_false (by decide), get6 S, h7, if_neg q2, T_x4 S, d1]
    rw [T_x4 S1, T_g8 S1 hi8, d5]
    rfl
/-- what stays when the text is written -/
def AFr (h h' : Hp) : Prop := hN h' = hN h ∧ ∀ x, 241 ≤ x → x ≤ 245 → hI h' x = hI h x
theorem q_clearText {h : Hp} {e : Ent} (C : CST h e) : ∃ r h1, s_X8_clearText 1 h = some (r, h1) ∧ CST h1 e ∧ AFr h h1 ∧ TXT h1 0 (fun _ => 0) := by
  have S := C.sh
  obtain ⟨c, u, sn, v, C'⟩ := id C
  have S1 : Sh (sI h 239 1 0) := S.sI _ _ _
  have F : Ch TC h (sI h 239 1 0) := (Ch.rfl' (P := TC)).sI _ _ _ ⟨by omega, by omega⟩
  refine ⟨hI h 239 1, sI h 239 1 0, ?_, ⟨c, u, sn, v, C'.tc F S1⟩, ⟨rfl, fun x x1 x2 => hI_sIn _ _ _ _ _ (by omega)⟩, by omega, ?_, fun k hk => by omega⟩
  · unfold s_X8_clearText
    simp only [T_x5 S, T_u1 S, T_up1 S, retI]
  · rw [hI_sI, if_pos ⟨rfl, rfl⟩]
    rfl
theorem q_type {h : Hp} {e : Ent} (C : CST h e) {m : Nat} {Ct : Row} (X : TXT h m Ct) (q : m < 60) {a1 : Int32} (ha : vp_nar .char a1 = a1) : ∃ h1, s_X8_type 1 a1 h = some (nI (m + 1), h1) ∧ CST h1 e ∧ AFr h h1 ∧ TXT h1 (m + 1) (upd Ct m a1) := by
  have S := C.sh
  obtain ⟨c, u, sn, v, C'⟩ := id C
  obtain ⟨m60, x1, x3⟩ := X
  have S1 : Sh (sI h 240 m a1) := S.sI _ _ _
  have S2 : Sh (sI (sI h 240 m a1) 239 1 (nI (m + 1))) := S1.sI _ _ _
  have F : Ch TC h (sI (sI h 240 m a1) 239 1 (nI (m + 1))) := ((Ch.rfl' (P := TC)).sI _ _ _ ⟨by omega, by omega⟩).sI _ _ _ ⟨by omega, by omega⟩
  refine ⟨sI (sI h 240 m a1) 239 1 (nI (m + 1)), ?_, ⟨c, u, sn, v, C'.tc F S2⟩, ⟨rfl, fun x x1 x2 => by rw [hI_sIn _ _ _ _ _ (by omega), hI_sIn _ _ _ _ _ (by omega)]⟩, by omega, ?_, fun k hk => ?_⟩
  · unfold s_X8_type s_X5_append
    simp only [T_x5 S, T_ui S, T_u1 S, x1, if_pos (show nI m < 60 by rw [show (60 : Int32) = nI 60 from rfl, nI_ltE (by omega) (by omega)]; exact q), T_u0 S, T_us S q, ha]
    rw [T_u1 S1, hI_sIn _ _ _ _ _ (by omega), x1, T_up1 S1, nI_1]
    simp only [retZ, bnd, show ((1 : Int32) = 0) = False from eq_false (by decide), if_false, or_true, if_true]
    rw [T_x5 S2, T_u1 S2, hI_sI, if_pos ⟨rfl, rfl⟩]
    rfl
  · rw [hI_sI, if_pos ⟨rfl, rfl⟩]
  · rw [hI_sIn _ _ _ _ _ (show 240 ≠ 239 by omega), hI_sI]
    by_cases y : k = m
    · rw [if_pos ⟨rfl, y⟩, y, upd_eq]
      exact ⟨rfl, ha⟩
    · rw [if_neg (fun z => y z.2), upd_ne _ _ y]
      exact x3 k (by omega)
theorem q_readProgram {h : Hp} {t : Nat} {e : Ent} (C : CST h e) (W : WFe e t) {m : Nat} {Ct : Row} (X : TXT h m Ct) {f : Nat} {L : List (Int32 × Int32)} (hpr : prs Ct m 61 0 = (f, some L)) (l12 : L.length ≤ 12) (gl : gLF L L.length 0 = true) {i : Nat} (hi : i < e.2.1) :
    (pt e.1 i 9 = 1 → ∃ h1, s_X8_readProgram 1 (nI i) h = some (-4, h1) ∧ CST h1 e ∧ LFr h h1) ∧
    (pt e.1 i 9 ≠ 1 → ∃ h1, s_X8_readProgram 1 (nI i) h = some (nI L.length, h1) ∧ CST h1 (prgW e.1 i L, e.2.1, e.2.2) ∧ LFr h h1 ∧ WFe (prgW e.1 i L, e.2.1, e.2.2) t) := by
  have S := C.sh
  obtain ⟨c, u, sn, v, C'⟩ := id C
  have n8 : e.2.1 ≤ 8 := W.1.1
  have st2 : isSt 2 := Or.inl rfl
  have hN0 : 245 ≤ hN h := S.2.2.2.2.2.2.2.2
  obtain ⟨m60, x1, x3⟩ := X
  have q := inH_is n8 hi
  have hi8 : i < 8 := by omega
  have pc : prs (hI h 240) m 61 0 = (f, some L) := by
    rw [← hpr]
    exact prs_congr (fun k hk => (x3 k hk).1) 61 0
  have cf := c_firstFault S x1 m60
  rw [pc] at cf
  have cf' : s_X5_firstFault 239 h = some (-5, h) := cf
  have V := (prs_PV 61 0 f L hpr).2
  obtain ⟨g0, p1, p2, Sg0, O0, n0, A0⟩ := c_toProgram S x1 m60 pc (by omega)
  obtain ⟨P, hP⟩ : ∃ P, P = hN h + 1 := ⟨_, rfl⟩
  rw [← hP] at p1 O0 A0
  have P246 : 246 ≤ P := by omega
  have far0 : ∀ x, x ≤ 245 → hI g0 x = hI h x := fun x hx => (p2.2.2 x (by omega) (fun z => z)).1
  have C0 : CS g0 e c u sn v := C'.tc (p2.mono (fun x hx => hx.elim)) Sg0
  have gd0 : s_X4_hasGoodNumbers P g0 = some (if gLF L L.length 0 then 1 else 0, g0) := c_goodL O0 A0 V L.length 0 100000 (by omega) (by omega)
  have i0 : hI g0 P 0 = nI L.length := O0.2.2.2.1
  have t0 : hT g0 P = (4, 0) := O0.1
  have r9 : hI g0 (2 + 8 + 2 * i) 1 = pt e.1 i 9 := (C0.2.1.hr hi).w.1.1
  have cls : s_X8_readProgram 1 (nI i) h = if pt e.1 i 9 = 1 then some (-4, g0) else (bnd (s_X1_record 101 2 g0) fun _ h => getR h 1 8 0 fun x14 => inv h x14 6 (s_X6_washerOf x14 (nI i) h) fun x15 h => putR h x15 7 0 P fun h => getI h P 4 0 fun x16 => retI x16 h) := by
    have ivP : ∀ {α β : Type} (x : Rv α) (f : α → Hp → Rv β), inv g0 P 4 x f = bnd x f := fun x f => by simp only [inv, t0, if_true]
    have iv1 : ∀ {α β : Type} (x : Rv α) (f : α → Hp → Rv β), inv g0 101 1 x f = bnd x f := fun x f => by simp only [inv, Sg0.2.2.2.1.1, if_true]
    have gtP : ∀ {α : Type} (f : Int32 → Option α), getI g0 P 4 0 f = f (nI L.length) := fun f => by simp only [getI, t0, if_true, i0]
    unfold s_X8_readProgram
    simp only [S.x0, inv6 S, c_has S C.sr, hasI_1 q, bnd, if_false, show ((1 : Int32) = 0) = False from eq_false (by decide), T_x5 S, T_ui S, cf', if_true, p1, ivP, gd0, gl]
    simp only [if_true, show ((1 : Int32) = 0) = False from eq_false (by decide), if_false, gtP]
    rw [if_pos (by rw [show (12 : Int32) = nI 12 from rfl, nI_leE (by omega) (by omega)]; exact l12)]
    simp only [Sg0.x0, inv6 Sg0, c_washerOf Sg0 st2 hi8, bnd, getW Sg0 hi8, r9]
    by_cases y : pt e.1 i 9 = 1
    · rw [if_pos y, if_pos y]
      rfl
    · rw [if_neg y, if_neg y, Sg0.x3, iv1]
      rfl
  refine ⟨fun y => ?_, fun y => ?_⟩
  · rw [if_pos y] at cls
    exact ⟨g0, cls, ⟨c, u, sn, v, C0⟩, by omega, fun x x1 x2 => far0 x x2⟩
  · rw [if_neg y] at cls
    obtain ⟨g1, d1, d2, d3, d4, d5⟩ := c_record C0 W.2.1
    obtain ⟨g1', d1', d6⟩ := c_recR C0 W.2.1
    have eg1 : g1' = g1 := by
      rw [d1] at d1'
      injection d1' with a
      injection a with a b
      exact b.symm
    rw [eg1] at d6
    have hi1 : ∀ x, 242 ≤ x → hI g1 x = hI g0 x := fun x hx => d4 x (Or.inl hx)
    have O1 : PO g1 P L.length := O0.rec P246 d2 d6 hi1
    have A1 : AtL (hI g1 (P + 1)) (hI g1 (P + 2)) 0 L := by rw [hi1 _ (by omega), hi1 _ (by omega)]; exact A0
    obtain ⟨s1, s2, s3⟩ := c_setProg d5.1 d5.2.1 hi P246 (by omega) l12 O1 A1
    have C1 : CS (sR g1 (2 + 8 + 2 * i) 0 P) (prgW e.1 i L, e.2.1, e.2.2) (recC c) (recU c u e) sn v := d5.step (s1.mono (fun x hx => Or.inl (by rw [hx]; exact ST.W hi8))) s2 s3 d5.2.2.2.2
    have far1 : ∀ x, 239 ≤ x → x ≤ 245 → hI (sR g1 (2 + 8 + 2 * i) 0 P) x = hI h x := fun x x1 x2 => (d4 x (by omega)).trans (far0 x x2)
    refine ⟨sR g1 (2 + 8 + 2 * i) 0 P, ?_, ⟨_, _, _, _, C1⟩, ⟨by show hN h ≤ hN g1; omega, far1⟩, WF.house hi (fun j hj => prgW_off e.1 i l12 hj) (fun k hk => prgW_lo e.1 i l12 (by omega) (by omega)) ((W.2.2.2.2.1 i hi).prog l12 V y) W⟩
    rw [cls, d1]
    simp only [bnd, d5.1.x0, inv6 d5.1, c_washerOf d5.1 st2 hi8]
    have tP : hT g1 P = (4, 0) := O1.1
    have iP : hI g1 P 0 = nI L.length := O1.2.2.2.1
    simp only [putR, d5.1.tW st2 hi8, true_and, show ¬ (P = 0) by omega, ne_eq, not_false_eq_true, if_true, getI, hT_sR, tP, hI_sR, iP, retI]
/-- haggle among houses that are there, with numbers in their ranges -/
theorem q_haggle {h : Hp} {t : Nat} {e : Ent} (C : CST h e) (W : WFe e t) {i o x : Nat} (hi : i < e.2.1) (ho : o < e.2.1) (hio : i ≠ o) (x1 : 1 ≤ x) (x20 : x ≤ 20) {a4 a5 : Int32} (z4 : 1 ≤ a4 ∧ a4 ≤ 9999) (z5 : 1 ≤ a5 ∧ a5 ≤ 240) (hl : e.2.2 < 10) :
    ((pt e.1 o 0 - lentF e.1 e.2.2 (nI o) < nI x ∨ ¬ a4 ≤ pt e.1 i 2) → s_X8_haggle 1 (nI i) (nI o) (nI x) a4 a5 h = some (-4, h)) ∧
    (¬ (pt e.1 o 0 - lentF e.1 e.2.2 (nI o) < nI x) → a4 ≤ pt e.1 i 2 → a4 < askF e.1 o (nI x) → ∃ h1, s_X8_haggle 1 (nI i) (nI o) (nI x) a4 a5 h = some (0, h1) ∧ CST h1 (refF e.1 i o (if 2 * a4 < askF e.1 o (nI x) then 1 else -1), e.2.1, e.2.2) ∧ LFr h h1 ∧ WFe (refF e.1 i o (if 2 * a4 < askF e.1 o (nI x) then 1 else -1), e.2.1, e.2.2) t) ∧
    (¬ (pt e.1 o 0 - lentF e.1 e.2.2 (nI o) < nI x) → a4 ≤ pt e.1 i 2 → ¬ a4 < askF e.1 o (nI x) → ∃ h1, s_X8_haggle 1 (nI i) (nI o) (nI x) a4 a5 h = some ((a4 + askF e.1 o (nI x)) / 2, h1) ∧ CST h1 (dealF e.1 e.2.2 i o (nI x) a5 ((a4 + askF e.1 o (nI x)) / 2), e.2.1, e.2.2 + 1) ∧ LFr h h1 ∧ WFe (dealF e.1 e.2.2 i o (nI x) a5 ((a4 + askF e.1 o (nI x)) / 2), e.2.1, e.2.2 + 1) t) := by
  have S := C.sh
  have n8 : e.2.1 ≤ 8 := W.1.1
  have st2 : isSt 2 := Or.inl rfl
  have q := inH_is n8 hi
  have q' := inH_is n8 ho
  have hi8 : i < 8 := by omega
  have ho8 : o < 8 := by omega
  have z3 : 1 ≤ nI x ∧ nI x ≤ 20 := ⟨(nI_leI (a := 1) (b := x) (by omega) (by omega)).mpr x1, (nI_leI (a := x) (b := 20) (by omega) (by omega)).mpr x20⟩
  have z6' : (nI i = nI o) = False := eq_false (fun z => hio ((nI_eq (by omega) (by omega)).mp z))
  have cu := c_unlentOf S st2 C.sr ho
  have v2 : hI h (2 + 7 + 2 * i) 3 = pt e.1 i 2 := (C.sr.hr hi).cc 2 (by omega)
  have e4 : hI h 2 4 = nI e.2.2 := by rw [C.sr.2.1.2.1]; exact W.1.2.2.2
  have hx : ∀ {α : Type} (f : Nat → Option α), (getR h 2 6 1 fun x1 => ldR h x1 22 (nI i) f) = f (2 + 7 + 2 * i) := fun f => c_house S st2 hi8 f
  have ca : ∀ g, Sh g → SRe g 2 e → s_X6_askOf 2 (nI o) (nI x) g = some (askF e.1 o (nI x), g) := fun g Sg Rg => c_askOf Sg Rg ho ho8 (nI x)
  have fin : ¬ (pt e.1 o 0 - lentF e.1 e.2.2 (nI o) < nI x) → a4 ≤ pt e.1 i 2 → ∀ r h1, (inv h 101 1 (s_X1_record 101 2 h) fun _ g => hagC i o x a4 a5 g) = some (r, h1) → s_X8_haggle 1 (nI i) (nI o) (nI x) a4 a5 h = some (r, h1) := fun y1 y2 r h1 p1 => by
    unfold s_X8_haggle
    simp only [S.x0, S.x3, inv6 S, c_has S C.sr, hasI_1 q, hasI_1 q', bnd, win8, z3, z4, z5, and_self, if_true, if_false, show ((1 : Int32) = 0) = False from eq_false (by decide), z6', cu, y1, hx, S.getH hi8, v2, y2, get6 S, e4]
    rw [if_pos (by rw [show (10 : Int32) = nI 10 from rfl, nI_ltE (by omega) (by omega)]; exact hl)]
    exact p1
  refine ⟨fun y => ?_, fun y1 y2 y4 => ?_, fun y1 y2 y4 => ?_⟩
  · by_cases y1 : pt e.1 o 0 - lentF e.1 e.2.2 (nI o) < nI x
    · unfold s_X8_haggle
      simp only [S.x0, inv6 S, c_has S C.sr, hasI_1 q, hasI_1 q', bnd, win8, z3, z4, z5, and_self, if_true, if_false, show ((1 : Int32) = 0) = False from eq_false (by decide), z6', cu, y1]
      rfl
    · have y2 : ¬ a4 ≤ pt e.1 i 2 := y.elim (fun z => absurd z y1) id
      unfold s_X8_haggle
      simp only [S.x0, inv6 S, c_has S C.sr, hasI_1 q, hasI_1 q', bnd, win8, z3, z4, z5, and_self, if_true, if_false, show ((1 : Int32) = 0) = False from eq_false (by decide), z6', cu, y1, hx, S.getH hi8, v2, y2]
      rfl
  · obtain ⟨h1, p1, p2, p3, -⟩ := rec_one C W 0 (refF e.1 i o (if 2 * a4 < askF e.1 o (nI x) then 1 else -1), e.2.1, e.2.2) (Z := True) (bc := hagC i o x a4 a5) (fun g Cg => by
      have Sg := Cg.sh
      obtain ⟨g', b1, b2, b3, b4⟩ := c_refuse Sg Cg.sr hi ho hio hl (if 2 * a4 < askF e.1 o (nI x) then 0 else 1)
      refine ⟨g', ?_, b2.ch.mono (fun x hx => Or.inl (hx.st hl hi8 ho8)), Sg.of b3 b2.1 (Nat.le_of_eq b2.2.1.symm), ?_, fun j hj => ?_, trivial⟩
      · unfold hagC
        simp only [Sg.x0, inv6 Sg, ca g Sg Cg.sr, bnd, if_neg (Int32.not_le.mpr y4)]
        by_cases w : 2 * a4 < askF e.1 o (nI x)
        · rw [if_pos w] at b1
          rw [if_pos w, b1]
          rfl
        · rw [if_neg w] at b1
          rw [if_neg w, b1]
          rfl
      · by_cases w : 2 * a4 < askF e.1 o (nI x)
        · rw [if_pos w] at b4 ⊢
          exact b4
        · rw [if_neg w] at b4 ⊢
          exact b4
      · rw [(b2.2.2 238 (fun z => by unfold HgC at z; omega)).1]
        exact Cg.z j hj)
    exact ⟨h1, fin y1 y2 0 h1 p1, p2, p3, WF.ref hi ho hio _ W⟩
  · obtain ⟨h1, p1, p2, p3, -⟩ := rec_one C W ((a4 + askF e.1 o (nI x)) / 2) (dealF e.1 e.2.2 i o (nI x) a5 ((a4 + askF e.1 o (nI x)) / 2), e.2.1, e.2.2 + 1) (Z := True) (bc := hagC i o x a4 a5) (fun g Cg => by
      have Sg := Cg.sh
      obtain ⟨g1, g', b0, Sg1, b1, b2, b3, b4⟩ := c_deal Sg Cg.sr hi ho hio hl (nI x) a5 ((a4 + askF e.1 o (nI x)) / 2)
      refine ⟨g', ?_, b2.ch.mono (fun x hx => Or.inl (hx.st hl hi8 ho8)), Sg.of b3 b2.1 (Nat.le_of_eq b2.2.1.symm), b4, fun j hj => ?_, trivial⟩
      · unfold hagC
        simp only [Sg.x0, inv6 Sg, ca g Sg Cg.sr, bnd, if_pos (Int32.not_lt.mp y4), divI_2, b0, Sg1.x0, inv6 Sg1, b1, retI]
      · rw [(b2.2.2 238 (fun z => by unfold HgC at z; omega)).1]
        exact Cg.z j hj)
    exact ⟨h1, fin y1 y2 _ h1 p1, p2, p3, WF.deal hi ho hio hl x20 a5 _ y1 W⟩
