/-! haggle, both sides -/
theorem r_refuse {h : Hp} (S : Sh h) {i o : Nat} (hi : i < 8) (ho : o < 8) (hio : i ≠ o) (w a b : Row) (y : Prop) [Decidable y] :
    (inv (sQ h w a b) 241 9 (s_X9_addPart 241 (nI i) 6 1 (sQ h w a b)) fun _ h => getR h 241 9 0 fun x11 => ldI h x11 20 10 fun x12 => stI h x11 20 10 (x12 + 1) fun h => if y then inv h 241 9 (s_X9_changePrice 241 (nI o) 1 h) fun _ h => retI 0 h else inv h 241 9 (s_X9_changePrice 241 (nI o) (-1) h) fun _ h => retI 0 h) = some (0, sQ h (refF w i o (if y then 1 else -1)) a b) := by
  have e10 : ∀ v, sp w i 6 v 10 = w 10 := fun v => sp_lo _ _ _ _ _ (by omega)
  have po : ∀ v x, pt (upd (sp w i 6 v) 10 x) o 1 = pt w o 1 := fun v x => by rw [pt_upd _ _ _ _ _ (by omega), pt_sp_ne _ _ hio (by omega) (by omega)]
  simp only [q_inv S, ra_6 S hi, bnd, qg S, ql_10 S, qs_10 S, r_changePrice S ho, retI, e10, po]
  unfold refF
  split <;> rfl
theorem divI_2 {α : Type} (x : Int32) (f : Int32 → Option α) : divI x 2 f = f (x / 2) := if_neg (by decide)
def hagC (i o x : Nat) (a4 a5 : Int32) (h : Hp) : Rv Int32 := getR h 1 8 0 fun x18 => inv h x18 6 (s_X6_askOf x18 (nI o) (nI x) h) fun x19 h => if x19 ≤ a4 then divI (a4 + x19) 2 fun x20 => getR h 1 8 0 fun x21 => inv h x21 6 (s_X6_pay x21 (nI i) (nI o) x20 h) fun _ h => getR h 1 8 0 fun x22 => inv h x22 6 (s_X6_lend x22 (nI i) (nI o) (nI x) a5 x20 h) fun _ h => retI x20 h else getR h 1 8 0 fun x23 => if (2 * a4) < x19 then inv h x23 6 (s_X6_refuse x23 (nI i) (nI o) 0 h) fun _ h => retI 0 h else inv h x23 6 (s_X6_refuse x23 (nI i) (nI o) 1 h) fun _ h => retI 0 h
def hagR (i o x : Nat) (a4 a5 : Int32) (h : Hp) : Rv Int32 := inv h 241 9 (s_X9_askOf 241 (nI o) (nI x) h) fun x10 h => if a4 < x10 then inv h 241 9 (s_X9_addPart 241 (nI i) 6 1 h) fun _ h => getR h 241 9 0 fun x11 => ldI h x11 20 10 fun x12 => stI h x11 20 10 (x12 + 1) fun h => if (2 * a4) < x10 then inv h 241 9 (s_X9_changePrice 241 (nI o) 1 h) fun _ h => retI 0 h else inv h 241 9 (s_X9_changePrice 241 (nI o) (-1) h) fun _ h => retI 0 h else divI (a4 + x10) 2 fun x13 => inv h 241 9 (s_X9_deals 241 (nI i) (nI o) (nI x) a5 x13 h) fun _ h => retI x13 h
theorem p_haggle (t : Nat) (a1 a2 a3 a4 a5 : Int32) : Pair (s_X8_haggle 1 a1 a2 a3 a4 a5) (s_X9_haggle 241 a1 a2 a3 a4 a5) t := by
  intro h R
  have R' := R
  obtain ⟨e, c, u, sn, v, C, Q, W, X⟩ := R
  have S := C.1
  have n8 : e.2.1 ≤ 8 := W.1.1.1
  have e2 : e.1 2 = nI e.2.1 := W.1.1.2.2.1
  have st2 : isSt 2 := Or.inl rfl
  have hh2 : hI h 242 2 = nI e.2.1 := by rw [Q.1]; exact e2
  by_cases q : inH a1 e.2.1
  · by_cases q' : inH a2 e.2.1
    · by_cases z3 : 1 ≤ a3 ∧ a3 ≤ 20
      · by_cases z4 : 1 ≤ a4 ∧ a4 ≤ 9999
        · by_cases z5 : 1 ≤ a5 ∧ a5 ≤ 240
          · by_cases z6 : a1 = a2
            · refine Pair.same (x := fun h => _) (m := fun h => _) R' (-2) ?_ ?_
              · unfold s_X8_haggle
                simp only [S.x0, inv6 S, c_has S C.2.1, hasI_1 q, hasI_1 q', bnd, win8, z3, z4, z5, and_self, if_true, if_false, show ((1 : Int32) = 0) = False from eq_false (by decide), if_pos z6]
                rfl
              · unfold s_X9_haggle
                simp only [inv9 S, r_has S hh2, hasI_1 q, hasI_1 q', bnd, win9, z3, z4, z5, and_self, if_true, if_false, show ((1 : Int32) = 0) = False from eq_false (by decide), if_pos z6]
                rfl
            · obtain ⟨i, rfl, hi⟩ := inH_of n8 q
              obtain ⟨o, rfl, ho⟩ := inH_of n8 q'
              obtain ⟨x, rfl, x1, x20⟩ := win_of (lo := 1) (hi := 20) (by omega) (by omega) z3
              have hi8 : i < 8 := by omega
              have ho8 : o < 8 := by omega
              have hio : i ≠ o := fun y => z6 (by rw [y])
              have z6' : (nI i = nI o) = False := eq_false z6
              have cu := c_unlentOf S st2 C.2.1 ho
              have v2 : hI h (2 + 7 + 2 * i) 3 = pt e.1 i 2 := (C.2.1.hr hi).cc 2 (by omega)
              have e4 : hI h 2 4 = nI e.2.2 := by rw [C.2.1.2.1.2.1]; exact W.1.1.2.2.2
              have l10 : e.2.2 ≤ 10 := W.1.1.2.1
              have lt : ∀ g, Sh g → hI g 242 = e.1 → s_X9_hasToLend 241 (nI o) (nI x) g = some (if pt e.1 o 0 - lentF e.1 e.2.2 (nI o) < nI x then 0 else 1, g) := fun g Sg eg => by
                have := r_hasToLend Sg ho8 (w := e.1) W.1.1.2.1 W.1.1.2.2.2 (nI x) (hI g 247) (hI g 248)
                rwa [← sQ_of eg] at this
              have pa : ∀ g, Sh g → hI g 242 = e.1 → s_X9_part 241 (nI i) 2 g = some (pt e.1 i 2, g) := fun g Sg eg => by
                have := rp_2 Sg hi8 e.1 (hI g 247) (hI g 248)
                rwa [← sQ_of eg] at this
              have g8 : ∀ (g : Hp), Sh g → hI g 242 = e.1 → ∀ {α : Type} (f : Int32 → Option α), (getR g 241 9 0 fun x2 => ldI g x2 20 8 f) = f (nI e.2.2) := fun g Sg eg α f => by
                rw [sQ_of eg, qg Sg, ql_8 Sg, W.1.1.2.2.2]
              have hx : ∀ {α : Type} (f : Nat → Option α), (getR h 2 6 1 fun x1 => ldR h x1 22 (nI i) f) = f (2 + 7 + 2 * i) := fun f => c_house S st2 hi8 f
              by_cases y1 : pt e.1 o 0 - lentF e.1 e.2.2 (nI o) < nI x
              · refine Pair.same (x := fun h => _) (m := fun h => _) R' (-4) ?_ ?_
                · unfold s_X8_haggle
                  simp only [S.x0, inv6 S, c_has S C.2.1, hasI_1 q, hasI_1 q', bnd, win8, z3, z4, z5, and_self, if_true, if_false, show ((1 : Int32) = 0) = False from eq_false (by decide), z6', cu, y1]
                  rfl
                · unfold s_X9_haggle
                  simp only [inv9 S, r_has S hh2, hasI_1 q, hasI_1 q', bnd, win9, z3, z4, z5, and_self, if_true, if_false, show ((1 : Int32) = 0) = False from eq_false (by decide), z6', lt h S Q.1, y1]
                  rfl
              · by_cases y2 : a4 ≤ pt e.1 i 2
                · by_cases y3 : e.2.2 = 10
                  · refine Pair.same (x := fun h => _) (m := fun h => _) R' (-3) ?_ ?_
                    · unfold s_X8_haggle
                      simp only [S.x0, inv6 S, c_has S C.2.1, hasI_1 q, hasI_1 q', bnd, win8, z3, z4, z5, and_self, if_true, if_false, show ((1 : Int32) = 0) = False from eq_false (by decide), z6', cu, y1, hx, S.getH hi8, v2, y2, get6 S, e4]
                      rw [if_neg (by rw [y3]; decide)]
                      rfl
                    · unfold s_X9_haggle
                      simp only [inv9 S, r_has S hh2, hasI_1 q, hasI_1 q', bnd, win9, z3, z4, z5, and_self, if_true, if_false, show ((1 : Int32) = 0) = False from eq_false (by decide), z6', lt h S Q.1, y1, pa h S Q.1, y2, g8 h S Q.1]
                      rw [if_pos (by rw [y3]; rfl)]
                      rfl
                  · have hl : e.2.2 < 10 := by omega
                    have ca : ∀ g, Sh g → SRe g 2 e → s_X6_askOf 2 (nI o) (nI x) g = some (askF e.1 o (nI x), g) := fun g Sg Rg => c_askOf Sg Rg ho ho8 (nI x)
                    have ra : ∀ g, Sh g → ∀ a b, s_X9_askOf 241 (nI o) (nI x) (sQ g e.1 a b) = some (askF e.1 o (nI x), sQ g e.1 a b) := fun g Sg a b => r_askOf Sg ho8 (nI x) e.1 a b
                    have fin : ∀ r h1 h2, (inv h 101 1 (s_X1_record 101 2 h) fun _ g => hagC i o x a4 a5 g) = some (r, h1) →
                        (inv h1 241 9 (s_X9_record 241 h1) fun _ g => hagR i o x a4 a5 g) = some (r, h2) →
                        Sh h1 → hI h1 242 = e.1 → s_X8_haggle 1 (nI i) (nI o) (nI x) a4 a5 h = some (r, h1) ∧ s_X9_haggle 241 (nI i) (nI o) (nI x) a4 a5 h1 = some (r, h2) := fun r h1 h2 p1 p2 S1 p5 => by
                      constructor
                      · unfold s_X8_haggle
                        simp only [S.x0, S.x3, inv6 S, c_has S C.2.1, hasI_1 q, hasI_1 q', bnd, win8, z3, z4, z5, and_self, if_true, if_false, show ((1 : Int32) = 0) = False from eq_false (by decide), z6', cu, y1, hx, S.getH hi8, v2, y2, get6 S, e4]
                        rw [if_pos (by rw [show (10 : Int32) = nI 10 from rfl, nI_ltE (by omega) (by omega)]; exact hl)]
                        exact p1
                      · unfold s_X9_haggle
                        simp only [inv9 S1, r_has S1 (show hI h1 242 2 = nI e.2.1 by rw [p5]; exact e2), hasI_1 q, hasI_1 q', bnd, win9, z3, z4, z5, and_self, if_true, if_false, show ((1 : Int32) = 0) = False from eq_false (by decide), z6', lt h1 S1 p5, y1, pa h1 S1 p5, y2, g8 h1 S1 p5]
                        rw [if_neg (by rw [show (10 : Int32) = nI 10 from rfl, nI_eqE (by omega) (by omega)]; exact y3)]
                        rw [inv9 S1] at p2
                        exact p2
                    by_cases y4 : a4 < askF e.1 o (nI x)
                    · obtain ⟨h1, h2, p1, p2, p3, S1, ⟨p5, -⟩⟩ := rec_pair C Q W X 0 (refF e.1 i o (if 2 * a4 < askF e.1 o (nI x) then 1 else -1), e.2.1, e.2.2) (Z := True) (bc := hagC i o x a4 a5) (br := hagR i o x a4 a5) (fun g Cg => by
                        have Sg := Cg.1
                        obtain ⟨g', b1, b2, b3, b4⟩ := c_refuse Sg Cg.2.1 hi ho hio hl (if 2 * a4 < askF e.1 o (nI x) then 0 else 1)
                        refine ⟨g', ?_, b2.ch.mono (fun x hx => Or.inl (hx.st hl hi8 ho8)), Sg.of b3 b2.1 (Nat.le_of_eq b2.2.1.symm), ?_, fun j hj => ?_, trivial⟩
                        · unfold hagC
                          simp only [Sg.x0, inv6 Sg, ca g Sg Cg.2.1, bnd, if_neg (Int32.not_le.mpr y4)]
                          by_cases w : 2 * a4 < askF e.1 o (nI x)
                          · rw [if_pos w] at b1
                            rw [if_pos w, b1]
                            rfl
                          · rw [if_neg w] at b1
                            rw [if_neg w, b1]
                            rfl
                        · by_cases w : 2 * a4 < askF e.1 o (nI x)
                          · rw [if_pos w] at b4 ⊢
                            exact b4
                          · rw [if_neg w] at b4 ⊢
                            exact b4
                        · rw [(b2.2.2 238 (fun z => by unfold HgC at z; omega)).1]
                          exact Cg.2.2.2.2 j hj) (fun _ g Sg Qg => by
                        refine ⟨hI g 247, hI g 248, ?_, Qg.2.2.2⟩
                        have k := r_refuse Sg hi8 ho8 hio e.1 (hI g 247) (hI g 248) (2 * a4 < askF e.1 o (nI x))
                        have k2 := ra g Sg (hI g 247) (hI g 248)
                        rw [← sQ_of Qg.1] at k k2
                        unfold hagR
                        rw [inv9 Sg, k2]
                        simp only [bnd, if_pos y4]
                        exact k) (fun _ => (WF.ref hi ho hio _ W.1).mono (by omega))
                      obtain ⟨f1, f2⟩ := fin 0 h1 h2 p1 p2 S1 p5
                      exact ⟨0, h1, h2, f1, f2, p3, S1⟩
                    · obtain ⟨h1, h2, p1, p2, p3, S1, ⟨p5, -⟩⟩ := rec_pair C Q W X ((a4 + askF e.1 o (nI x)) / 2) (dealF e.1 e.2.2 i o (nI x) a5 ((a4 + askF e.1 o (nI x)) / 2), e.2.1, e.2.2 + 1) (Z := True) (bc := hagC i o x a4 a5) (br := hagR i o x a4 a5) (fun g Cg => by
                        have Sg := Cg.1
                        obtain ⟨g1, g', b0, Sg1, b1, b2, b3, b4⟩ := c_deal Sg Cg.2.1 hi ho hio hl (nI x) a5 ((a4 + askF e.1 o (nI x)) / 2)
                        refine ⟨g', ?_, b2.ch.mono (fun x hx => Or.inl (hx.st hl hi8 ho8)), Sg.of b3 b2.1 (Nat.le_of_eq b2.2.1.symm), b4, fun j hj => ?_, trivial⟩
                        · unfold hagC
                          simp only [Sg.x0, inv6 Sg, ca g Sg Cg.2.1, bnd, if_pos (Int32.not_lt.mp y4), divI_2, b0, Sg1.x0, inv6 Sg1, b1, retI]
                        · rw [(b2.2.2 238 (fun z => by unfold HgC at z; omega)).1]
                          exact Cg.2.2.2.2 j hj) (fun _ g Sg Qg => by
                        refine ⟨hI g 247, hI g 248, ?_, Qg.2.2.2⟩
                        have k := r_deals Sg hi8 ho8 hio hl W.1.1.2.2.2 (nI x) a5 ((a4 + askF e.1 o (nI x)) / 2) (hI g 247) (hI g 248)
                        have k2 := ra g Sg (hI g 247) (hI g 248)
                        rw [← sQ_of Qg.1] at k k2
                        unfold hagR
                        simp only [inv9 Sg, k2, bnd, if_neg y4, divI_2, k, retI]) (fun _ => (WF.deal hi ho hio hl x20 a5 _ y1 W.1).mono (by omega))
                      obtain ⟨f1, f2⟩ := fin _ h1 h2 p1 p2 S1 p5
                      exact ⟨_, h1, h2, f1, f2, p3, S1⟩
                · refine Pair.same (x := fun h => _) (m := fun h => _) R' (-4) ?_ ?_
                  · unfold s_X8_haggle
                    simp only [S.x0, inv6 S, c_has S C.2.1, hasI_1 q, hasI_1 q', bnd, win8, z3, z4, z5, and_self, if_true, if_false, show ((1 : Int32) = 0) = False from eq_false (by decide), z6', cu, y1, hx, S.getH hi8, v2, y2]
                    rfl
                  · unfold s_X9_haggle
                    simp only [inv9 S, r_has S hh2, hasI_1 q, hasI_1 q', bnd, win9, z3, z4, z5, and_self, if_true, if_false, show ((1 : Int32) = 0) = False from eq_false (by decide), z6', lt h S Q.1, y1, pa h S Q.1, y2]
                    rfl
          · refine Pair.same (x := fun h => _) (m := fun h => _) R' (-2) ?_ ?_
            · unfold s_X8_haggle
              simp only [S.x0, inv6 S, c_has S C.2.1, hasI_1 q, hasI_1 q', bnd, win8, z3, z4, z5, and_self, if_true, if_false, show ((1 : Int32) = 0) = False from eq_false (by decide)]
              rfl
            · unfold s_X9_haggle
              simp only [inv9 S, r_has S hh2, hasI_1 q, hasI_1 q', bnd, win9, z3, z4, z5, and_self, if_true, if_false, show ((1 : Int32) = 0) = False from eq_false (by decide)]
              rfl
        · refine Pair.same (x := fun h => _) (m := fun h => _) R' (-2) ?_ ?_
          · unfold s_X8_haggle
            simp only [S.x0, inv6 S, c_has S C.2.1, hasI_1 q, hasI_1 q', bnd, win8, z3, z4, and_self, if_true, if_false, show ((1 : Int32) = 0) = False from eq_false (by decide)]
            rfl
          · unfold s_X9_haggle
            simp only [inv9 S, r_has S hh2, hasI_1 q, hasI_1 q', bnd, win9, z3, z4, and_self, if_true, if_false, show ((1 : Int32) = 0) = False from eq_false (by decide)]
            rfl
      · refine Pair.same (x := fun h => _) (m := fun h => _) R' (-2) ?_ ?_
        · unfold s_X8_haggle
          simp only [S.x0, inv6 S, c_has S C.2.1, hasI_1 q, hasI_1 q', bnd, win8, z3, and_self, if_true, if_false, show ((1 : Int32) = 0) = False from eq_false (by decide)]
          rfl
        · unfold s_X9_haggle
          simp only [inv9 S, r_has S hh2, hasI_1 q, hasI_1 q', bnd, win9, z3, and_self, if_true, if_false, show ((1 : Int32) = 0) = False from eq_false (by decide)]
          rfl
    · refine Pair.same (x := fun h => _) (m := fun h => _) R' (-1) ?_ ?_
      · unfold s_X8_haggle
        simp only [S.x0, inv6 S, c_has S C.2.1, hasI_1 q, hasI_0 q', bnd, if_true, if_false, show ((1 : Int32) = 0) = False from eq_false (by decide)]
        rfl
      · unfold s_X9_haggle
        simp only [inv9 S, r_has S hh2, hasI_1 q, hasI_0 q', bnd, if_true, if_false, show ((1 : Int32) = 0) = False from eq_false (by decide)]
        rfl
  · refine Pair.same (x := fun h => _) (m := fun h => _) R' (-1) ?_ ?_
    · unfold s_X8_haggle
      simp only [S.x0, inv6 S, c_has S C.2.1, hasI_0 q, bnd, if_true, if_false]
      rfl
    · unfold s_X9_haggle
      simp only [inv9 S, r_has S hh2, hasI_0 q, bnd, if_true, if_false]
      rfl
