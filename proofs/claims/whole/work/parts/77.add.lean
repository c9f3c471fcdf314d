/-! addHouse: the call -/
theorem c_settle {h : Hp} {w : Row} {n nl : Nat} (S : Sh h) (R : SR h 2 w n nl) (h8 : n < 8) (a b c : Int32) :
    ∃ h', s_X6_settle 2 a b c h = some (nI n, h') ∧ Fr (fun x => x = 2 ∨ x = 2 + 7 + 2 * n) h h' ∧ hR h' = hR h ∧ SR h' 2 (addF w n a b c) (n + 1) nl := by
  have st2 : isSt 2 := Or.inl rfl
  have e3 : hI h 2 3 = nI n := by rw [R.2.1.1, R.1.1]
  have hA : hT h (2 + 7 + 2 * n) = (2, 0) := S.tH st2 h8
  have F : Fr (fun x => x = 2 ∨ x = 2 + 7 + 2 * n) h (sI (sI (sI (sI h (2 + 7 + 2 * n) 1 a) (2 + 7 + 2 * n) 2 b) (2 + 7 + 2 * n) 3 c) 2 3 (nI (n + 1))) := ((((Fr.rfl' (P := fun x => x = 2 ∨ x = 2 + 7 + 2 * n)).sI _ 1 _ (Or.inr rfl)).sI _ 2 _ (Or.inr rfl)).sI _ 3 _ (Or.inr rfl)).sI 2 3 _ (Or.inl rfl)
  have hN0 : 250 ≤ hN h := S.2.2.2.2.2.2.2.2
  have hPm : ∀ x, (fun x => x = 2 ∨ x = 2 + 7 + 2 * n) x → Mut x := fun x hx => by
    rcases hx with q | q
    · rw [q]; exact ST.mut st2 ST.T
    · rw [q]; exact Mut_H st2 h8
  refine ⟨sI (sI (sI (sI h (2 + 7 + 2 * n) 1 a) (2 + 7 + 2 * n) 2 b) (2 + 7 + 2 * n) 3 c) 2 3 (nI (n + 1)), ?_, F, rfl, ?_⟩
  · unfold s_X6_settle
    rw [show (fun x1 => getI h 2 6 3 fun x2 => ldR h x1 22 x2 fun x3 => putI h x3 2 1 a fun h => putI h x3 2 2 b fun h => putI h x3 2 3 c fun h => getI h 2 6 3 fun x4 => putI h 2 6 3 (x4 + 1) fun h => getI h 2 6 3 fun x5 => retI (x5 - 1) h) = (fun x1 => ldR h x1 22 (nI n) fun x3 => putI h x3 2 1 a fun h => putI h x3 2 2 b fun h => putI h x3 2 3 c fun h => getI h 2 6 3 fun x4 => putI h 2 6 3 (x4 + 1) fun h => getI h 2 6 3 fun x5 => retI (x5 - 1) h) from by
      funext x1
      rw [get6 S, e3], c_house S st2 h8]
    simp only [putI, getI, hT_sI, hA, S.t0 st2, if_true, retI, hI_sI, show ((2 : Nat) = 2 + 7 + 2 * n) = False from eq_false (by omega), false_and, if_false, e3, and_self, nI_1]
    rw [show (1 : Int32) = nI 1 from rfl, nI_sub (by omega), Nat.add_sub_cancel]
  · obtain ⟨⟨q1, q2, q3, q4⟩, p1, p2, p3, p4, p5⟩ := R
    have lo : ∀ j, j < 15 → j ≠ 2 → addF w n a b c j = w j := fun j h1 h2 => addF_off _ _ _ _ _ h2 (by omega)
    have hi' : ∀ j, 351 ≤ j → addF w n a b c j = w j := fun j h1 => addF_off _ _ _ _ _ (by omega) (by omega)
    have ptn : ∀ k, k < 42 → addF w n a b c (15 + 42 * n + k) = if k = 13 then 1 else if k = 2 then c else if k = 1 then b else if k = 0 then a else 0 := fun k hk => pt_addF w n a b c k hk
    have pn : ∀ k, k < 42 → 3 ≤ k → k ≠ 13 → addF w n a b c (15 + 42 * n + k) = 0 := fun k hk h3 h13 => by
      rw [ptn _ hk, if_neg h13, if_neg (by omega), if_neg (by omega), if_neg (by omega)]
    refine ⟨⟨addF_2 _ _ _ _ _, by omega, by rw [lo 8 (by omega) (by omega)]; exact q3, q4⟩, ?_, fun k hk => ?_, fun i hi => ?_, fun i i1 i2 => ?_, fun j hj k hk => ?_⟩
    · rw [addF_2, lo 8 (by omega) (by omega), lo 0 (by omega) (by omega), lo 11 (by omega) (by omega), lo 1 (by omega) (by omega), lo 7 (by omega) (by omega), lo 13 (by omega) (by omega), lo 14 (by omega) (by omega)]
      obtain ⟨z1, z2, z3, z4, z5, z6, z7, z8⟩ := p1
      have f : ∀ k, k ≠ 3 → hI (sI (sI (sI (sI h (2 + 7 + 2 * n) 1 a) (2 + 7 + 2 * n) 2 b) (2 + 7 + 2 * n) 3 c) 2 3 (nI (n + 1))) 2 k = hI h 2 k := fun k hk => by
        rw [hI_sI, if_neg (fun z => hk z.2), hI_sI, if_neg (fun z => by omega), hI_sI, if_neg (fun z => by omega), hI_sI, if_neg (fun z => by omega)]
      refine ⟨by rw [hI_sI, if_pos ⟨rfl, rfl⟩], ?_⟩
      rw [f 4 (by omega), f 5 (by omega), f 6 (by omega), f 7 (by omega), f 8 (by omega), f 9 (by omega), f 10 (by omega)]
      exact ⟨z2, z3, z4, z5, z6, z7, z8⟩
    · rw [(F.2.2 (2 + 1) (by omega)).1, lo _ (by omega) (by omega)]
      exact p2 k hk
    · by_cases q : i = n
      · subst q
        obtain ⟨⟨y4, y5, y6, y7, y8, y9⟩, ⟨g1, g5, g6, g2, g7⟩, r1, r2, r3⟩ := p4 i (by omega) (by omega)
        have fA : ∀ k, 4 ≤ k → hI (sI (sI (sI (sI h (2 + 7 + 2 * i) 1 a) (2 + 7 + 2 * i) 2 b) (2 + 7 + 2 * i) 3 c) 2 3 (nI (i + 1))) (2 + 7 + 2 * i) k = hI h (2 + 7 + 2 * i) k := fun k hk => by
          rw [hI_sI, if_neg (fun z => by omega), hI_sI, if_neg (fun z => by omega), hI_sI, if_neg (fun z => by omega), hI_sI, if_neg (fun z => by omega)]
        have fW := F.2.2 (2 + 8 + 2 * i) (by omega)
        have e0 := ptn 0 (by omega)
        rw [Nat.add_zero] at e0
        refine ⟨⟨?_, ?_, ?_, ?_, ?_, ?_, ?_, ?_, ?_⟩, ⟨?_, fun z => ?_, ?_, ?_, ?_, ?_⟩, ?_⟩
        · rw [e0]; simp [hI_sI]
        · rw [ptn 1 (by omega)]; simp [hI_sI]
        · rw [ptn 2 (by omega)]; simp [hI_sI]; omega
        · rw [fA 4 (by omega), y4, pn 3 (by omega) (by omega) (by omega)]
        · rw [fA 5 (by omega), y5, pn 4 (by omega) (by omega) (by omega)]
        · rw [fA 6 (by omega), y6, pn 5 (by omega) (by omega) (by omega)]
        · rw [fA 7 (by omega), y7, pn 6 (by omega) (by omega) (by omega)]
        · rw [fA 8 (by omega), y8, pn 7 (by omega) (by omega) (by omega)]
        · rw [fA 9 (by omega), y9, pn 8 (by omega) (by omega) (by omega)]
        · rw [fW.1, g1, pn 9 (by omega) (by omega) (by omega)]
        · rw [pn 9 (by omega) (by omega) (by omega)] at z
          exact absurd rfl z
        · rw [fW.1, g5, pn 11 (by omega) (by omega) (by omega)]
        · rw [fW.2.1, g6, pn 12 (by omega) (by omega) (by omega)]
          rfl
        · rw [fW.1, g2, ptn 13 (by omega)]
          rfl
        · rw [fW.1, g7, pn 17 (by omega) (by omega) (by omega)]
        · rw [fW.2.2]
          exact ⟨r1, r2, 0, by omega, pn 15 (by omega) (by omega) (by omega), r3.ch F.ch hPm r1 r2, fun k hk => by omega⟩
      · exact (p3 i (by omega)).ch F.ch hPm (by omega) (by omega) (by omega) (by omega) (fun k hk => addF_off _ _ _ _ _ (by omega) (by omega))
    · exact (p4 i (by omega) i2).ch F.ch hPm (by omega) (by omega) (by omega) (by omega)
    · rw [(F.2.2 (2 + 23 + j) (by omega)).1, hi' _ (by omega)]
      exact p5 j hj k hk
theorem p_addHouse (t : Nat) (a1 a2 a3 : Int32) : Pair (s_X8_addHouse 1 a1 a2 a3) (s_X9_addHouse 241 a1 a2 a3) t := by
  intro h R
  have R' := R
  obtain ⟨e, c, u, sn, v, C, Q, W, X⟩ := R
  have S := C.1
  have st2 : isSt 2 := Or.inl rfl
  have n8 : e.2.1 ≤ 8 := W.1.1.1
  have e2 : e.1 2 = nI e.2.1 := W.1.1.2.2.1
  have e3 : hI h 2 3 = nI e.2.1 := by rw [C.2.1.2.1.1, e2]
  have bad : ¬ (1 ≤ a1 ∧ a1 ≤ 20) ∨ ¬ (1 ≤ a2 ∧ a2 ≤ 50) ∨ ¬ (0 ≤ a3 ∧ a3 ≤ 9999) → ∃ r h1 h2, s_X8_addHouse 1 a1 a2 a3 h = some (r, h1) ∧ s_X9_addHouse 241 a1 a2 a3 h1 = some (r, h2) ∧ REL h2 (t + 60) ∧ Sh h1 := fun q => by
    refine Pair.same (x := fun h => _) (m := fun h => _) R' (-2) ?_ ?_
    · unfold s_X8_addHouse
      simp only [win8, bnd]
      by_cases q1 : 1 ≤ a1 ∧ a1 ≤ 20
      · by_cases q2 : 1 ≤ a2 ∧ a2 ≤ 50
        · by_cases q3 : 0 ≤ a3 ∧ a3 ≤ 9999
          · exact absurd q (by simp [q1, q2, q3])
          · simp only [if_pos q1, if_pos q2, if_neg q3, if_true, if_false, show ((1 : Int32) = 0) = False from eq_false (by decide)]
            rfl
        · simp only [if_pos q1, if_neg q2, if_true, if_false, show ((1 : Int32) = 0) = False from eq_false (by decide)]
          rfl
      · simp only [if_neg q1, if_true]
        rfl
    · unfold s_X9_addHouse
      simp only [win9, bnd]
      by_cases q1 : 1 ≤ a1 ∧ a1 ≤ 20
      · by_cases q2 : 1 ≤ a2 ∧ a2 ≤ 50
        · by_cases q3 : 0 ≤ a3 ∧ a3 ≤ 9999
          · exact absurd q (by simp [q1, q2, q3])
          · simp only [if_pos q1, if_pos q2, if_neg q3, if_true, if_false, show ((1 : Int32) = 0) = False from eq_false (by decide)]
            rfl
        · simp only [if_pos q1, if_neg q2, if_true, if_false, show ((1 : Int32) = 0) = False from eq_false (by decide)]
          rfl
      · simp only [if_neg q1, if_true]
        rfl
  by_cases q1 : 1 ≤ a1 ∧ a1 ≤ 20
  · by_cases q2 : 1 ≤ a2 ∧ a2 ≤ 50
    · by_cases q3 : 0 ≤ a3 ∧ a3 ≤ 9999
      · obtain ⟨sa, rfl, -, s20⟩ := win_of (lo := 1) (hi := 20) (by omega) (by omega) q1
        have gl : ∀ (g : Hp), Sh g → hI g 242 = e.1 → ∀ {α : Type} (f : Int32 → Option α), (getR g 241 9 0 fun x2 => ldI g x2 20 2 f) = f (nI e.2.1) := fun g Sg eg α f => by
          rw [sQ_of eg, qg Sg, ql_2 Sg, e2]
        by_cases q : e.2.1 = 8
        · refine Pair.same (x := fun h => _) (m := fun h => _) R' (-3) ?_ ?_
          · unfold s_X8_addHouse
            simp only [win8, bnd, q1, q2, q3, and_self, if_true, if_false, show ((1 : Int32) = 0) = False from eq_false (by decide), S.x0, get6 S, e3, q]
            rfl
          · unfold s_X9_addHouse
            simp only [win9, bnd, q1, q2, q3, and_self, if_true, if_false, show ((1 : Int32) = 0) = False from eq_false (by decide)]
            rw [gl h S Q.1, q]
            rfl
        · have n7 : e.2.1 < 8 := by omega
          obtain ⟨h1, h2, p1, p2, p3, S1, ⟨p5, -⟩⟩ := rec_pair C Q W X (nI e.2.1) (addF e.1 e.2.1 (nI sa) a2 a3, e.2.1 + 1, e.2.2) (Z := True) (bc := fun h => getR h 1 8 0 fun x8 => inv h x8 6 (s_X6_settle x8 (nI sa) a2 a3 h) fun x9 h => retI x9 h) (br := fun h => getR h 241 9 0 fun x6 => ldI h x6 20 2 fun x7 => s_X9_addHouse_L63 (fun y0 y1 y2 y3 y4 h => inv h y0 9 (s_X9_setPart y0 y4 0 y1 h) fun _ h => inv h y0 9 (s_X9_setPart y0 y4 1 y2 h) fun _ h => inv h y0 9 (s_X9_setPart y0 y4 2 y3 h) fun _ h => inv h y0 9 (s_X9_setPart y0 y4 13 1 h) fun _ h => getR h y0 9 0 fun x8 => ldI h x8 20 2 fun x9 => stI h x8 20 2 (x9 + 1) fun h => retI y4 h) 100000 241 (nI sa) a2 a3 x7 0 h) (fun g Cg => by
            have Sg := Cg.1
            obtain ⟨g', b1, b2, b3, b4⟩ := c_settle Sg Cg.2.1 n7 (nI sa) a2 a3
            have Sg' : Sh g' := Sg.of b3 b2.1 (Nat.le_of_eq b2.2.1.symm)
            refine ⟨g', ?_, b2.ch.mono (fun x hx => Or.inl ?_), Sg', b4, fun j hj => ?_, trivial⟩
            · simp only [Sg.x0, inv6 Sg, b1, bnd, retI]
            · rcases hx with z | z
              · rw [z]; exact ST.T
              · rw [z]; exact ST.H n7
            · rw [(b2.2.2 238 (by omega)).1]
              exact Cg.2.2.2.2 j hj) (fun _ g Sg Qg => by
            refine ⟨hI g 247, hI g 248, ?_, Qg.2.2.2⟩
            rw [gl g Sg Qg.1]
            have z0 : zerF e.1 e.2.1 0 = e.1 := by
              funext j
              exact if_neg (by omega)
            have k := r_zerL Sg n7 e.1 (hI g 247) (hI g 248) (nI sa) a2 a3 (fun y0 y1 y2 y3 y4 h => inv h y0 9 (s_X9_setPart y0 y4 0 y1 h) fun _ h => inv h y0 9 (s_X9_setPart y0 y4 1 y2 h) fun _ h => inv h y0 9 (s_X9_setPart y0 y4 2 y3 h) fun _ h => inv h y0 9 (s_X9_setPart y0 y4 13 1 h) fun _ h => getR h y0 9 0 fun x8 => ldI h x8 20 2 fun x9 => stI h x8 20 2 (x9 + 1) fun h => retI y4 h) 42 0 100000 (by omega) (by omega)
            rw [z0, ← sQ_of Qg.1] at k
            refine Eq.trans k ?_
            have e2' : ∀ (x1 x2 x3 x4 : Int32), sp (sp (sp (sp (zerF e.1 e.2.1 42) e.2.1 0 x1) e.2.1 1 x2) e.2.1 2 x3) e.2.1 13 x4 2 = nI e.2.1 := fun x1 x2 x3 x4 => by
              rw [sp_lo _ _ _ _ _ (by omega), sp_lo _ _ _ _ _ (by omega), sp_lo _ _ _ _ _ (by omega), sp_lo _ _ _ _ _ (by omega)]
              exact (if_neg (by omega)).trans e2
            simp only [q_inv Sg, rs_0 Sg n7, rs_1 Sg n7, rs_2 Sg n7, rs_13 Sg n7, bnd, qg Sg, ql_2 Sg, qs_2 Sg, e2', nI_1, retI]
            rfl) (fun _ => (WF.add n7 s20 a2 a3 W.1).mono (by omega))
          refine ⟨nI e.2.1, h1, h2, ?_, ?_, p3, S1⟩
          · unfold s_X8_addHouse
            simp only [win8, bnd, q1, q2, q3, and_self, if_true, if_false, show ((1 : Int32) = 0) = False from eq_false (by decide), S.x0, S.x3, get6 S, e3]
            rw [if_pos (by rw [show (8 : Int32) = nI 8 from rfl, nI_ltE (by omega) (by omega)]; exact n7)]
            exact p1
          · unfold s_X9_addHouse
            simp only [win9, bnd, q1, q2, q3, and_self, if_true, if_false, show ((1 : Int32) = 0) = False from eq_false (by decide)]
            rw [gl h1 S1 p5, if_neg (by rw [show (8 : Int32) = nI 8 from rfl, nI_eqE (by omega) (by omega)]; exact q)]
            exact p2
      · exact bad (Or.inr (Or.inr q3))
    · exact bad (Or.inr (Or.inl q2))
  · exact bad (Or.inl q1)
