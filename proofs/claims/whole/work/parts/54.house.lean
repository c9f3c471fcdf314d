/-! calls that speak of one house -/
def inH (a : Int32) (n : Nat) : Prop := (if 0 ≤ a ∧ a ≤ nI n - 1 then (1 : Int32) else 0) = 1
theorem inH_iff {a : Int32} {n : Nat} : inH a n ↔ (0 ≤ a ∧ a ≤ nI n - 1) := by
  unfold inH
  by_cases q : 0 ≤ a ∧ a ≤ nI n - 1
  · rw [if_pos q]; exact ⟨fun _ => q, fun _ => rfl⟩
  · rw [if_neg q]; exact ⟨fun z => absurd z (by decide), fun z => absurd z q⟩
def hasI (a : Int32) (n : Nat) : Int32 := if 0 ≤ a ∧ a ≤ nI n - 1 then 1 else 0
theorem hasI_1 {a : Int32} {n : Nat} (q : inH a n) : hasI a n = 1 := q
theorem hasI_0 {a : Int32} {n : Nat} (q : ¬ inH a n) : hasI a n = 0 := if_neg (fun z => q (inH_iff.mpr z))
theorem inH_of {a : Int32} {n : Nat} (h8 : n ≤ 8) (q : inH a n) : ∃ i, a = nI i ∧ i < n := by
  obtain ⟨m, rfl, hm⟩ := nI_ofI (inH_iff.mp q).1
  refine ⟨m, rfl, ?_⟩
  have := Int32.le_iff_toInt_le.mp (inH_iff.mp q).2
  rw [show (1 : Int32) = nI 1 from rfl, nI_subT (by omega) (by omega), nI_toInt hm] at this
  omega
theorem inH_is {i n : Nat} (h8 : n ≤ 8) (hi : i < n) : inH (nI i) n := by
  refine inH_iff.mpr ⟨nI_pos' (by omega), ?_⟩
  rw [Int32.le_iff_toInt_le, show (1 : Int32) = nI 1 from rfl, nI_subT (by omega) (by omega), nI_toInt (by omega)]
  omega
theorem Sh.x0 {h : Hp} (S : Sh h) {α : Type} (f : Nat → Option α) : getR h 1 8 0 f = f 2 := by
  simp only [getR, S.2.2.1.1, S.2.2.1.2.1, true_and, show ((2 : Nat) = 0) = False from eq_false (by decide), ne_eq, not_false_eq_true, if_true]
theorem Sh.x3 {h : Hp} (S : Sh h) {α : Type} (f : Nat → Option α) : getR h 1 8 3 f = f 101 := by
  simp only [getR, S.2.2.1.1, S.2.2.1.2.2.2.2.1, true_and, show ((101 : Nat) = 0) = False from eq_false (by decide), ne_eq, not_false_eq_true, if_true]
theorem inv6 {h : Hp} (S : Sh h) {α β : Type} (x : Rv α) (f : α → Hp → Rv β) : inv h 2 6 x f = bnd x f := by
  simp only [inv, S.t0 (show isSt 2 from Or.inl rfl), if_true]
theorem inv9 {h : Hp} (S : Sh h) {α β : Type} (x : Rv α) (f : α → Hp → Rv β) : inv h 241 9 x f = bnd x f := by
  simp only [inv, S.m0, if_true]
theorem invW {h : Hp} (S : Sh h) {i : Nat} (hi : i < 8) {α β : Type} (x : Rv α) (f : α → Hp → Rv β) : inv h (2 + 8 + 2 * i) 7 x f = bnd x f := by
  simp only [inv, S.tW (show isSt 2 from Or.inl rfl) hi, if_true]
theorem getW {h : Hp} (S : Sh h) {i : Nat} (hi : i < 8) {α : Type} (k : Nat) (f : Int32 → Option α) : getI h (2 + 8 + 2 * i) 7 k f = f (hI h (2 + 8 + 2 * i) k) := by
  simp only [getI, S.tW (show isSt 2 from Or.inl rfl) hi, if_true]
theorem putW {h : Hp} (S : Sh h) {i : Nat} (hi : i < 8) {α : Type} (k : Nat) (v : Int32) (f : Hp → Option α) : putI h (2 + 8 + 2 * i) 7 k v f = f (sI h (2 + 8 + 2 * i) k v) := by
  simp only [putI, S.tW (show isSt 2 from Or.inl rfl) hi, if_true]
theorem get6 {h : Hp} (S : Sh h) {α : Type} (k : Nat) (f : Int32 → Option α) : getI h 2 6 k f = f (hI h 2 k) := by
  simp only [getI, S.t0 (show isSt 2 from Or.inl rfl), if_true]
theorem c_has {h : Hp} {e : Ent} (S : Sh h) (R : SRe h 2 e) (a : Int32) : s_X6_hasHouse 2 a h = some (hasI a e.2.1, h) := by
  have e3 : hI h 2 3 = nI e.2.1 := by rw [R.2.1.1, R.1.1]
  unfold s_X6_hasHouse hasI
  simp only [get6 S, win8, bnd, e3, retZ]
  split <;> rfl
theorem r_has {h : Hp} {n : Nat} (S : Sh h) (hn : hI h 242 2 = nI n) (a : Int32) : s_X9_isHouse 241 a h = some (hasI a n, h) := by
  unfold s_X9_isHouse hasI
  simp only [getR, ldI, S.m0, S.m1, S.m2, hn, cl_2, true_and, show ((242 : Nat) = 0) = False from eq_false (by decide), ne_eq, not_false_eq_true, if_true, show ((0 : Int32) ≤ 2) = True from eq_true (by decide), show ((2 : Nat) < 401) = True from eq_true (by decide), win9, bnd, retZ]
  split <;> rfl
theorem r_partH {h : Hp} (S : Sh h) {i k : Nat} (hi : i < 8) (hk : k < 42) : s_X9_part 241 (nI i) (nI k) h = some (pt (hI h 242) i k, h) := by
  have := r_part S (hI h 242) (hI h 247) (hI h 248) hi hk
  rwa [sQ_self] at this
theorem sQ_of {h : Hp} {w : Row} (e : hI h 242 = w) : h = sQ h w (hI h 247) (hI h 248) := by rw [← e, sQ_self]
/-- a row with one house changed -/
theorem WF.house {w w' : Row} {n nl t i : Nat} (hi : i < n) (hw : ∀ j, (j < 15 + 42 * i ∨ 15 + 42 * i + 42 ≤ j) → w' j = w j) (h0 : ∀ k, (k = 0 ∨ k = 4 ∨ k = 5 ∨ k = 6) → pt w' i k = pt w i k) (H' : WH w' i t) (F : WF w n nl t) : WF w' n nl t := by
  obtain ⟨⟨h8, h10, e2, e8⟩, hp, B, L, H, s4, s5, s6, N⟩ := F
  have pp : ∀ j, j ≠ i → ∀ k, k < 42 → pt w' j k = pt w j k := fun j hj k hk => hw _ (by omega)
  have pk : ∀ k, (k = 0 ∨ k = 4 ∨ k = 5 ∨ k = 6) → ∀ j, pt w' j k = pt w j k := fun k hk j => by
    by_cases q : j = i
    · rw [q]; exact h0 k hk
    · exact pp j q k (by omega)
  refine ⟨⟨h8, h10, by rw [hw 2 (by omega)]; exact e2, by rw [hw 8 (by omega)]; exact e8⟩, by rw [hw 1 (by omega)]; exact hp, ?_, ⟨fun j hj => by rw [hw _ (by omega)]; exact L.1 j hj, fun j hj => ?_⟩, fun j hj => ?_, ?_, ?_, ?_, fun j hj k hk => by rw [hw _ (by omega)]; exact N j hj k hk⟩
  · unfold WB
    rw [hw 3 (by omega), hw 4 (by omega), hw 5 (by omega), hw 7 (by omega)]
    exact B
  · rw [pk 0 (by omega) j, lentN_congr (w := w) (w' := w') (fun j hj k hk => hw _ (by omega))]
    exact L.2 j hj
  · by_cases q : j = i
    · rw [q]; exact H'
    · exact (H j hj).congr (pp j q)
  · rw [hw 12 (by omega), s4]
    exact (sumP_congr (fun j _ => pk 4 (by omega) j)).symm
  · rw [hw 9 (by omega), s5]
    exact (sumP_congr (fun j _ => pk 5 (by omega) j)).symm
  · rw [hw 10 (by omega), s6]
    exact (sumP_congr (fun j _ => pk 6 (by omega) j)).symm
theorem sp_off (w : Row) (i k j : Nat) (v : Int32) (hk : k < 42) (hj : j < 15 + 42 * i ∨ 15 + 42 * i + 42 ≤ j) : sp w i k v j = w j := upd_ne _ _ (by omega)
/-- a washer at rest -/
theorem WH.rest {w : Row} {i t : Nat} (q : WH w i t) (v : Int32) (hv : v = 0 ∨ v = 2) : WH (sp w i 9 v) i t := by
  obtain ⟨q1, q2, ⟨wt', wm', w1, w2, w3, w4, w5⟩, np, n3, n4, n5, n6⟩ := q
  have f : ∀ k, k ≠ 9 → pt (sp w i 9 v) i k = pt w i k := fun k hk => by rw [pt_sp, if_neg hk]
  have f9 : pt (sp w i 9 v) i 9 = v := by rw [pt_sp, if_pos rfl]
  refine ⟨by rw [f 0 (by omega)]; exact q1, by rw [f9]; exact hv.elim Or.inl (fun z => Or.inr (Or.inr z)), ⟨wt', wm', by rw [f 11 (by omega)]; exact w1, by rw [f 12 (by omega)]; exact w2, w3, w4, w5⟩, np, by rw [f 15 (by omega)]; exact n3, n4, fun k hk => by rw [f _ (by omega), f _ (by omega)]; exact n5 k hk, fun z => ?_⟩
  rw [f9] at z
  rcases hv with y | y <;> (rw [y] at z; exact absurd z (by decide))
theorem p_stop (t : Nat) (a1 : Int32) : Pair (s_X8_stop 1 a1) (s_X9_stop 241 a1) t := by
  intro h R
  have R' := R
  obtain ⟨e, c, u, sn, v, C, Q, W, X⟩ := R
  have S := C.1
  have n8 : e.2.1 ≤ 8 := W.1.1.1
  have e2 : e.1 2 = nI e.2.1 := W.1.1.2.2.1
  have st2 : isSt 2 := Or.inl rfl
  by_cases q : inH a1 e.2.1
  · obtain ⟨i, rfl, hi⟩ := inH_of n8 q
    have hi8 : i < 8 := by omega
    have r1 : hI h (2 + 8 + 2 * i) 1 = pt e.1 i 9 := (C.2.1.hr hi).w.1.1
    by_cases q2 : pt e.1 i 9 = 0
    · refine Pair.same (x := fun h => _) (m := fun h => _) R' (-5) ?_ ?_
      · unfold s_X8_stop
        simp only [S.x0, inv6 S, c_has S C.2.1, hasI_1 q, bnd, if_true, if_false, show ((1 : Int32) = 0) = False from eq_false (by decide), c_washerOf S st2 hi8, getW S hi8, r1, q2]
        rfl
      · have p9 := r_partH S hi8 (show 9 < 42 by omega)
        rw [Q.1, show nI 9 = 9 from rfl, q2] at p9
        unfold s_X9_stop s_X9_stop_J28
        simp only [inv9 S, r_has S (show hI h 242 2 = nI e.2.1 by rw [Q.1]; exact e2), hasI_1 q, bnd, if_true, if_false, show ((1 : Int32) = 0) = False from eq_false (by decide), p9, show ((0 : Int32) ≤ -5) = False from eq_false (by decide)]
        rfl
    · obtain ⟨h1, h2, p1, p2, p3, S1, ⟨p5, -⟩⟩ := rec_pair C Q W X (pt e.1 i 10) (sp e.1 i 9 0, e.2.1, e.2.2) (Z := True) (bc := fun h => putI h (2 + 8 + 2 * i) 7 1 0 fun h => getI h (2 + 8 + 2 * i) 7 3 fun x8 => retI x8 h) (br := fun h => inv h 241 9 (s_X9_setPart 241 (nI i) 9 0 h) fun _ h => inv h 241 9 (s_X9_part 241 (nI i) 10 h) fun x3 h => retI x3 h) (fun g Cg => by
        have Sg := Cg.1
        obtain ⟨⟨a1, a2, a3, a4, a5, a6⟩, a7⟩ := (Cg.2.1.hr hi).w
        have F : Fr (fun x => x = 2 + 8 + 2 * i) g (sI g (2 + 8 + 2 * i) 1 0) := (Fr.rfl' (P := fun x => x = 2 + 8 + 2 * i)).sI _ 1 _ rfl
        refine ⟨sI g (2 + 8 + 2 * i) 1 0, ?_, F.ch.mono (fun x hx => Or.inl (by rw [hx]; exact ST.W hi8)), Sg.sI _ _ _, ?_, fun j hj => ?_, trivial⟩
        · simp only [putW Sg hi8, getW (Sg.sI _ _ _) hi8, retI, hI_sI, show ((3 : Nat) = 1) = False from eq_false (by decide), and_false, if_false, (a2 q2).1]
        · refine SR.washer st2 Sg Cg.2.1 hi F.ch (fun j hj _ => sp_off _ _ _ _ _ (by omega) hj) (fun k hk => by rw [pt_sp, if_neg (by omega)]) ⟨⟨?_, fun z => ?_, ?_, ?_, ?_, ?_⟩, ?_⟩
          · rw [hI_sI, if_pos ⟨rfl, rfl⟩, pt_sp, if_pos rfl]
          · rw [pt_sp, if_pos rfl] at z
            exact absurd rfl z
          · rw [pt_sp, if_neg (by omega), ← a3]; simp [hI_sI]
          · rw [pt_sp, if_neg (by omega), ← a4]; rfl
          · rw [pt_sp, if_neg (by omega), ← a5]; simp [hI_sI]
          · rw [pt_sp, if_neg (by omega), ← a6]; simp [hI_sI]
          · exact a7.ch F.ch (fun x hx => by rw [hx]; exact Mut_W st2 hi8) (fun k k1 k2 _ _ => upd_ne _ _ (by omega))
        · rw [hI_sIn _ _ _ _ _ (by omega)]
          exact Cg.2.2.2.2 j hj) (fun _ g Sg Qg => by
        refine ⟨hI g 247, hI g 248, ?_, Qg.2.2.2⟩
        have eg := sQ_of Qg.1
        rw [inv9 Sg]
        rw [show s_X9_setPart 241 (nI i) 9 0 g = s_X9_setPart 241 (nI i) 9 0 (sQ g e.1 (hI g 247) (hI g 248)) from by rw [← eg], rs_9 Sg hi8]
        simp only [bnd, q_inv Sg, rp_10 Sg hi8, retI, pt_sp, show ((10 : Nat) = 9) = False from eq_false (by decide), if_false]) (fun _ => WF.house hi (fun j hj => sp_off _ _ _ _ _ (by omega) hj) (fun k hk => by rw [pt_sp, if_neg (by omega)]) (((W.1.2.2.2.2.1 i hi).mono (by omega)).rest 0 (Or.inl rfl)) (W.1.up (by omega)))
      refine ⟨pt e.1 i 10, h1, h2, ?_, ?_, p3, S1⟩
      · unfold s_X8_stop
        simp only [S.x0, S.x3, inv6 S, c_has S C.2.1, hasI_1 q, bnd, if_true, if_false, show ((1 : Int32) = 0) = False from eq_false (by decide), c_washerOf S st2 hi8, getW S hi8, r1, q2]
        exact p1
      · have p9 := r_partH S1 hi8 (show 9 < 42 by omega)
        rw [p5, show nI 9 = 9 from rfl] at p9
        unfold s_X9_stop s_X9_stop_J28
        simp only [inv9 S1, r_has S1 (show hI h1 242 2 = nI e.2.1 by rw [p5]; exact e2), hasI_1 q, bnd, if_true, if_false, show ((1 : Int32) = 0) = False from eq_false (by decide), p9, q2, show ((0 : Int32) ≤ 0) = True from eq_true (by decide)]
        simp only [inv9 S1] at p2
        exact p2
  · refine Pair.same (x := fun h => _) (m := fun h => _) R' (-1) ?_ ?_
    · unfold s_X8_stop
      simp only [S.x0, inv6 S, c_has S C.2.1, hasI_0 q, bnd, if_true, if_false]
      rfl
    · unfold s_X9_stop s_X9_stop_J28
      simp only [inv9 S, r_has S (show hI h 242 2 = nI e.2.1 by rw [Q.1]; exact e2), hasI_0 q, bnd, if_true, if_false, show ((0 : Int32) ≤ -1) = False from eq_false (by decide)]
      rfl
