/-! keep, undo, restore -/
def mixR (a b : Row) : Row := fun j => if j < 401 then a j else b j
theorem mixR_lo (a b : Row) : ∀ j, j < 401 → mixR a b j = a j := fun j hj => if_pos hj
/-- a row brought back -/
theorem r_back {g : Hp} (S : Sh g) {A la x : Nat} (ta : hT g A = (20, la)) (hA : A ≠ 0) (hab : A ≠ 242) (hx : x + 401 ≤ la) (hl : la < 2 ^ 20) (w : Row) (hw : ∀ j, j < 401 → hI g A (x + j) = w j) :
    s_X9_copy A (nI x) 242 0 g = some ((), sQ g (mixR w (hI g 242)) (hI g 247) (hI g 248)) := by
  obtain ⟨g', c1, c2, c3, c4, c5, c6⟩ := r_copy (h := g) (A := A) (B := 242) (x := x) (y := 0) ta S.m2 hA (by decide) hab hx (by omega) hl (by omega)
  refine c1.trans ?_
  have e : g' = sQ g (mixR w (hI g 242)) (hI g 247) (hI g 248) := by
    have e1 : g' = (hI g', hL g', hR g', hT g', hN g') := rfl
    rw [e1, c6, c3, c2.1, c2.2.1]
    unfold sQ
    refine Prod.ext ?_ rfl
    funext k
    show hI g' k = if k = 242 then mixR w (hI g 242) else if k = 247 then hI g 247 else if k = 248 then hI g 248 else hI g k
    by_cases q : k = 242
    · rw [if_pos q, q]
      funext j
      unfold mixR
      by_cases r : j < 401
      · rw [if_pos r, ← hw j r, ← c4 j r, Nat.zero_add]
      · rw [if_neg r, c5 j (by omega)]
    · rw [if_neg q, (c2.2.2 k q).1]
      by_cases q2 : k = 247
      · rw [if_pos q2, q2]
      · rw [if_neg q2]
        by_cases q3 : k = 248
        · rw [if_pos q3, q3]
        · rw [if_neg q3]
  rw [e]
theorem WFe.mix {e v : Ent} {t : Nat} (F : WFe v t) : WFe (mixR v.1 e.1, v.2.1, v.2.2) t := WF.ext (mixR_lo v.1 e.1) F
theorem SRe.mix {h : Hp} {T : Nat} {e v : Ent} (R : SRe h T v) : SRe h T (mixR v.1 e.1, v.2.1, v.2.2) := SR.ext (mixR_lo v.1 e.1) R
theorem p_restore (t : Nat) : Pair (s_X8_restore 1) (s_X9_restore 241) t := by
  intro h R
  have R' := R
  obtain ⟨e, c, u, sn, v, C, Q, W, X⟩ := R
  have S := C.1
  have st2 : isSt 2 := Or.inl rfl
  have st68 : isSt 68 := by unfold isSt; omega
  have h6 : hI h 1 6 = sn := C.2.2.2.1.1
  have m3 : hI h 241 3 = sn := Q.2.2.1.1
  by_cases q : sn = 0
  · refine Pair.same R' (-5) ?_ ?_
    · unfold s_X8_restore
      simp only [getI, S.2.2.1.1, h6, q, if_true]
      rfl
    · unfold s_X9_restore
      simp only [getI, S.m0, m3, q, if_true]
      rfl
  · obtain ⟨h1, h2, p1, p2, p3, S1, p5⟩ := rec_pair C Q W X (v.1 0) (mixR v.1 e.1, v.2.1, v.2.2) (Z := True) (bc := fun h => getR h 1 8 0 fun x4 => getR h 1 8 2 fun x5 => inv h x4 6 (s_X6_copyFrom x4 x5 h) fun _ h => getR h 1 8 0 fun x6 => getI h x6 6 5 fun x7 => retI x7 h) (br := fun h => getR h 241 9 2 fun x2 => getR h 241 9 0 fun x3 => bnd (s_X9_copy x2 0 x3 0 h) fun _ h => getR h 241 9 0 fun x4 => ldI h x4 20 0 fun x5 => retI x5 h) (fun g Cg => by
      have Sg := Cg.1
      obtain ⟨g', b1, b2, b3, b4, b5⟩ := c_copyFrom Sg st2 st68 (by omega) (Cg.2.2.2.1.2 q) (W.2.2.2 q).2.1
      refine ⟨g', ?_, b2.ch.mono (fun x hx => Or.inl hx), b4, SRe.mix b5, fun j hj => ?_, trivial⟩
      · have e5 : hI g' 2 5 = v.1 0 := b5.2.1.2.2.1
        simp only [getR, Sg.2.2.1.1, Sg.2.2.1.2.1, Sg.2.2.1.2.2.2.1, b4.2.2.1.1, b4.2.2.1.2.1, true_and, show ((68 : Nat) = 0) = False from eq_false (by decide), show ((2 : Nat) = 0) = False from eq_false (by decide), ne_eq, not_false_eq_true, if_true, inv6 Sg, b1, bnd, get6 b4, e5, retI]
      · rw [(b2.2.2 238 (fun z => by have := z.2.1; omega)).1]
        exact Cg.2.2.2.2 j hj) (fun _ g Sg Qg => by
      have bk := r_back Sg (A := 244) (la := 401) (x := 0) Sg.m44 (by decide) (by decide) (by omega) (by omega) v.1 (fun j hj => by rw [Nat.zero_add]; exact Qg.2.2.1.2 q j hj)
      rw [Qg.1] at bk
      refine ⟨hI g 247, hI g 248, ?_, Qg.2.2.2⟩
      have bk' : s_X9_copy 244 0 242 0 g = some ((), sQ g (mixR v.1 e.1) (hI g 247) (hI g 248)) := bk
      simp only [getR, Sg.m0, Sg.m1, Sg.m2', true_and, show ((242 : Nat) = 0) = False from eq_false (by decide), show ((244 : Nat) = 0) = False from eq_false (by decide), ne_eq, not_false_eq_true, if_true, bk', bnd, hT_sQ, hR_sQ]
      rw [ql_0 Sg]
      rfl) (fun _ => WFe.mix ((W.2.2.2 q).up (by omega)))
    refine ⟨v.1 0, h1, h2, ?_, ?_, p3, S1⟩
    · unfold s_X8_restore
      simp only [getI, S.2.2.1.1, h6, q, if_true, if_false, S.x0, S.x3]
      exact p1
    · have m3' : hI h1 241 3 = sn := by
        exact p5.2.2.1.1
      unfold s_X9_restore
      simp only [getI, S1.m0, m3', q, if_true, if_false]
      exact p2
theorem p_keep (t : Nat) : Pair (s_X8_keep 1) (s_X9_keep 241) t := by
  intro h R
  obtain ⟨e, c, u, sn, v, C, Q, W, X⟩ := R
  have S := C.1
  have hN0 : 250 ≤ hN h := S.2.2.2.2.2.2.2.2
  have st2 : isSt 2 := Or.inl rfl
  have st68 : isSt 68 := by unfold isSt; omega
  obtain ⟨h1, b1, b2, b3, b4, b5⟩ := c_copyFrom S st68 st2 (by omega) C.2.1 W.1.2.1
  have e5 : hI h1 2 5 = e.1 0 := by
    rw [(b2.2.2 2 (fun z => by have := z.1; omega)).1]
    exact C.2.1.2.1.2.2.1
  have F : Fr (fun x => ST 68 x ∨ x = 1) h (sI h1 1 6 1) := (b2.mono (fun x hx => Or.inl hx)).sI 1 6 1 (Or.inr rfl)
  have S1 : Sh (sI h1 1 6 1) := b4
  have mp : ∀ x, (ST 68 x ∨ x = 1) → Mut x := fun x hx => by
    rcases hx with q | q
    · exact ST.mut st68 q
    · rw [q]; exact mut_1
  have sep : ∀ T, isSt T → T ≠ 68 → ∀ x, (ST 68 x ∨ x = 1) → ¬ (T ≤ x ∧ x < T + 33) := fun T tt hT x hx => by
    have := tt.sep st68 hT
    have := tt.pos
    rcases hx with q | q
    · have := q.1; have := q.2.1; omega
    · omega
  have w102 : hR (sI h1 1 6 1) 102 = hR h 102 := (F.2.2 102 (fun z => by
    rcases z with z | z
    · have := z.2.1; omega
    · omega)).2.2
  have fI : ∀ x, 101 ≤ x → hI (sI h1 1 6 1) x = hI h x := fun x hx => (F.2.2 x (fun z => by
    rcases z with z | z
    · have := z.2.1; omega
    · omega)).1
  have C1 : CS (sI h1 1 6 1) e c u 1 e := by
    obtain ⟨-, R2, ⟨c4, c1, p1, p2, U⟩, -, z⟩ := C
    refine ⟨S1, R2.fr F S mp st2 (sep 2 st2 (by omega)), ⟨c4, by rw [fI 101 (by omega)]; exact c1, by rw [w102]; exact p1, by rw [w102]; exact p2, fun k hk => ?_⟩, ⟨by rw [hI_sI, if_pos ⟨rfl, rfl⟩], fun _ => ?_⟩, fun i hi => by rw [fI 238 (by omega)]; exact z i hi⟩
    · rw [w102]
      exact (U k hk).fr F S mp (p1 k (by omega)).st (sep _ (p1 k (by omega)).st (by have := p1 k (by omega); unfold isH at this; omega))
    · exact SR.ch ((Fr.rfl' (P := fun x => x = 1)).sI 1 6 1 rfl).ch (fun x hx => by rw [hx]; exact mut_1) st68 b4.2.2.2.2.2.2.2.2 (fun x hx => by omega) b5
  have Q1 : RS (sI h1 1 6 1) e.1 c u sn v := Q.fr (fun x hx => fI x (by have := hx.1; omega))
  obtain ⟨h2, d1, d2, d3, d4, d5, d6⟩ := r_copy (h := sI h1 1 6 1) (A := 242) (B := 244) (x := 0) (y := 0) S1.m2 S1.m44 (by decide) (by decide) (by decide) (by omega) (by omega) (by omega) (by omega)
  have F3 : Fr RC (sI h1 1 6 1) (sI h2 241 3 1) := (d2.mono (fun x hx => by rw [hx]; exact ⟨by omega, by omega⟩)).sI 241 3 1 ⟨by omega, by omega⟩
  have S2 : Sh h2 := S1.of d3 d2.1 (Nat.le_of_eq d2.2.1.symm)
  have S3 : Sh (sI h2 241 3 1) := S2
  have e3 : hI h2 242 = e.1 := by rw [(d2.2.2 242 (by omega)).1]; exact Q1.1
  refine ⟨e.1 0, sI h1 1 6 1, sI h2 241 3 1, ?_, ?_, ⟨e, c, u, 1, e, C1.fr F3.ch S3, ?_, ⟨W.1.up (by omega), fun k hk => (W.2.1 k hk).up (by omega), Or.inr rfl, fun _ => W.1.up (by omega)⟩, ?_⟩, S1⟩
  · unfold s_X8_keep
    simp only [getR, putZ, S.2.2.1.1, S.2.2.1.2.1, S.2.2.1.2.2.2.1, b4.2.2.1.1, b4.2.2.1.2.1, true_and, show ((68 : Nat) = 0) = False from eq_false (by decide), show ((2 : Nat) = 0) = False from eq_false (by decide), ne_eq, not_false_eq_true, if_true, inv, S.t0 st68, b1, bnd, hT_sI, hR_sI, or_true, getI, b4.t0 st2, hI_sI, show ((2 : Nat) = 1) = False from eq_false (by decide), false_and, if_false, e5, retI]
  · unfold s_X9_keep
    have d1' : s_X9_copy 242 0 244 0 (sI h1 1 6 1) = some ((), h2) := d1
    simp only [getR, putZ, S1.m0, S1.m1, S1.m2', true_and, show ((242 : Nat) = 0) = False from eq_false (by decide), show ((244 : Nat) = 0) = False from eq_false (by decide), ne_eq, not_false_eq_true, if_true, d1', bnd, S2.m0, S2.m1, S2.m2, or_true, putI, hT_sI, hR_sI, ldI, hI_sI, show ((242 : Nat) = 241) = False from eq_false (by decide), false_and, if_false, e3, retI, cl_0, show ((0 : Int32) ≤ 0) = True from eq_true (by decide), show ((0 : Nat) < 401) = True from eq_true (by decide)]
  · obtain ⟨g1, ⟨g2, g3, g4⟩, -, g5⟩ := Q1
    refine ⟨by rw [hI_sIn _ _ _ _ _ (by omega)]; exact e3, ⟨g2, ?_, fun k hk j hj => ?_⟩, ⟨by rw [hI_sI, if_pos ⟨rfl, rfl⟩], fun _ j hj => ?_⟩, fun i hi => ?_⟩
    · rw [hI_sI, if_neg (fun z => by omega), (d2.2.2 241 (by omega)).1]; exact g3
    · rw [hI_sIn _ _ _ _ _ (by omega), (d2.2.2 245 (by omega)).1]; exact g4 k hk j hj
    · have := d4 j hj
      rw [Nat.zero_add] at this
      rw [hI_sIn _ _ _ _ _ (by omega), this, g1]
    · rw [hI_sIn _ _ _ _ _ (by omega), (d2.2.2 248 (by omega)).1]; exact g5 i hi
  · refine (X.fr (fun x hx => fI x (by omega)) (by rw [fI 241 (by omega)])).fr (fun x hx => ?_) ?_
    · rw [hI_sIn _ _ _ _ _ (by omega), (d2.2.2 x (by omega)).1]
    · rw [hI_sI, if_neg (fun z => by omega), (d2.2.2 241 (by omega)).1]
