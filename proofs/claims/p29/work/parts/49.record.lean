/-! the records of HaggleWash -/
def isH (T : Nat) : Prop := T = 103 ∨ T = 136 ∨ T = 169 ∨ T = 202
theorem isH.st {T : Nat} (t : isH T) : isSt T := by unfold isH at t; unfold isSt; omega
abbrev Ent : Type := Row × Nat × Nat
def SRe (h : Hp) (T : Nat) (e : Ent) : Prop := SR h T e.1 e.2.1 e.2.2
/-- the class's state: the street, c records, the kept street -/
def CS (h : Hp) (e : Ent) (c : Nat) (u : Nat → Ent) (sn : Int32) (v : Ent) : Prop :=
  Sh h ∧ SRe h 2 e ∧ (c ≤ 4 ∧ hI h 101 1 = nI c ∧ (∀ k, k < 4 → isH (hR h 102 k)) ∧ (∀ k j, k < 4 → j < 4 → hR h 102 k = hR h 102 j → k = j) ∧ ∀ k, k < c → SRe h (hR h 102 k) (u k)) ∧ (hI h 1 6 = sn ∧ (sn ≠ 0 → SRe h 68 v)) ∧ ∀ i, 8 ≤ i → hI h 238 i = 0
def recU (c : Nat) (u : Nat → Ent) (e : Ent) : Nat → Ent := if c = 4 then fun k => if k < 3 then u (k + 1) else e else fun k => if k = c then e else u k
def recC (c : Nat) : Nat := if c = 4 then 4 else c + 1
theorem SRe.fr {P : Nat → Prop} {h h' : Hp} {T : Nat} {e : Ent} (a : Fr P h h') (S : Sh h) (hP : ∀ x, P x → Mut x) (t : isSt T) (hd : ∀ x, P x → ¬ (T ≤ x ∧ x < T + 33)) (q : SRe h T e) : SRe h' T e := SR.ch a.ch hP t S.2.2.2.2.2.2.2.2 hd q
theorem Mut_lo {x : Nat} (h : x < 246) (h2 : ∀ T, isSt T → ¬ (T + 4 ≤ x ∧ x ≤ T + 6)) : Mut x := ⟨h, h2⟩
theorem mut_101 : Mut 101 := ⟨by decide, fun T t => by unfold isSt at t; omega⟩
theorem mut_102 : Mut 102 := ⟨by decide, fun T t => by unfold isSt at t; omega⟩
theorem mut_1 : Mut 1 := ⟨by decide, fun T t => by unfold isSt at t; omega⟩
theorem nI_4 (c : Nat) (h : c ≤ 4) : (nI c = 4) = (c = 4) := by rw [show (4 : Int32) = nI 4 from rfl, nI_eqE (by omega) (by omega)]
theorem c_dropL {h : Hp} (S : Sh h) (hp : ∀ k, k < 4 → isH (hR h 102 k)) (m : Nat) : s_X1_dropOldest_L9 (m + 1 + 1 + 1 + 1) 101 (hR h 102 0) 1 h = some ((), sI (sR (sR (sR (sR h 102 0 (hR h 102 1)) 102 1 (hR h 102 2)) 102 2 (hR h 102 3)) 102 3 (hR h 102 0)) 101 1 (hI h 101 1 - 1)) := by
  have tt : ∀ k, k < 4 → hT h (hR h 102 k) = (6, 0) ∧ hR h 102 k ≠ 0 := fun k hk => ⟨S.t0 (hp k hk).st, by have := hp k hk; unfold isH at this; omega⟩
  have e1 := tt 0 (by omega)
  have e2 := tt 1 (by omega)
  have e3 := tt 2 (by omega)
  have e4 := tt 3 (by omega)
  rw [s_X1_dropOldest_L9]
  simp only [getI, getL, getR, putI, putZ, putL, putR, ldI, ldR, stI, stR, divI, divL, bnd, inv, retI, retZ, retC, retR, retU, hT_sI, hT_sL, hT_sR, hR_sI, hR_sL, hN_sI, hN_sL, hN_sR, hI_sL, hI_sR, hL_sI, hL_sR, ↓reduceIte, true_and, and_true, and_self, ne_eq, not_false_eq_true, not_true_eq_false, reduceCtorEq, if_true, if_false, S.2.2.2.1.1, S.2.2.2.1.2.1, S.2.2.2.1.2.2, e1, e2, e3, e4, cl_0, cl_1, cl_2, cl_3, hR_sR, show ((102 : Nat) = 0) = False from eq_false (by decide), show ((4 : Int32) ≤ 1) = False from eq_false (by decide), show ((1 : Int32) - 1) = 0 from by decide, show ((0 : Int32) ≤ 0) = True from eq_true (by decide), show ((0 : Int32) ≤ 1) = True from eq_true (by decide), show ((0 : Nat) < 4) = True from eq_true (by decide), show ((1 : Nat) < 4) = True from eq_true (by decide)]
  rw [s_X1_dropOldest_L9]
  simp only [getI, getL, getR, putI, putZ, putL, putR, ldI, ldR, stI, stR, divI, divL, bnd, inv, retI, retZ, retC, retR, retU, hT_sI, hT_sL, hT_sR, hR_sI, hR_sL, hN_sI, hN_sL, hN_sR, hI_sL, hI_sR, hL_sI, hL_sR, ↓reduceIte, true_and, and_true, and_self, ne_eq, not_false_eq_true, not_true_eq_false, reduceCtorEq, if_true, if_false, S.2.2.2.1.1, S.2.2.2.1.2.1, S.2.2.2.1.2.2, e1, e2, e3, e4, cl_0, cl_1, cl_2, cl_3, hR_sR, show ((102 : Nat) = 0) = False from eq_false (by decide), show ((1 : Int32) + 1) = 2 from by decide, show ((4 : Int32) ≤ 2) = False from eq_false (by decide), show ((2 : Int32) - 1) = 1 from by decide, show ((0 : Int32) ≤ 1) = True from eq_true (by decide), show ((0 : Int32) ≤ 2) = True from eq_true (by decide), show ((1 : Nat) < 4) = True from eq_true (by decide), show ((2 : Nat) < 4) = True from eq_true (by decide), show ((101 : Nat) = 102) = False from eq_false (by decide), false_and, and_false, show ((2 : Nat) = 0) = False from eq_false (by decide)]
  rw [s_X1_dropOldest_L9]
  simp only [getI, getL, getR, putI, putZ, putL, putR, ldI, ldR, stI, stR, divI, divL, bnd, inv, retI, retZ, retC, retR, retU, hT_sI, hT_sL, hT_sR, hR_sI, hR_sL, hN_sI, hN_sL, hN_sR, hI_sL, hI_sR, hL_sI, hL_sR, ↓reduceIte, true_and, and_true, and_self, ne_eq, not_false_eq_true, not_true_eq_false, reduceCtorEq, if_true, if_false, S.2.2.2.1.1, S.2.2.2.1.2.1, S.2.2.2.1.2.2, e1, e2, e3, e4, cl_0, cl_1, cl_2, cl_3, hR_sR, show ((102 : Nat) = 0) = False from eq_false (by decide), show ((2 : Int32) + 1) = 3 from by decide, show ((4 : Int32) ≤ 3) = False from eq_false (by decide), show ((3 : Int32) - 1) = 2 from by decide, show ((0 : Int32) ≤ 2) = True from eq_true (by decide), show ((0 : Int32) ≤ 3) = True from eq_true (by decide), show ((2 : Nat) < 4) = True from eq_true (by decide), show ((3 : Nat) < 4) = True from eq_true (by decide), show ((101 : Nat) = 102) = False from eq_false (by decide), false_and, and_false, show ((3 : Nat) = 0) = False from eq_false (by decide), show ((3 : Nat) = 1) = False from eq_false (by decide)]
  rw [s_X1_dropOldest_L9]
  simp only [getI, getL, getR, putI, putZ, putL, putR, ldI, ldR, stI, stR, divI, divL, bnd, inv, retI, retZ, retC, retR, retU, hT_sI, hT_sL, hT_sR, hR_sI, hR_sL, hN_sI, hN_sL, hN_sR, hI_sL, hI_sR, hL_sI, hL_sR, ↓reduceIte, true_and, and_true, and_self, ne_eq, not_false_eq_true, not_true_eq_false, reduceCtorEq, if_true, if_false, S.2.2.2.1.1, S.2.2.2.1.2.1, S.2.2.2.1.2.2, e1, e2, e3, e4, cl_0, cl_1, cl_2, cl_3, hR_sR, show ((102 : Nat) = 0) = False from eq_false (by decide), show ((3 : Int32) + 1) = 4 from by decide, show ((4 : Int32) ≤ 4) = True from eq_true (by decide), show ((0 : Int32) ≤ 3) = True from eq_true (by decide), show ((3 : Nat) < 4) = True from eq_true (by decide), show ((101 : Nat) = 102) = False from eq_false (by decide), false_and, and_false]
theorem c_drop {h : Hp} (S : Sh h) (hp : ∀ k, k < 4 → isH (hR h 102 k)) : s_X1_dropOldest 101 h = some ((), sI (sR (sR (sR (sR h 102 0 (hR h 102 1)) 102 1 (hR h 102 2)) 102 2 (hR h 102 3)) 102 3 (hR h 102 0)) 101 1 (hI h 101 1 - 1)) := by
  have e1 : hR h 102 0 ≠ 0 := by have := hp 0 (by omega); unfold isH at this; omega
  unfold s_X1_dropOldest
  simp only [getI, getL, getR, putI, putZ, putL, putR, ldI, ldR, stI, stR, divI, divL, bnd, inv, retI, retZ, retC, retR, retU, hT_sI, hT_sL, hT_sR, hR_sI, hR_sL, hN_sI, hN_sL, hN_sR, hI_sL, hI_sR, hL_sI, hL_sR, ↓reduceIte, true_and, and_true, and_self, ne_eq, not_false_eq_true, not_true_eq_false, reduceCtorEq, if_true, if_false, S.2.2.2.1.1, S.2.2.2.1.2.1, S.2.2.2.1.2.2, e1, cl_0, show ((102 : Nat) = 0) = False from eq_false (by decide), show ((0 : Int32) ≤ 0) = True from eq_true (by decide), show ((0 : Nat) < 4) = True from eq_true (by decide)]
  exact c_dropL S hp 99996
theorem c_recordJ {h : Hp} {e v : Ent} {c : Nat} {u : Nat → Ent} {sn : Int32} (C : CS h e c u sn v) (h4 : c < 4) (hp : e.1 1 = 0 ∨ e.1 1 = 1) :
    ∃ h', s_X1_record_J12 101 2 h = some ((), h') ∧ hT h' = hT h ∧ hN h' = hN h ∧ (∀ x, (242 ≤ x ∨ (235 ≤ x ∧ x ≤ 241)) → hI h' x = hI h x) ∧ CS h' e (c + 1) (fun k => if k = c then e else u k) sn v := by
  obtain ⟨S, R, ⟨c4, c1, p1, p2, U⟩, ⟨s1, s2⟩, z⟩ := C
  have hc := p1 c h4
  have hne : hR h 102 c ≠ 2 := by unfold isH at hc; omega
  have st2 : isSt 2 := Or.inl rfl
  obtain ⟨h1, a1, a2, a3, a4, a5⟩ := c_copyFrom S hc.st st2 hne R hp
  have far : ∀ x, (x < 103 ∨ 235 ≤ x) → ¬ ST (hR h 102 c) x := fun x hx z => by have := z.1; have := z.2.1; unfold isH at hc; omega
  have w102 : hR h1 102 = hR h 102 := a3 102 (fun ⟨T, i, t, hi, q⟩ => by unfold isSt at t; omega)
  have mp : ∀ x, ST (hR h 102 c) x → Mut x := fun x hx => ST.mut hc.st hx
  have F2 : Fr (fun x => ST (hR h 102 c) x ∨ x = 101) h (sI h1 101 1 (nI (c + 1))) := (a2.mono (fun x hx => Or.inl hx)).sI 101 1 _ (Or.inr rfl)
  have mp2 : ∀ x, (ST (hR h 102 c) x ∨ x = 101) → Mut x := fun x hx => by
    rcases hx with q | q
    · exact mp x q
    · rw [q]; exact mut_101
  have sep : ∀ T, isSt T → T ≠ hR h 102 c → ∀ x, (ST (hR h 102 c) x ∨ x = 101) → ¬ (T ≤ x ∧ x < T + 33) := fun T t hT x hx => by
    have := hc.st.sep t (Ne.symm hT)
    rcases hx with q | q
    · have := q.1; have := q.2.1; omega
    · unfold isSt at t; omega
  refine ⟨sI h1 101 1 (nI (c + 1)), ?_, F2.1, F2.2.1, fun x hx => (F2.2.2 x (fun q => by
    rcases q with q | q
    · exact far x (by omega) q
    · omega)).1, S.wr F2.1 (Nat.le_of_eq F2.2.1.symm) (fun x hx _ => a3 x hx), R.fr F2 S mp2 st2 (sep 2 st2 (Ne.symm hne)), ⟨by omega, ?_, ?_, ?_, ?_⟩, ⟨?_, fun q => ?_⟩, ?_⟩
  · unfold s_X1_record_J12
    have i101 : hI h1 101 1 = nI c := by rw [(a2.2.2 101 (far 101 (by omega))).1]; exact c1
    have e0 : hR h 102 c ≠ 0 := by unfold isH at hc; omega
    simp only [getI, getL, getR, putI, putZ, putL, putR, ldI, ldR, stI, stR, divI, divL, bnd, inv, retI, retZ, retC, retR, retU, hT_sI, hT_sL, hT_sR, hR_sI, hR_sL, hN_sI, hN_sL, hN_sR, hI_sL, hI_sR, hL_sI, hL_sR, ↓reduceIte, true_and, and_true, and_self, ne_eq, not_false_eq_true, not_true_eq_false, reduceCtorEq, if_true, if_false, S.2.2.2.1.1, S.2.2.2.1.2.1, S.2.2.2.1.2.2, c1, nI_ge0 (show c < 2 ^ 31 by omega), nI_clamp (show c < 2 ^ 31 by omega), h4, e0, show ((102 : Nat) = 0) = False from eq_false (by decide), S.t0 hc.st, a1, a4.2.2.2.1.1, i101, nI_1]
  · rw [hI_sI, if_pos ⟨rfl, rfl⟩]
  · intro k hk
    show isH (hR h1 102 k)
    rw [w102]
    exact p1 k hk
  · intro k j hk hj
    show hR h1 102 k = hR h1 102 j → _
    rw [w102]
    exact p2 k j hk hj
  · intro k hk
    show SRe _ (hR h1 102 k) (if k = c then e else u k)
    rw [w102]
    by_cases q : k = c
    · rw [if_pos q, q]
      exact SR.ch ((Fr.rfl' (P := fun x => x = 101)).sI 101 1 (nI (c + 1)) rfl).ch (fun x hx => by rw [hx]; exact mut_101) hc.st a4.2.2.2.2.2.2.2.2 (fun x hx => by rw [hx]; unfold isH at hc; omega) a5
    · rw [if_neg q]
      exact (U k (by omega)).fr F2 S mp2 (p1 k (by omega)).st (sep _ (p1 k (by omega)).st (fun z => q (p2 k c (by omega) (by omega) z)))
  · rw [(F2.2.2 1 (fun q => by
      rcases q with q | q
      · exact far 1 (by omega) q
      · omega)).1]
    exact s1
  · have t68 : isSt 68 := by unfold isSt; omega
    exact (s2 q).fr F2 S mp2 t68 (sep 68 t68 (by unfold isH at hc; omega))
  · intro i hi
    rw [(F2.2.2 238 (fun q => by
      rcases q with q | q
      · exact far 238 (by omega) q
      · omega)).1]
    exact z i hi
theorem c_record {h : Hp} {e v : Ent} {c : Nat} {u : Nat → Ent} {sn : Int32} (C : CS h e c u sn v) (hp : e.1 1 = 0 ∨ e.1 1 = 1) :
    ∃ h', s_X1_record 101 2 h = some ((), h') ∧ hT h' = hT h ∧ hN h' = hN h ∧ (∀ x, (242 ≤ x ∨ (235 ≤ x ∧ x ≤ 241)) → hI h' x = hI h x) ∧ CS h' e (recC c) (recU c u e) sn v := by
  have c4 := C.2.2.1.1
  have c1 := C.2.2.1.2.1
  have S := C.1
  unfold s_X1_record recC recU
  by_cases q : c = 4
  · subst q
    obtain ⟨-, R, ⟨-, -, p1, p2, U⟩, ⟨s1, s2⟩, z⟩ := C
    have hd := c_drop S p1
    have F : Fr (fun x => x = 101 ∨ x = 102) h (sI (sR (sR (sR (sR h 102 0 (hR h 102 1)) 102 1 (hR h 102 2)) 102 2 (hR h 102 3)) 102 3 (hR h 102 0)) 101 1 (nI 3)) := (((((Fr.rfl' (P := fun x => x = 101 ∨ x = 102)).sR 102 0 _ (Or.inr rfl)).sR 102 1 _ (Or.inr rfl)).sR 102 2 _ (Or.inr rfl)).sR 102 3 _ (Or.inr rfl)).sI 101 1 _ (Or.inl rfl)
    have mp : ∀ x, (x = 101 ∨ x = 102) → Mut x := fun x hx => by
      rcases hx with q | q
      · rw [q]; exact mut_101
      · rw [q]; exact mut_102
    have sep : ∀ T, isSt T → ∀ x, (x = 101 ∨ x = 102) → ¬ (T ≤ x ∧ x < T + 33) := fun T t x hx => by unfold isSt at t; omega
    have st2 : isSt 2 := Or.inl rfl
    have w102 : ∀ k, hR (sI (sR (sR (sR (sR h 102 0 (hR h 102 1)) 102 1 (hR h 102 2)) 102 2 (hR h 102 3)) 102 3 (hR h 102 0)) 101 1 (nI 3)) 102 k = if k = 3 then hR h 102 0 else if k = 2 then hR h 102 3 else if k = 1 then hR h 102 2 else if k = 0 then hR h 102 1 else hR h 102 k := fun k => by
      show hR (sR (sR (sR (sR h 102 0 (hR h 102 1)) 102 1 (hR h 102 2)) 102 2 (hR h 102 3)) 102 3 (hR h 102 0)) 102 k = _
      simp only [hR_sR, true_and]
    have C1 : CS (sI (sR (sR (sR (sR h 102 0 (hR h 102 1)) 102 1 (hR h 102 2)) 102 2 (hR h 102 3)) 102 3 (hR h 102 0)) 101 1 (nI 3)) e 3 (fun k => u (k + 1)) sn v := by
      refine ⟨S.wr F.1 (Nat.le_of_eq F.2.1.symm) (fun x hx h2 => ?_), R.fr F S mp st2 (sep 2 st2), ⟨by omega, by rw [hI_sI, if_pos ⟨rfl, rfl⟩], fun k hk => ?_, fun k j hk hj => ?_, fun k hk => ?_⟩, ⟨?_, fun q => ?_⟩, ?_⟩
      · show hR (sR (sR (sR (sR h 102 0 (hR h 102 1)) 102 1 (hR h 102 2)) 102 2 (hR h 102 3)) 102 3 (hR h 102 0)) x = _
        rw [hR_sRn _ _ _ _ _ h2, hR_sRn _ _ _ _ _ h2, hR_sRn _ _ _ _ _ h2, hR_sRn _ _ _ _ _ h2]
      · rw [w102]
        rcases (show k = 0 ∨ k = 1 ∨ k = 2 ∨ k = 3 by omega) with rfl | rfl | rfl | rfl
        · exact p1 1 (by omega)
        · exact p1 2 (by omega)
        · exact p1 3 (by omega)
        · exact p1 0 (by omega)
      · rw [w102, w102]
        rcases (show k = 0 ∨ k = 1 ∨ k = 2 ∨ k = 3 by omega) with rfl | rfl | rfl | rfl <;> rcases (show j = 0 ∨ j = 1 ∨ j = 2 ∨ j = 3 by omega) with rfl | rfl | rfl | rfl <;> intro y <;> first | rfl | (have := p2 _ _ (by decide) (by decide) y; omega)
      · rw [w102]
        have uu : hR h 102 (k + 1) = (if k = 3 then hR h 102 0 else if k = 2 then hR h 102 3 else if k = 1 then hR h 102 2 else if k = 0 then hR h 102 1 else hR h 102 k) := by
          rcases (show k = 0 ∨ k = 1 ∨ k = 2 by omega) with rfl | rfl | rfl <;> rfl
        rw [← uu]
        exact (U (k + 1) (by omega)).fr F S mp (p1 (k + 1) (by omega)).st (sep _ (p1 (k + 1) (by omega)).st)
      · rw [(F.2.2 1 (by omega)).1]
        exact s1
      · exact (s2 q).fr F S mp (by unfold isSt; omega) (sep 68 (by unfold isSt; omega))
      · intro i hi
        rw [(F.2.2 238 (by omega)).1]
        exact z i hi
    obtain ⟨h', b1, b2, b3, b4, b5⟩ := c_recordJ C1 (by omega) hp
    refine ⟨h', ?_, b2.trans F.1, b3.trans F.2.1, fun x hx => (b4 x hx).trans (F.2.2 x (by omega)).1, ?_⟩
    · simp only [getI, S.2.2.2.1.1, c1, if_true, show (nI 4 = 4) = True from eq_true rfl, inv, hd, bnd, show nI 4 - 1 = nI 3 from by decide]
      exact b1
    · rw [if_pos rfl, if_pos rfl]
      obtain ⟨d1, d2, ⟨d3, d4, d5, d6, d7⟩, d8, d9⟩ := b5
      refine ⟨d1, d2, ⟨d3, d4, d5, d6, fun k hk => ?_⟩, d8, d9⟩
      have this : SRe h' (hR h' 102 k) (if k = 3 then e else u (k + 1)) := d7 k hk
      show SRe h' (hR h' 102 k) (if k < 3 then u (k + 1) else e)
      by_cases q : k = 3
      · rw [if_pos q] at this
        rw [if_neg (by omega)]
        exact this
      · rw [if_neg q] at this
        rw [if_pos (by omega)]
        exact this
  · obtain ⟨h', b1, b2, b3, b4, b5⟩ := c_recordJ C (by omega) hp
    refine ⟨h', ?_, b2, b3, b4, ?_⟩
    · simp only [getI, S.2.2.2.1.1, c1, if_true, nI_4 c c4, q, if_false]
      exact b1
    · rw [if_neg q, if_neg q]
      exact b5
