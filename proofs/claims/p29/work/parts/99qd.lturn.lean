/-! the law's actions -/
theorem cellB_is {α : Type} {L : Nat} {xs : Nat → Int32} {k : Nat} (hL : L < 2 ^ 31) (hk : k < 2 ^ 31) (f : Int32 → Option α) : cellB L xs (nI k) f = f (cellF L xs (nI k)) := if_pos ⟨nI_pos' hk, hL⟩
theorem lim_is {α : Type} {g : Nat} (h : g < 400) (f : Option α) : lim g f = f := if_pos h
/-- behind an action: all agree -/
theorem t_same {L : Nat} {xs : Nat → Int32} {k290 : Nat → Nat → Nat → Nat → Nat → Nat → Int32 → Nat → Hp → Rv Int32} {H : Hp} {w : Row} {nl t g v6 : Nat} {v7 : Int32} (s : STT H w nl t) (ht : t ≤ 400) : s_X10_law_J970 L xs k290 1 241 242 243 244 v6 v7 g H = k290 1 241 242 243 244 v6 (v7 + 1) g H := by
  obtain ⟨h, q, o, p, l, r, rfl, C, W, R, B⟩ := s.un
  unfold s_X10_law_J970
  rw [l_same C W ht R]
  simp only [bnd]
  rw [if_neg (by decide)]
/-- a house's row changed alone -/
theorem LRel.house {q o o' p l w w' : Row} {nl i : Nat} (R : LRel q o p l w nl) (hw : ∀ j, (j < 15 + 42 * i ∨ 15 + 42 * i + 42 ≤ j) → w' j = w j) (hi : i < 3) (ho' : ∀ j c, j ≠ i → c < 16 → ho o' j c = ho o j c) (hA : HA o' p w' i) : LRel q o' p l w' nl := by
  obtain ⟨hq, A, hl, hn⟩ := R
  refine ⟨?_, fun j hj => ?_, hl.hi (fun j hj => hw j (by omega)), hn⟩
  · unfold LQ
    rw [hw 0 (by omega), hw 1 (by omega), hw 3 (by omega), hw 4 (by omega), hw 5 (by omega), hw 6 (by omega), hw 7 (by omega), hw 8 (by omega), hw 9 (by omega), hw 10 (by omega), hw 11 (by omega), hw 13 (by omega), hw 14 (by omega)]
    exact hq
  · by_cases y : j = i
    · rw [y]; exact hA
    · exact ((A j hj).other (fun c hc => ho' j c y hc)).congr (fun k hk => hw _ (by omega))
theorem PB.house {w w' : Row} {i : Nat} (B : PB w) (hw : ∀ j, (j < 15 + 42 * i ∨ 15 + 42 * i + 42 ≤ j) → w' j = w j) (h1 : pt w' i 1 = pt w i 1) (h15 : pt w' i 15 ≠ 0) (hd : DV w' i) : PB w' := by
  intro j hj
  by_cases y : j = i
  · rw [y, h1]; exact ⟨⟨h15, hd⟩, (B i (y ▸ hj)).2⟩
  · have e : ∀ k, k < 42 → pt w' j k = pt w j k := fun k hk => hw _ (by omega)
    unfold DV
    rw [e 1 (by omega), e 15 (by omega), e 13 (by omega)]
    exact B j hj
/-- a washer is started -/
theorem t_start {L : Nat} {xs : Nat → Int32} {k290 : Nat → Nat → Nat → Nat → Nat → Nat → Int32 → Nat → Hp → Rv Int32} {H : Hp} {w : Row} {nl t g i : Nat} {v7 : Int32} (s : STT H w nl t) (ht : t ≤ 400) (hi : i < 3) :
    ∃ H' w', (ldI H 241 20 1 fun x56 => if x56 = 1 then ldI H 242 20 ((16 * nI i) + 5) fun x59 => if x59 = 0 then ldI H 242 20 ((16 * nI i) + 9) fun x60 => if x60 = 0 then s_X10_law_J370 L xs k290 1 241 242 243 244 245 v7 (nI i) (16 * nI i) g H else s_X10_law_J371 L xs k290 1 241 242 243 244 245 v7 (nI i) (16 * nI i) g 1 H else s_X10_law_J370 L xs k290 1 241 242 243 244 245 v7 (nI i) (16 * nI i) g H else s_X10_law_J370 L xs k290 1 241 242 243 244 245 v7 (nI i) (16 * nI i) g H) = k290 1 241 242 243 244 245 (v7 + 1) g H' ∧ STT H' w' nl t := by
  obtain ⟨h, q, o, p, l, r, rfl, C, W, R, B⟩ := id s.un
  have S := C.sh
  have T : LT5 h := S.lt5
  have hA := R.2.1 i hi
  have hp := W.2.1
  have q1 : q 1 = w 1 := R.1.2.1
  obtain ⟨cc, aa, P, G⟩ := id hA
  obtain ⟨s1, s2⟩ := q_start C W (show i < (w, 3, nl).2.1 from hi)
  have no : ¬ canS w i → ∃ H' w', s_X10_law_J371 L xs k290 1 241 242 243 244 245 v7 (nI i) (16 * nI i) g 0 (sV h q o p l r) = k290 1 241 242 243 244 245 (v7 + 1) g H' ∧ STT H' w' nl t := fun y => by
    refine ⟨sV h q o p l r, w, ?_, s⟩
    unfold s_X10_law_J371
    rw [S.i8, s2 y]
    simp only [bnd]
    rw [if_pos trivial]
    unfold s_X10_law_J396
    rw [if_pos rfl, show (100000 : Nat) = 99999 + 1 from rfl, s_X10_law_L404, if_neg (by decide), if_pos rfl]
    unfold s_X10_law_J460
    exact t_same s ht
  rw [vq_1 T, q1]
  by_cases z1 : w 1 = 1
  · rw [if_pos z1, vo_5 T _ _ _ _ _ hi, aa.1]
    by_cases z2 : pt w i 9 = 0
    · rw [if_pos z2, vo_9 T _ _ _ _ _ hi, aa.2.2.2.1]
      by_cases z3 : pt w i 13 = 0
      · rw [if_pos z3]
        unfold s_X10_law_J370
        exact no (fun y => y.2.2.2 z3)
      · rw [if_neg z3]
        have hcan : canS w i := ⟨by rw [z1]; decide, (B i hi).1.1, z2, z3⟩
        obtain ⟨h1, r1, r2, r3, r4⟩ := s1 hcan
        have e1 := r3.sv
        rw [e1] at r1 r2
        have T1 : LT5 h1 := r2.sh.lt5
        have ev : nI 1 = (1 : Int32) := rfl
        have fp : ∀ k, k ≠ 9 → k ≠ 13 → k ≠ 10 → k ≠ 14 → k ≠ 16 → pt (begF w i) i k = pt w i k := fun k a b c d e => begF_pt w i a b c d e
        have bp : pt (begF w i) i 9 = 1 ∧ pt (begF w i) i 13 = 2 ∧ pt (begF w i) i 10 = 0 ∧ pt (begF w i) i 14 = 0 ∧ pt (begF w i) i 16 = 0 := by
          unfold begF
          simp only [pt_sp, Nat.reduceEqDiff, if_false, if_true, and_self]
        have hA' : HA (so (so (so (so (so o i 5 1) i 6 0) i 9 2) i 10 0) i 12 0) p (begF w i) i := by
          refine ⟨?_, ?_, P.congr (fp 15 (by omega) (by omega) (by omega) (by omega) (by omega)) (fun k h1 _ => fp k (by omega) (by omega) (by omega) (by omega) (by omega)), ⟨fun np k e h12 hk yy => ?_, fun yy ph hph e yz => ?_⟩⟩
          · unfold HLc
            rw [fp 0 (by omega) (by omega) (by omega) (by omega) (by omega), fp 1 (by omega) (by omega) (by omega) (by omega) (by omega), fp 2 (by omega) (by omega) (by omega) (by omega) (by omega), fp 3 (by omega) (by omega) (by omega) (by omega) (by omega), fp 4 (by omega) (by omega) (by omega) (by omega) (by omega), fp 7 (by omega) (by omega) (by omega) (by omega) (by omega), fp 8 (by omega) (by omega) (by omega) (by omega) (by omega)]
            simp only [ho_so, Nat.reduceEqDiff, if_false]
            exact cc
          · unfold HLw
            rw [bp.1, bp.2.1, bp.2.2.1, bp.2.2.2.1, bp.2.2.2.2, fp 11 (by omega) (by omega) (by omega) (by omega) (by omega), fp 12 (by omega) (by omega) (by omega) (by omega) (by omega), fp 15 (by omega) (by omega) (by omega) (by omega) (by omega), fp 17 (by omega) (by omega) (by omega) (by omega) (by omega)]
            simp only [ho_so, Nat.reduceEqDiff, if_false, if_true]
            exact ⟨trivial, aa.2.1, aa.2.2.1, trivial, aa.2.2.2.2.1, aa.2.2.2.2.2.1, fun _ => ⟨trivial, trivial⟩, fun _ => trivial⟩
          · rw [fp 15 (by omega) (by omega) (by omega) (by omega) (by omega)] at e
            rw [fp _ (by omega) (by omega) (by omega) (by omega) (by omega)] at yy ⊢
            exact G.1 np k e h12 hk yy
          · rw [bp.2.2.1] at e
            have ph0 : ph = 0 := ((nI_0' ph (by omega)).mp e.symm)
            subst ph0
            rw [fp _ (by omega) (by omega) (by omega) (by omega) (by omega)] at yz
            obtain ⟨np, n4, en, -⟩ := P
            have np0 : np ≠ 0 := fun y => (B i hi).1.1 (by rw [en, y]; rfl)
            obtain ⟨-, -, -, np', m3, m4, m5, -⟩ := W.2.2.2.2.1 i hi
            have enp : np' = np := (nI_eq (by omega) (by omega)).mp (m3.symm.trans en)
            obtain ⟨-, x, hx, hx2, -⟩ := m5 0 (by omega)
            have nz := G.1 np 0 en (by omega) (by omega) yz
            refine ⟨0, x, bp.2.2.2.1, by rw [fp _ (by omega) (by omega) (by omega) (by omega) (by omega)]; exact hx, ?_, hx2⟩
            rw [hx] at nz
            exact Nat.pos_of_ne_zero (fun e => nz (by rw [e]; rfl))
        have fr : ∀ j c, j ≠ i → c < 16 → ho (so (so (so (so (so o i 5 1) i 6 0) i 9 2) i 10 0) i 12 0) j c = ho o j c := fun j c hj hc => by
          rw [ho_so_ne _ _ (Ne.symm hj) (by omega) hc, ho_so_ne _ _ (Ne.symm hj) (by omega) hc, ho_so_ne _ _ (Ne.symm hj) (by omega) hc, ho_so_ne _ _ (Ne.symm hj) (by omega) hc, ho_so_ne _ _ (Ne.symm hj) (by omega) hc]
        have s' : STT (sV h1 q (so (so (so (so (so o i 5 1) i 6 0) i 9 2) i 10 0) i 12 0) p l r) (begF w i) nl t := STT.mk r2.rows0 r4 (R.house (fun j hj => begF_off w i j hj) hi fr hA') (B.house (fun j hj => begF_off w i j hj) (fp 1 (by omega) (by omega) (by omega) (by omega) (by omega)) (by rw [fp 15 (by omega) (by omega) (by omega) (by omega) (by omega)]; exact (B i hi).1.1) (Or.inr (Or.inr bp.2.1)))
        refine ⟨_, _, ?_, s'⟩
        unfold s_X10_law_J371
        rw [S.i8, r1]
        simp only [bnd]
        rw [if_neg (by decide), vo_11 T1 _ _ _ _ _ hi, aa.2.2.2.2.1]
        unfold s_X10_law_J396
        rw [if_pos rfl, show (100000 : Nat) = 99998 + 1 + 1 from rfl, s_X10_law_L404, if_neg (by decide), if_neg (by decide)]
        simp only [wo_5 T1 _ _ _ _ _ hi, wo_6 T1 _ _ _ _ _ hi, wo_9 T1 _ _ _ _ _ hi, wo_10 T1 _ _ _ _ _ hi, wo_12 T1 _ _ _ _ _ hi]
        rw [s_X10_law_L404, if_pos (by decide)]
        unfold s_X10_law_J460
        exact t_same s' ht
    · rw [if_neg z2]
      unfold s_X10_law_J370
      exact no (fun y => z2 y.2.2.1)
  · rw [if_neg z1]
    unfold s_X10_law_J370
    exact no (fun y => hp.elim (fun e => y.1 e) z1)
