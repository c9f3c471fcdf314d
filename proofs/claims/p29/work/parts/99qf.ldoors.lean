/-! the law's doors -/
theorem PRL.congr' {p w w' : Row} {i : Nat} (hp : ∀ k, 15 ≤ k → k < 42 → pt w' i k = pt w i k) (P : PRL p w i) : PRL p w' i := by
  obtain ⟨np, n4, e, f⟩ := P
  exact ⟨np, n4, (hp 15 (by omega) (by omega)).trans e, fun k hk => by rw [hp (30 + k) (by omega) (by omega), hp (18 + k) (by omega) (by omega)]; exact f k hk⟩
theorem HA.door {o p w : Row} {i : Nat} (v : Int32) (A : HA o p w i) : HA (so o i 9 v) p (sp w i 13 v) i := by
  obtain ⟨cc, aa, P, G⟩ := A
  have e : ∀ k, k ≠ 13 → pt (sp w i 13 v) i k = pt w i k := fun k hk => by rw [pt_sp, if_neg hk]
  have e13 : pt (sp w i 13 v) i 13 = v := by rw [pt_sp, if_pos rfl]
  refine ⟨?_, ?_, P.congr' (fun k h1 _ => e k (by omega)), G.congr (e 9 (by omega)) (e 10 (by omega)) (e 14 (by omega)) (e 15 (by omega)) (fun k h1 _ => e k (by omega))⟩
  · unfold HLc
    rw [e 0 (by omega), e 1 (by omega), e 2 (by omega), e 3 (by omega), e 4 (by omega), e 7 (by omega), e 8 (by omega)]
    simp only [ho_so, Nat.reduceEqDiff, if_false]
    exact cc
  · unfold HLw
    rw [e 9 (by omega), e 10 (by omega), e 11 (by omega), e 12 (by omega), e13, e 14 (by omega), e 15 (by omega), e 16 (by omega), e 17 (by omega)]
    simp only [ho_so, Nat.reduceEqDiff, if_false, if_true]
    exact ⟨aa.1, aa.2.1, aa.2.2.1, trivial, aa.2.2.2.2⟩
theorem STT.door {h : Hp} {q o p l r w : Row} {nl t i : Nat} {v : Int32} (hi : i < 3) (hv : v = 0 ∨ v = 1 ∨ v = 2) (C : CST (sV h q o p l r) (sp w i 13 v, 3, nl)) (W : WF (sp w i 13 v) 3 nl t) (R : LRel q o p l w nl) (B : PB w) : STT (sV h q (so o i 9 v) p l r) (sp w i 13 v) nl t := by
  have off : ∀ j, (j < 15 + 42 * i ∨ 15 + 42 * i + 42 ≤ j) → sp w i 13 v j = w j := fun j hj => sp_off _ _ _ _ _ (by omega) hj
  exact STT.mk C.rows0 W (R.house off hi (fun j c hj hc => ho_so_ne _ _ (Ne.symm hj) (by omega) hc) ((R.2.1 i hi).door v)) (B.house off (by rw [pt_sp, if_neg (by omega)]) (by rw [pt_sp, if_neg (by omega)]; exact (B i hi).1.1) (by unfold DV; rw [pt_sp, if_pos rfl]; exact hv))
theorem t_close {L : Nat} {xs : Nat → Int32} {k290 : Nat → Nat → Nat → Nat → Nat → Nat → Int32 → Nat → Hp → Rv Int32} {H : Hp} {w : Row} {nl t g i : Nat} {v7 x : Int32} (s : STT H w nl t) (ht : t ≤ 400) (hi : i < 3) :
    ∃ H' w', (bnd (s_X10_low (shrI x 7) 2 H) fun x36 h => if x36 = 0 then ldI h 242 20 ((16 * nI i) + 9) fun x37 => if x37 = 0 then inv h 1 8 (s_X8_closeDoor 1 (nI i) h) fun x38 h => if x38 = 1 then stI h 242 20 ((16 * nI i) + 9) 1 fun h => s_X10_law_J909 L xs k290 1 241 242 243 244 245 v7 g h else retZ 0 h else s_X10_law_J909 L xs k290 1 241 242 243 244 245 v7 g h else s_X10_law_J909 L xs k290 1 241 242 243 244 245 v7 g h) = k290 1 241 242 243 244 245 (v7 + 1) g H' ∧ STT H' w' nl t := by
  obtain ⟨h, q, o, p, l, r, rfl, C, W, R, B⟩ := id s.un
  have S := C.sh
  have T : LT5 h := S.lt5
  obtain ⟨cc, aa, P, G⟩ := R.2.1 i hi
  have no : ∃ H' w', s_X10_law_J909 L xs k290 1 241 242 243 244 245 v7 g (sV h q o p l r) = k290 1 241 242 243 244 245 (v7 + 1) g H' ∧ STT H' w' nl t := ⟨_, w, by unfold s_X10_law_J909; exact t_same s ht, s⟩
  rw [l_low2]
  simp only [bnd]
  by_cases z : nI (lowN (shrI x 7) 2) = 0
  · rw [if_pos z, vo_9 T _ _ _ _ _ hi, aa.2.2.2.1]
    by_cases z1 : pt w i 13 = 0
    · rw [if_pos z1, S.i8]
      obtain ⟨h1, a1, a2, a3, a4⟩ := q_closeDoor C W (show i < (w, 3, nl).2.1 from hi) z1
      have e1 := a3.sv
      rw [e1] at a1 a2
      rw [a1]
      simp only [bnd]
      have T1 : LT5 h1 := a2.sh.lt5
      rw [if_pos trivial, wo_9 T1 _ _ _ _ _ hi]
      have s' := STT.door hi (Or.inr (Or.inl rfl)) a2 a4 R B
      exact ⟨_, _, by unfold s_X10_law_J909; exact t_same s' ht, s'⟩
    · rw [if_neg z1]
      exact no
  · rw [if_neg z]
    exact no
theorem t_door {L : Nat} {xs : Nat → Int32} {k290 : Nat → Nat → Nat → Nat → Nat → Nat → Int32 → Nat → Hp → Rv Int32} {H : Hp} {w : Row} {nl t g i : Nat} {v7 x : Int32} (s : STT H w nl t) (ht : t ≤ 400) (hi : i < 3) :
    ∃ H' w', (ldI H 242 20 ((16 * nI i) + 9) fun x32 => if x32 = 1 then s_X10_law_J799 L xs k290 1 241 242 243 244 245 v7 x (nI i) (16 * nI i) g 1 H else s_X10_law_J799 L xs k290 1 241 242 243 244 245 v7 x (nI i) (16 * nI i) g 0 H) = k290 1 241 242 243 244 245 (v7 + 1) g H' ∧ STT H' w' nl t := by
  obtain ⟨h, q, o, p, l, r, rfl, C, W, R, B⟩ := id s.un
  have S := C.sh
  have T : LT5 h := S.lt5
  obtain ⟨cc, aa, P, G⟩ := R.2.1 i hi
  obtain ⟨h1, a1, a2, a3, a4⟩ := q_openDoor (show t ≤ 38000 by omega) C W (show i < (w, 3, nl).2.1 from hi)
  have e1 := a3.sv
  rw [e1] at a1 a2
  have T1 : LT5 h1 := a2.sh.lt5
  have J : ∀ v : Int32, v = 0 ∨ v = 1 ∨ v = 2 → CST (sV h1 q o p l r) (sp w i 13 v, 3, nl) → WF (sp w i 13 v) 3 nl t → ∃ H' w', s_X10_law_J866 L xs k290 1 241 242 243 244 245 v7 x (nI i) (16 * nI i) g 242 (16 * nI i + 9) v (sV h1 q o p l r) = k290 1 241 242 243 244 245 (v7 + 1) g H' ∧ STT H' w' nl t := fun v hv c w' => by
    have s' := STT.door hi hv c w' R B
    unfold s_X10_law_J866
    rw [wo_9 T1 _ _ _ _ _ hi]
    exact t_close s' ht hi
  have o9 : ho o i 9 = pt w i 13 := aa.2.2.2.1
  rw [vo_9 T _ _ _ _ _ hi, o9]
  unfold s_X10_law_J799
  rcases (B i hi).1.2 with z | z | z
  · have z2 : ¬ pt w i 13 = 2 := fun y => absurd (y.symm.trans z) (by decide)
    have z1 : ¬ pt w i 13 = 1 := fun y => absurd (y.symm.trans z) (by decide)
    simp only at a1 a2 a4
    rw [if_neg z2, if_pos z] at a1
    rw [if_neg z2] at a2 a4
    rw [if_neg z1, S.i8, a1]
    simp only [bnd]
    rw [if_pos trivial, vo_9 T1 _ _ _ _ _ hi, o9, if_neg z2]
    unfold s_X10_law_J839
    rw [if_pos rfl, if_pos rfl, vo_9 T1 _ _ _ _ _ hi, o9, z]
    exact J 0 (Or.inl rfl) a2 a4
  · have z2 : ¬ pt w i 13 = 2 := fun y => absurd (y.symm.trans z) (by decide)
    have z0 : ¬ pt w i 13 = 0 := fun y => absurd (y.symm.trans z) (by decide)
    simp only at a1 a2 a4
    rw [if_neg z2, if_neg z0] at a1
    rw [if_neg z2] at a2 a4
    rw [if_pos z, S.i8, a1]
    simp only [bnd]
    obtain ⟨-, -, ⟨wt, wm, hw, hm, bw, bm, hz⟩, -⟩ := W.2.2.2.2.1 i hi
    have ew : wtN w i = wt := by unfold wtN; rw [hw, nI_clamp (by omega)]
    have em : wmN w i = wm := by unfold wmN; rw [hm, nI_clamp (by omega)]
    rw [if_neg (by decide), l_tmp T1 _ _ _ _ _ hi (aa.2.1.trans hw) (aa.2.2.1.trans hm) (by omega) (by omega), ew, em]
    simp only [bnd]
    unfold s_X10_law_J839
    rw [if_pos rfl, if_neg (by decide)]
    exact J 0 (Or.inl rfl) a2 a4
  · have z1 : ¬ pt w i 13 = 1 := fun y => absurd (y.symm.trans z) (by decide)
    simp only at a1 a2 a4
    rw [if_pos z] at a1 a2 a4
    rw [if_neg z1, S.i8, a1]
    simp only [bnd]
    rw [if_pos trivial, vo_9 T1 _ _ _ _ _ hi, o9, if_pos z]
    unfold s_X10_law_J839
    rw [if_pos rfl, if_pos rfl, vo_9 T1 _ _ _ _ _ hi, o9, z]
    have es : sp w i 13 2 = w := by
      have := sp_self w i 13
      rw [z] at this
      exact this
    refine J 2 (Or.inr (Or.inr rfl)) ?_ ?_
    · rw [es]; exact a2
    · rw [es]; exact a4
/-! the law's stop -/
theorem t_stop {L : Nat} {xs : Nat → Int32} {k290 : Nat → Nat → Nat → Nat → Nat → Nat → Int32 → Nat → Hp → Rv Int32} {H : Hp} {w : Row} {nl t g i : Nat} {v7 x : Int32} (s : STT H w nl t) (ht : t ≤ 400) (hg : g ≤ 370) (hi : i < 3) :
    ∃ H' w', (inv H 1 8 (s_X8_stop 1 (nI i) H) fun x27 h => ldI h 242 20 ((16 * nI i) + 5) fun x28 => if x28 = 0 then s_X10_law_J939 L xs k290 1 241 242 243 244 245 v7 x (nI i) (16 * nI i) g x27 (-5) h else ldI h 242 20 ((16 * nI i) + 6) fun x29 => s_X10_law_J939 L xs k290 1 241 242 243 244 245 v7 x (nI i) (16 * nI i) g x27 x29 h) = k290 1 241 242 243 244 245 (v7 + 1) (g + 1) H' ∧ STT H' w' nl t := by
  obtain ⟨h, q, o, p, l, r, rfl, C, W, R, B⟩ := id s.un
  have S := C.sh
  have T : LT5 h := S.lt5
  obtain ⟨h1, a1, a2, a3, a4⟩ := q_stop C W (show i < (w, 3, nl).2.1 from hi)
  have e1 := a3.sv
  rw [e1] at a1 a2
  have T1 : LT5 h1 := a2.sh.lt5
  have off : ∀ j, (j < 15 + 42 * i ∨ 15 + 42 * i + 42 ≤ j) → sp w i 9 0 j = w j := fun j hj => sp_off _ _ _ _ _ (by omega) hj
  have e : ∀ k, k ≠ 9 → pt (sp w i 9 0) i k = pt w i k := fun k hk => by rw [pt_sp, if_neg hk]
  have e9 : pt (sp w i 9 0) i 9 = 0 := by rw [pt_sp, if_pos rfl]
  have A1 : ∀ j, j < 3 → HA (so o i 5 0) p (sp w i 9 0) j := fun j hj => by
    by_cases y : j = i
    · subst y
      obtain ⟨cc, aa, P, G⟩ := R.2.1 j hj
      refine ⟨?_, ?_, P.congr' (fun k h1 _ => e k (by omega)), ⟨fun np k en h12 hk yy => ?_, fun yy => absurd (e9.symm.trans yy) (by decide)⟩⟩
      · unfold HLc
        rw [e 0 (by omega), e 1 (by omega), e 2 (by omega), e 3 (by omega), e 4 (by omega), e 7 (by omega), e 8 (by omega)]
        simp only [ho_so, Nat.reduceEqDiff, if_false]
        exact cc
      · unfold HLw
        rw [e9, e 11 (by omega), e 12 (by omega), e 13 (by omega), e 15 (by omega), e 17 (by omega)]
        simp only [ho_so, Nat.reduceEqDiff, if_false, if_true]
        exact ⟨trivial, aa.2.1, aa.2.2.1, aa.2.2.2.1, aa.2.2.2.2.1, aa.2.2.2.2.2.1, fun yy => absurd rfl yy, fun yy => absurd yy (by decide)⟩
      · rw [e _ (by omega)] at en ⊢
        rw [e _ (by omega)] at yy
        exact G.1 np k en h12 hk yy
    · exact ((R.2.1 j hj).other (fun c hc => ho_so_ne _ _ (Ne.symm y) (by omega) hc)).congr (fun k hk => off _ (by omega))
  have C1 : CST (sV h1 q (so o i 5 0) p l r) (sp w i 9 0, 3, nl) := a2.rows0
  obtain ⟨h', o', p', w', b1, b2, b3, b4, b5, b6, b7, b8, -⟩ := l_program (shrI x 7) C1 a4 (Nat.le_refl 3) hi A1
  have R' : LRel q o' p' l w' nl := by
    obtain ⟨hq, -, hl, hn⟩ := R
    have lo : ∀ j, j < 15 → w' j = w j := fun j hj => (b5 j (Or.inl hj)).trans (off j (by omega))
    refine ⟨?_, b4, hl.hi (fun j hj => (b5 j (Or.inr hj)).trans (off j (by omega))), hn⟩
    unfold LQ
    rw [lo 0 (by omega), lo 1 (by omega), lo 3 (by omega), lo 4 (by omega), lo 5 (by omega), lo 6 (by omega), lo 7 (by omega), lo 8 (by omega), lo 9 (by omega), lo 10 (by omega), lo 11 (by omega), lo 13 (by omega), lo 14 (by omega)]
    exact hq
  have B' : PB w' := B.house (i := i) (fun j hj => (b7 j hj).trans (off j hj)) ((b6 i 1 (by omega) (by omega)).trans (e 1 (by omega))) (b8 (fun y => absurd (e9.symm.trans y) (by decide))) (by
    unfold DV
    rw [b6 i 13 (by omega) (by omega), e 13 (by omega)]
    exact (B i hi).1.2)
  have s' := STT.mk b2 b3 R' B'
  have K : ∀ x27 x29 : Int32, x27 = x29 → s_X10_law_J939 L xs k290 1 241 242 243 244 245 v7 x (nI i) (16 * nI i) g x27 x29 (sV h1 q o p l r) = k290 1 241 242 243 244 245 (v7 + 1) (g + 1) (sV h' q o' p' l r) := fun x27 x29 ex => by
    unfold s_X10_law_J939
    rw [if_pos ex, wo_5 T1 _ _ _ _ _ hi, lim_is (by omega), b1]
    simp only [bnd]
    rw [if_neg (by decide)]
    exact t_same s' ht
  refine ⟨_, _, ?_, s'⟩
  obtain ⟨cc, aa, P, G⟩ := R.2.1 i hi
  rw [S.i8, a1]
  simp only [bnd]
  rw [vo_5 T1 _ _ _ _ _ hi, aa.1]
  by_cases z : pt w i 9 = 0
  · rw [if_pos z, if_pos z]
    exact K _ _ rfl
  · rw [if_neg z, if_neg z, vo_6 T1 _ _ _ _ _ hi]
    exact K _ _ (aa.2.2.2.2.2.2.1 z).1.symm
