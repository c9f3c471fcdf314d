/-! the law's power -/
theorem t_cnt {L : Nat} {xs : Nat → Int32} {k658 : Nat → Nat → Nat → Nat → Nat → Nat → Int32 → Int32 → Int32 → Nat → Hp → Rv Int32} {h : Hp} {q o p l r w : Row} {v7 v12 : Int32} {g : Nat} (T : LT5 h) (A : ∀ j, j < 3 → ho o j 5 = pt w j 9) : ∀ (d j f : Nat) (c : Int32), j + d = 3 → d < f → s_X10_law_L623 L xs k658 f 1 241 242 243 244 245 v7 v12 c (nI j) g (sV h q o p l r) = k658 1 241 242 243 244 245 v7 v12 (sumL (isF w 9 1) d j c) g (sV h q o p l r)
  | 0, j, f, c, hj, hf => by
    obtain ⟨f, rfl, -⟩ := fuel_succ hf
    rw [s_X10_law_L623, if_pos (by rw [show (3 : Int32) = nI 3 from rfl, nI_leE (by omega) (by omega)]; omega)]
    rfl
  | d + 1, j, f, c, hj, hf => by
    obtain ⟨f, rfl, hf2⟩ := fuel_succ hf
    rw [s_X10_law_L623, if_neg (by rw [show (3 : Int32) = nI 3 from rfl, nI_leE (by omega) (by omega)]; omega), vo_5 T _ _ _ _ _ (show j < 3 by omega), A j (by omega), nI_1]
    show _ = k658 1 241 242 243 244 245 v7 v12 (sumL (isF w 9 1) d (j + 1) (c + isF w 9 1 j)) g (sV h q o p l r)
    unfold isF
    by_cases z : pt w j 9 = 1
    · rw [if_pos z, if_pos z]
      exact t_cnt T A d (j + 1) f _ (by omega) (by omega)
    · rw [if_neg z, if_neg z]
      exact t_cnt T A d (j + 1) f _ (by omega) (by omega)
theorem t_spin0 {L : Nat} {xs : Nat → Int32} {k756 : Nat → Nat → Nat → Nat → Nat → Nat → Int32 → Int32 → Nat → Hp → Rv Int32} {h : Hp} {q o p l r : Row} {v7 v12 : Int32} {g : Nat} (T : LT5 h) (hq : q 1 = 0 → v12 = 0) : ∀ (d j f : Nat), j + d = 3 → d < f → s_X10_law_L696 L xs k756 f 1 241 242 243 244 245 v7 v12 (nI j) g (sV h q o p l r) = k756 1 241 242 243 244 245 v7 v12 g (sV h q o p l r)
  | 0, j, f, hj, hf => by
    obtain ⟨f, rfl, -⟩ := fuel_succ hf
    rw [s_X10_law_L696, if_pos (by rw [show (3 : Int32) = nI 3 from rfl, nI_leE (by omega) (by omega)]; omega)]
  | d + 1, j, f, hj, hf => by
    obtain ⟨f, rfl, hf2⟩ := fuel_succ hf
    rw [s_X10_law_L696, if_neg (by rw [show (3 : Int32) = nI 3 from rfl, nI_leE (by omega) (by omega)]; omega), vq_1 T, nI_1]
    by_cases z : q 1 = 0
    · rw [if_pos z, if_pos (hq z)]
      exact t_spin0 T hq d (j + 1) f (by omega) (by omega)
    · rw [if_neg z]
      exact t_spin0 T hq d (j + 1) f (by omega) (by omega)
theorem HA.spin {o p w : Row} {i ph np m : Nat} (A : HA o p w i) (hph : ph < np) (hnp : np ≤ 4) (e15 : pt w i 15 = nI np) (e10 : pt w i 10 = nI ph) (e18 : pt w i (18 + ph) = 115) (e30 : pt w i (30 + ph) = nI m) (hm : m ≤ 99) : HA (so o i 10 0) p (sp w i 14 0) i := by
  obtain ⟨cc, aa, P, G⟩ := A
  have e : ∀ k, k ≠ 14 → pt (sp w i 14 0) i k = pt w i k := fun k hk => by rw [pt_sp, if_neg hk]
  have e14 : pt (sp w i 14 0) i 14 = 0 := by rw [pt_sp, if_pos rfl]
  have nz : pt w i (30 + ph) ≠ 0 := G.1 np ph e15 (by omega) hph (Or.inr e18)
  refine ⟨?_, ?_, P.congr' (fun k h1 _ => e k (by omega)), ⟨fun np k en h12 hk yy => ?_, fun yy ph' hph' ep yz => ?_⟩⟩
  · unfold HLc
    rw [e 0 (by omega), e 1 (by omega), e 2 (by omega), e 3 (by omega), e 4 (by omega), e 7 (by omega), e 8 (by omega)]
    simp only [ho_so, Nat.reduceEqDiff, if_false]
    exact cc
  · unfold HLw
    rw [e14, e 9 (by omega), e 10 (by omega), e 11 (by omega), e 12 (by omega), e 13 (by omega), e 15 (by omega), e 16 (by omega), e 17 (by omega)]
    simp only [ho_so, Nat.reduceEqDiff, if_false, if_true]
    exact ⟨aa.1, aa.2.1, aa.2.2.1, aa.2.2.2.1, aa.2.2.2.2.1, aa.2.2.2.2.2.1, fun z => ⟨(aa.2.2.2.2.2.2.1 z).1, trivial⟩, aa.2.2.2.2.2.2.2⟩
  · rw [e _ (by omega)] at en ⊢
    rw [e _ (by omega)] at yy
    exact G.1 np k en h12 hk yy
  · rw [e _ (by omega)] at ep
    have eph : ph' = ph := (nI_eq (by omega) (by omega)).mp (ep.symm.trans e10)
    subst eph
    refine ⟨0, m, e14, by rw [e _ (by omega)]; exact e30, ?_, hm⟩
    rw [e30] at nz
    exact Nat.pos_of_ne_zero (fun y => nz (by rw [y]; rfl))
theorem t_spin1 {L : Nat} {xs : Nat → Int32} {k756 : Nat → Nat → Nat → Nat → Nat → Nat → Int32 → Int32 → Nat → Hp → Rv Int32} {h : Hp} {q p l r : Row} {v7 v12 : Int32} {nl t g : Nat} (T : LT5 h) (hq : q 1 = 0) (hv : v12 ≠ 0) : ∀ (d j f : Nat) (o w : Row), j + d = 3 → d < f → WF w 3 nl t → (∀ k, k < 3 → HA o p w k) →
    ∃ o', s_X10_law_L696 L xs k756 f 1 241 242 243 244 245 v7 v12 (nI j) g (sV h q o p l r) = k756 1 241 242 243 244 245 v7 v12 g (sV h q o' p l r) ∧ ∀ k, k < 3 → HA o' p (itF spinF j d w) k
  | 0, j, f, o, w, hj, hf, W, A => by
    obtain ⟨f, rfl, -⟩ := fuel_succ hf
    refine ⟨o, ?_, A⟩
    rw [s_X10_law_L696, if_pos (by rw [show (3 : Int32) = nI 3 from rfl, nI_leE (by omega) (by omega)]; omega)]
  | d + 1, j, f, o, w, hj, hf, W, A => by
    obtain ⟨f, rfl, hf2⟩ := fuel_succ hf
    have hj3 : j < 3 := by omega
    have W1 : WF (spinF w j) 3 nl t := W.spin hj3
    have hA := A j hj3
    rw [s_X10_law_L696, if_neg (by rw [show (3 : Int32) = nI 3 from rfl, nI_leE (by omega) (by omega)]; omega), vq_1 T, if_pos hq, if_neg hv, vo_5 T _ _ _ _ _ hj3, hA.2.1.1, nI_1]
    show ∃ o', _ ∧ ∀ k, k < 3 → HA o' p (itF spinF (j + 1) d (spinF w j)) k
    have keep : spinF w j = w → ∃ o', s_X10_law_L696 L xs k756 f 1 241 242 243 244 245 v7 v12 (nI (j + 1)) g (sV h q o p l r) = k756 1 241 242 243 244 245 v7 v12 g (sV h q o' p l r) ∧ ∀ k, k < 3 → HA o' p (itF spinF (j + 1) d (spinF w j)) k := fun y => t_spin1 T hq hv d (j + 1) f o (spinF w j) (by omega) (by omega) W1 (by rw [y]; exact A)
    by_cases z : pt w j 9 = 1
    · obtain ⟨ph, np, m, k, a1, a2, a3, a4, a5, a6, a7, a8, a9, a10, a11⟩ := run_is (W.2.2.2.2.1 j hj3) hA.2.1 hA.2.2.1 z
      obtain ⟨r1, -⟩ := l_let T q o p l r hj3 a5 (by omega) a11 (by omega) a9
      rw [if_pos z, r1]
      simp only [bnd]
      by_cases z2 : nI k = 115
      · have es : spinF w j = sp w j 14 0 := by
          unfold spinF
          rw [if_pos ⟨z, by rw [a6, a7, z2]⟩]
        rw [if_pos z2, wo_10 T _ _ _ _ _ hj3]
        refine t_spin1 T hq hv d (j + 1) f (so o j 10 0) (spinF w j) (by omega) (by omega) W1 (fun i hi => ?_)
        by_cases y : i = j
        · rw [y, es]
          exact hA.spin a1 a2 a3 a4 (a7.trans z2) a8 a9
        · exact ((A i hi).other (fun c hc => ho_so_ne _ _ (Ne.symm y) (by omega) hc)).congr (fun k hk => spinF_off w j _ (by omega))
      · rw [if_neg z2]
        refine keep ?_
        unfold spinF
        rw [if_neg (fun y => z2 (by rw [← a7, ← a6]; exact y.2))]
    · rw [if_neg z]
      refine keep ?_
      unfold spinF
      rw [if_neg (fun y => z y.1)]
theorem PB.spin {w : Row} {i : Nat} (hi : i < 3) (B : PB w) : PB (spinF w i) := by
  refine B.house (i := i) (fun j hj => spinF_off w i j hj) (spinF_pt w i 1 (by omega)) (by rw [spinF_pt w i 15 (by omega)]; exact (B i hi).1.1) ?_
  unfold DV
  rw [spinF_pt w i 13 (by omega)]
  exact (B i hi).1.2
theorem PB.lo {w : Row} {j : Nat} (v : Int32) (hj : j < 15) (B : PB w) : PB (upd w j v) := fun i hi => by
  unfold DV
  rw [pt_upd _ _ _ _ _ hj, pt_upd _ _ _ _ _ hj, pt_upd _ _ _ _ _ hj]
  exact B i hi
theorem isF_sum {w w' : Row} {k : Nat} {x : Int32} : ∀ (d j : Nat) (c : Int32), (∀ i, j ≤ i → i < j + d → pt w' i k = pt w i k) → sumL (isF w' k x) d j c = sumL (isF w k x) d j c
  | 0, _, _, _ => rfl
  | d + 1, j, c, h => by
    show sumL (isF w' k x) d (j + 1) (c + isF w' k x j) = sumL (isF w k x) d (j + 1) (c + isF w k x j)
    have e : isF w' k x j = isF w k x j := by
      unfold isF
      rw [h j (by omega) (by omega)]
    rw [e]
    exact isF_sum d (j + 1) _ (fun i h1 h2 => h i (by omega) (by omega))
/-- the row behind power: all but the power itself and the spinning's minutes -/
theorem powR_is {w : Row} {nl t : Nat} {v : Int32} (W : WF w 3 nl t) (hv : v = 0 ∨ v = 1) :
    (∀ j, j < 15 → powR w 3 v j = upd w 1 v j) ∧ (∀ j, 351 ≤ j → powR w 3 v j = w j) ∧ (∀ i k, i < 3 → k < 42 → k ≠ 14 → pt (powR w 3 v) i k = pt w i k) ∧ (PB w → PB (powR w 3 v)) := by
  have key : ∀ P : Row → Prop, P (upd w 1 v) → (∀ w i, i < 3 → P w → P (spinF w i)) → P (powR w 3 v) := fun P p0 ps => by
    unfold powR
    split
    · rename_i y; rw [y] at p0; exact p0
    · exact itF_keepn (n := 3) ps 3 0 _ (by omega) p0
  refine ⟨fun j hj => ?_, fun j hj => ?_, fun i k hi hk k14 => ?_, fun B => ?_⟩
  · exact key (fun u => u j = upd w 1 v j) rfl (fun u i hi e => (spinF_off u i j (by omega)).trans e)
  · exact key (fun u => u j = w j) (upd_ne _ _ (by omega)) (fun u i hi e => (spinF_off u i j (by omega)).trans e)
  · refine key (fun u => pt u i k = pt w i k) (pt_upd _ _ _ _ _ (by omega)) (fun u i' hi' e => ?_)
    by_cases y : i = i'
    · rw [← y, spinF_pt u i k k14]; exact e
    · exact (spinF_off u i' _ (by omega)).trans e
  · exact key PB (B.lo v (by omega)) (fun u i hi b => b.spin hi)
theorem LQ.pow {q w w' : Row} {v : Int32} (hw : ∀ j, j < 15 → w' j = upd w 1 v j) (h : LQ q w) : LQ (upd q 1 v) w' := by
  unfold LQ at h ⊢
  rw [hw 0 (by omega), hw 1 (by omega), hw 3 (by omega), hw 4 (by omega), hw 5 (by omega), hw 6 (by omega), hw 7 (by omega), hw 8 (by omega), hw 9 (by omega), hw 10 (by omega), hw 11 (by omega), hw 13 (by omega), hw 14 (by omega)]
  unfold upd
  simp only [Nat.reduceEqDiff, if_false, if_true]
  exact ⟨h.1, trivial, h.2.2⟩
theorem t_power {L : Nat} {xs : Nat → Int32} {k290 : Nat → Nat → Nat → Nat → Nat → Nat → Int32 → Nat → Hp → Rv Int32} {H : Hp} {w : Row} {nl t g : Nat} {v7 v : Int32} (s : STT H w nl t) (ht : t ≤ 400) (hv : v = 0 ∨ v = 1) :
    ∃ H' w', s_X10_law_L623 L xs (fun y0 y1 y2 y3 y4 y5 y6 y7 y8 y9 h => inv h y0 8 (s_X8_power y0 y7 h) fun x42 h =>
      ldI h y1 20 1 fun x43 =>
      if x43 = 1 then s_X10_law_J676 L xs k290 y0 y1 y2 y3 y4 y5 y6 y7 y8 y9 x42 1 h
      else s_X10_law_J676 L xs k290 y0 y1 y2 y3 y4 y5 y6 y7 y8 y9 x42 0 h) 100000 1 241 242 243 244 245 v7 v 0 0 g H = k290 1 241 242 243 244 245 (v7 + 1) g H' ∧ STT H' w' nl t := by
  obtain ⟨h, q, o, p, l, r, rfl, C, W, R, B⟩ := id s.un
  have S := C.sh
  have T : LT5 h := S.lt5
  obtain ⟨hq, A, hl, hn⟩ := id R
  have q1 : q 1 = w 1 := hq.2.1
  have c0 := t_cnt (L := L) (xs := xs) (k658 := fun y0 y1 y2 y3 y4 y5 y6 y7 y8 y9 h => inv h y0 8 (s_X8_power y0 y7 h) fun x42 h =>
      ldI h y1 20 1 fun x43 =>
      if x43 = 1 then s_X10_law_J676 L xs k290 y0 y1 y2 y3 y4 y5 y6 y7 y8 y9 x42 1 h
      else s_X10_law_J676 L xs k290 y0 y1 y2 y3 y4 y5 y6 y7 y8 y9 x42 0 h) (q := q) (p := p) (l := l) (r := r) (v7 := v7) (v12 := v) (g := g) T (fun j hj => (A j hj).2.1.1) 3 0 100000 0 (by omega) (by omega)
  rw [show nI 0 = (0 : Int32) from rfl] at c0
  rw [c0]
  -- behind the calls: the spin, then the power
  have F : ∀ (h1 : Hp) (w' o' : Row), LT5 h1 → CST (sV h1 q o p l r) (w', 3, nl) → WF w' 3 nl t → (∀ j, j < 15 → w' j = upd w 1 v j) → (∀ j, 351 ≤ j → w' j = w j) → PB w' → (∀ k, k < 3 → HA o' p w' k) → ∀ x : Int32,
      s_X10_law_L696 L xs (fun y0 y1 y2 y3 y4 y5 y6 y7 y8 h => if y7 = 0 then s_X10_law_J768 L xs k290 y0 y1 y2 y3 y4 y5 y6 y8 y1 1 0 h
        else s_X10_law_J768 L xs k290 y0 y1 y2 y3 y4 y5 y6 y8 y1 1 1 h) 100000 1 241 242 243 244 245 v7 v 0 g (sV h1 q o p l r) = (if v = 0 then s_X10_law_J768 L xs k290 1 241 242 243 244 245 v7 g 241 1 0 (sV h1 q o' p l r) else s_X10_law_J768 L xs k290 1 241 242 243 244 245 v7 g 241 1 1 (sV h1 q o' p l r)) →
      ∃ H' w', s_X10_law_J688 L xs k290 1 241 242 243 244 245 v7 v g x x (sV h1 q o p l r) = k290 1 241 242 243 244 245 (v7 + 1) g H' ∧ STT H' w' nl t := fun h1 w' o' T1 C1 W1 lo hi B1 A1 x E => by
    have s' : STT (sV h1 (upd q 1 v) o' p l r) w' nl t := STT.mk C1.rows0 W1 ⟨hq.pow lo, A1, hl.hi hi, hn⟩ B1
    refine ⟨_, _, ?_, s'⟩
    unfold s_X10_law_J688
    rw [if_pos rfl]
    refine E.trans ?_
    rcases hv with y | y
    · rw [if_pos y, y]
      unfold s_X10_law_J768
      rw [wq_1 T1, ← y]
      exact t_same s' ht
    · have eu : upd q 1 1 = upd q 1 v := by rw [y]
      rw [if_neg (by rw [y]; decide)]
      unfold s_X10_law_J768
      rw [wq_1 T1, eu]
      exact t_same s' ht
  obtain ⟨p1, p2⟩ := q_power C W hv
  by_cases z : w 1 = v
  · have q1v : q 1 = v := q1.trans z
    have J : ∃ H' w', s_X10_law_J676 L xs k290 1 241 242 243 244 245 v7 v (sumL (isF w 9 1) 3 0 0) g (-5) v (sV h q o p l r) = k290 1 241 242 243 244 245 (v7 + 1) g H' ∧ STT H' w' nl t := by
      unfold s_X10_law_J676
      rw [if_pos rfl]
      exact F h w o T C W (fun j hj => by by_cases e : j = 1
                                          · rw [e, upd_eq, z]
                                          · rw [upd_ne _ _ e]) (fun _ _ => rfl) B A (-5) (t_spin0 T (fun y => q1v.symm.trans y) 3 0 100000 (by omega) (by omega))
    rw [S.i8, p1 z]
    simp only [bnd]
    rw [vq_1 T, q1v]
    rcases hv with y | y
    · rw [if_neg (by rw [y]; decide)]
      rw [y] at J ⊢
      exact J
    · rw [if_pos y]
      rw [y] at J ⊢
      exact J
  · obtain ⟨h1, a1, a2, a3, a4⟩ := p2 z
    have e1 := a3.sv
    rw [e1] at a1 a2
    have T1 : LT5 h1 := a2.sh.lt5
    obtain ⟨i1, i2, i3, i4⟩ := powR_is W hv
    have es : sumL (isF (powR w 3 v) 9 1) 3 0 0 = sumL (isF w 9 1) 3 0 0 := isF_sum 3 0 0 (fun i _ hi => i3 i 9 (by omega) (by omega) (by omega))
    rw [S.i8, a1]
    simp only [bnd]
    rw [vq_1 T1, q1]
    have fin : ∀ x : Int32, x ≠ v → ∃ H' w', s_X10_law_J676 L xs k290 1 241 242 243 244 245 v7 v (sumL (isF w 9 1) 3 0 0) g (sumL (isF (powR w 3 v) 9 1) 3 0 0) x (sV h1 q o p l r) = k290 1 241 242 243 244 245 (v7 + 1) g H' ∧ STT H' w' nl t := fun x xv => by
      unfold s_X10_law_J676
      rw [if_neg xv, es]
      rcases W.2.1 with y | y
      · have v1 : v = 1 := hv.elim (fun e => absurd (y.trans e.symm) z) id
        have A0 : ∀ k, k < 3 → HA o p (upd w 1 v) k := fun k hk => (A k hk).congr (fun c hc => pt_upd _ _ _ _ _ (by omega))
        obtain ⟨o', b1, b2⟩ := t_spin1 (L := L) (xs := xs) (k756 := fun y0 y1 y2 y3 y4 y5 y6 y7 y8 h => if y7 = 0 then s_X10_law_J768 L xs k290 y0 y1 y2 y3 y4 y5 y6 y8 y1 1 0 h
          else s_X10_law_J768 L xs k290 y0 y1 y2 y3 y4 y5 y6 y8 y1 1 1 h) (l := l) (r := r) (v7 := v7) (v12 := v) (g := g) T1 (q1.trans y) (by rw [v1]; decide) 3 0 100000 o (upd w 1 v) (by omega) (by omega) (W.pow hv) A0
        refine F h1 _ o' T1 a2 a4 i1 i2 (i4 B) ?_ _ b1
        show ∀ k, k < 3 → HA o' p (powR w 3 v) k
        unfold powR
        rw [if_neg (by rw [v1]; decide)]
        exact b2
      · have v0 : v = 0 := hv.elim id (fun e => absurd (y.trans e.symm) z)
        have ep : powR w 3 v = upd w 1 0 := by unfold powR; rw [if_pos v0]
        refine F h1 _ o T1 a2 a4 i1 i2 (i4 B) ?_ _ (t_spin0 T1 (fun _ => v0) 3 0 100000 (by omega) (by omega))
        show ∀ k, k < 3 → HA o p (powR w 3 v) k
        rw [ep]
        exact fun k hk => (A k hk).congr (fun c hc => pt_upd _ _ _ _ _ (by omega))
    by_cases y : w 1 = 1
    · rw [if_pos y]
      exact fin 1 (fun e => z (y.trans e))
    · rw [if_neg y]
      exact fin 0 (fun e => z ((W.2.1.elim id (fun u => absurd u y)).trans e))
