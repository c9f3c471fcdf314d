/-! the law's works -/
/-- numbers of washes and spins are not 0; a running one isn't over -/
def NZ (w : Row) (i : Nat) : Prop := ∀ np k, pt w i 15 = nI np → np ≤ 12 → k < np → (pt w i (18 + k) = 119 ∨ pt w i (18 + k) = 115) → pt w i (30 + k) ≠ 0
def GR (w : Row) (i : Nat) : Prop := pt w i 9 = 1 → ∀ ph, ph < 12 → pt w i 10 = nI ph → (pt w i (18 + ph) = 119 ∨ pt w i (18 + ph) = 115) → ∃ g m, pt w i 14 = nI g ∧ pt w i (30 + ph) = nI m ∧ g < m ∧ m ≤ 99
def GH (w : Row) (i : Nat) : Prop := NZ w i ∧ GR w i
theorem GH.congr {w w' : Row} {i : Nat} (h9 : pt w' i 9 = pt w i 9) (h10 : pt w' i 10 = pt w i 10) (h14 : pt w' i 14 = pt w i 14) (h15 : pt w' i 15 = pt w i 15) (hk : ∀ k, 18 ≤ k → k < 42 → pt w' i k = pt w i k) (G : GH w i) : GH w' i := by
  refine ⟨fun np k e h12 hk' y => ?_, fun y ph hp e z => ?_⟩
  · rw [h15] at e
    rw [hk _ (by omega) (by omega)] at y
    rw [hk _ (by omega) (by omega)]
    exact G.1 np k e h12 hk' y
  · rw [h9] at y
    rw [h10] at e
    rw [hk _ (by omega) (by omega)] at z
    rw [h14, hk _ (by omega) (by omega)]
    exact G.2 y ph hp e z
theorem PRL.congr {p w w' : Row} {i : Nat} (h15 : pt w' i 15 = pt w i 15) (hk : ∀ k, 18 ≤ k → k < 42 → pt w' i k = pt w i k) (P : PRL p w i) : PRL p w' i := by
  obtain ⟨np, n4, e, a⟩ := P
  refine ⟨np, n4, by rw [h15]; exact e, fun k hk' => ?_⟩
  rw [hk _ (by omega) (by omega), hk _ (by omega) (by omega)]
  exact a k hk'
/-- the cells of the law's houses that a washer's minute leaves -/
def OF (o o' : Row) (i : Nat) : Prop := (∀ c, (c = 0 ∨ c = 1 ∨ c = 2 ∨ c = 3 ∨ c = 14 ∨ c = 15) → ho o' i c = ho o i c) ∧ ∀ j c, j ≠ i → c < 16 → ho o' j c = ho o j c
theorem OF.rfl' {o : Row} {i : Nat} : OF o o i := ⟨fun _ _ => rfl, fun _ _ _ _ => rfl⟩
theorem OF.so {o o' : Row} {i : Nat} (a : OF o o' i) (c : Nat) (v : Int32) (hc : 4 ≤ c ∧ c < 14) : OF o (so o' i c v) i := by
  refine ⟨fun d hd => ?_, fun j d hj hd => ?_⟩
  · rw [ho_so, if_neg (by omega)]
    exact a.1 d hd
  · rw [ho_so_ne _ _ (Ne.symm hj) (by omega) hd]
    exact a.2 j d hj hd
theorem OF.trans {o o' o'' : Row} {i : Nat} (a : OF o o' i) (b : OF o' o'' i) : OF o o'' i := ⟨fun c hc => (b.1 c hc).trans (a.1 c hc), fun j c hj hc => (b.2 j c hj hc).trans (a.2 j c hj hc)⟩
theorem endF_pt (w : Row) (i k : Nat) : pt (endF w i) i k = if pt w i 15 ≤ pt w i 10 + 1 then (if k = 4 then pt w i 4 + 1 else if k = 9 then 0 else pt w i k) else (if k = 16 then 0 else if k = 14 then 0 else if k = 10 then pt w i 10 + 1 else pt w i k) := by
  unfold endF
  by_cases q : pt w i 15 ≤ pt w i 10 + 1
  · rw [if_pos q, if_pos q, pt_upd _ _ _ _ _ (by omega), pt_sp, pt_sp]
  · rw [if_neg q, if_neg q, pt_sp, pt_sp, pt_sp]
theorem l_fin {h : Hp} (T : LT5 h) (q p l g : Row) {o2 w2 R : Row} {i ph np : Nat} (hi : i < 3) (A : HLw o2 w2 i) (h4 : ho o2 i 4 = pt w2 i 4) (h9 : pt w2 i 9 = 1) (h10 : pt w2 i 10 = nI ph) (h15 : pt w2 i 15 = nI np) (hp : ph < np) (h12 : np ≤ 12) {v7 : Int32} (hv : (v7 = 0 ∧ R = w2) ∨ (v7 = 1 ∧ R = endF w2 i)) :
    ∃ o', s_X10_works_J345 242 (16 * nI i) v7 (sV h q o2 p l g) = some ((), sV h q o' p l g) ∧ HLw o' R i ∧ ho o' i 4 = pt R i 4 ∧ OF o2 o' i := by
  unfold s_X10_works_J345
  rcases hv with ⟨rfl, rfl⟩ | ⟨rfl, rfl⟩
  · exact ⟨o2, by rw [if_pos rfl]; rfl, A, h4, OF.rfl'⟩
  · rw [if_neg (by decide)]
    obtain ⟨a5, a7, a8, a9, a11, a13, a6, a12⟩ := A
    have b := a6 (by rw [h9]; decide)
    simp only [wo_10 T _ _ _ _ _ hi, wo_12 T _ _ _ _ _ hi, vo_6 T _ _ _ _ _ hi, wo_6 T _ _ _ _ _ hi, vo_11 T _ _ _ _ _ hi, ho_so, Nat.reduceEqDiff, if_false, if_true, b.1, h10, a11, h15, nI_1, nI_eqE (show ph + 1 < 2 ^ 31 by omega) (show np < 2 ^ 31 by omega)]
    have hcmp : (pt w2 i 15 ≤ pt w2 i 10 + 1) = (np ≤ ph + 1) := by rw [h15, h10, nI_1, nI_leE (by omega) (by omega)]
    by_cases z : ph + 1 = np
    · rw [if_pos z]
      simp only [wo_5 T _ _ _ _ _ hi, vo_4 T _ _ _ _ _ hi, wo_4 T _ _ _ _ _ hi, ho_so, Nat.reduceEqDiff, if_false, h4]
      refine ⟨_, rfl, ?_, ?_, ((((OF.rfl'.so 10 _ (by omega)).so 12 _ (by omega)).so 6 _ (by omega)).so 5 _ (by omega)).so 4 _ (by omega)⟩
      · unfold HLw
        simp only [endF_pt, hcmp, if_pos (show np ≤ ph + 1 by omega), ho_so, Nat.reduceEqDiff, if_false, if_true]
        exact ⟨trivial, a7, a8, a9, a11, a13, fun y => absurd rfl y, fun y => absurd y (by decide)⟩
      · simp only [endF_pt, hcmp, if_pos (show np ≤ ph + 1 by omega), ho_so, if_true]
    · rw [if_neg z]
      refine ⟨_, rfl, ?_, ?_, ((OF.rfl'.so 10 _ (by omega)).so 12 _ (by omega)).so 6 _ (by omega)⟩
      · unfold HLw
        simp only [endF_pt, hcmp, if_neg (show ¬ np ≤ ph + 1 by omega), ho_so, Nat.reduceEqDiff, if_false, if_true]
        exact ⟨a5, a7, a8, a9, a11, a13, fun _ => ⟨by rw [h10, nI_1], trivial⟩, fun _ => trivial⟩
      · simp only [endF_pt, hcmp, if_neg (show ¬ np ≤ ph + 1 by omega), ho_so, Nat.reduceEqDiff, if_false, h4]
theorem works_nar {k j : Nat} (hk : k = 100 ∨ k = 102 ∨ k = 104 ∨ k = 115 ∨ k = 119) (hj : j < 2 ^ 31) : (nI k = nI j) = (k = j) := nI_eqE (by omega) hj
theorem incF_pt (w : Row) (i k : Nat) : pt (incF w i) i k = if k = 14 then pt w i 14 + 1 else pt w i k := by
  unfold incF
  rw [pt_sp]
/-- fill -/
theorem l_fill {h : Hp} (T : LT5 h) (q p l g : Row) {o w : Row} {i ph np m : Nat} {gg : Int32} (hi : i < 3) (A : HLw o w i) (h4 : ho o i 4 = pt w i 4) (h9 : pt w i 9 = 1) (h10 : pt w i 10 = nI ph) (h15 : pt w i 15 = nI np) (hp : ph < np) (h12 : np ≤ 12) :
    ∃ o', s_X10_works_J67 (nI i) gg 242 (16 * nI i) 102 (nI m) 0 (sV h q o p l g) = some ((), sV h q o' p l g) ∧ HLw o' (goF w i 102 (nI m) gg) i ∧ ho o' i 4 = pt (goF w i 102 (nI m) gg) i 4 ∧ OF o o' i := by
  obtain ⟨a5, a7, a8, a9, a11, a13, a6, a12⟩ := id A
  have b := a6 (by rw [h9]; decide)
  have b12 := a12 h9
  obtain ⟨L, hL⟩ : ∃ L, L = (if 6 ≤ nI m - pt w i 16 then 6 else nI m - pt w i 16) := ⟨_, rfl⟩
  have ew : chgF w i 102 (nI m) gg = sp (sp (sp (sp w i 16 (pt w i 16 + L)) i 17 (pt w i 17 + L)) i 11 (pt w i 11 + L)) i 12 (pt w i 12 + 60 * L) := by
    unfold chgF fillsF
    rw [if_pos rfl, hL]
  have A2 : HLw (so (so (so (so (so o i 10 (pt w i 14 + 1)) i 12 (pt w i 16 + L)) i 13 (pt w i 17 + L)) i 7 (pt w i 11 + L)) i 8 (pt w i 12 + 60 * L)) (incF (chgF w i 102 (nI m) gg) i) i := by
    rw [ew]
    unfold HLw
    simp only [incF_pt, pt_sp, ho_so, Nat.reduceEqDiff, if_false, if_true]
    exact ⟨a5, trivial, trivial, a9, a11, trivial, fun y => ⟨(a6 y).1, trivial⟩, fun _ => trivial⟩
  have e4 : pt (incF (chgF w i 102 (nI m) gg) i) i 4 = pt w i 4 ∧ pt (incF (chgF w i 102 (nI m) gg) i) i 9 = pt w i 9 ∧ pt (incF (chgF w i 102 (nI m) gg) i) i 10 = pt w i 10 ∧ pt (incF (chgF w i 102 (nI m) gg) i) i 15 = pt w i 15 ∧ pt (incF (chgF w i 102 (nI m) gg) i) i 16 = pt w i 16 + L := by
    rw [ew]
    simp only [incF_pt, pt_sp, Nat.reduceEqDiff, if_false, if_true, and_self]
  have key : ∀ x : Int32, x = L → s_X10_works_J115 (nI i) gg 242 (16 * nI i) 102 (nI m) x (sV h q (so o i 10 (pt w i 14 + 1)) p l g) = s_X10_works_J345 242 (16 * nI i) (if pt w i 16 + L = nI m then 1 else 0) (sV h q (so (so (so (so (so o i 10 (pt w i 14 + 1)) i 12 (pt w i 16 + L)) i 13 (pt w i 17 + L)) i 7 (pt w i 11 + L)) i 8 (pt w i 12 + 60 * L)) p l g) := fun x hx => by
    subst hx
    unfold s_X10_works_J115
    simp only [vo_12 T _ _ _ _ _ hi, wo_12 T _ _ _ _ _ hi, vo_13 T _ _ _ _ _ hi, wo_13 T _ _ _ _ _ hi, vo_7 T _ _ _ _ _ hi, wo_7 T _ _ _ _ _ hi, vo_8 T _ _ _ _ _ hi, wo_8 T _ _ _ _ _ hi, ho_so, Nat.reduceEqDiff, if_false, if_true, b12, a13, a7, a8]
    by_cases z : pt w i 16 + x = nI m
    · rw [if_pos z, if_pos z]
      unfold s_X10_works_J185 s_X10_works_J187
      rw [if_neg (by decide)]
      unfold s_X10_works_J222
      rw [if_neg (by decide)]
      unfold s_X10_works_J312
      rw [if_neg (by decide), if_neg (by decide)]
    · rw [if_neg z, if_neg z]
      unfold s_X10_works_J185 s_X10_works_J187
      rw [if_neg (by decide)]
      unfold s_X10_works_J222
      rw [if_neg (by decide)]
      unfold s_X10_works_J312
      rw [if_neg (by decide), if_neg (by decide)]
  have ov : overF (incF (chgF w i 102 (nI m) gg) i) i 102 (nI m) = if pt w i 16 + L = nI m then 1 else 0 := by
    unfold overF
    rw [if_neg (by decide), if_pos rfl, e4.2.2.2.2]
  obtain ⟨o', c1, c2, c3, c4⟩ := l_fin T q p l g (R := goF w i 102 (nI m) gg) hi A2 (by rw [e4.1, ho_so, if_neg (by omega), ho_so, if_neg (by omega), ho_so, if_neg (by omega), ho_so, if_neg (by omega), ho_so, if_neg (by omega)]; exact h4) (e4.2.1.trans h9) (e4.2.2.1.trans h10) (e4.2.2.2.1.trans h15) hp h12 (v7 := if pt w i 16 + L = nI m then 1 else 0) (by
    unfold goF
    rw [ov]
    by_cases z : pt w i 16 + L = nI m
    · rw [if_pos z, if_neg (by decide)]
      exact Or.inr ⟨rfl, rfl⟩
    · rw [if_neg z, if_pos rfl]
      exact Or.inl ⟨rfl, rfl⟩)
  refine ⟨o', ?_, c2, c3, (((((OF.rfl'.so 10 _ (by omega)).so 12 _ (by omega)).so 13 _ (by omega)).so 7 _ (by omega)).so 8 _ (by omega)).trans c4⟩
  unfold s_X10_works_J67
  simp only [vo_10 T _ _ _ _ _ hi, wo_10 T _ _ _ _ _ hi, b.2, if_true, vo_12 T _ _ _ _ _ hi, ho_so, Nat.reduceEqDiff, if_false, b12]
  by_cases z : 6 ≤ nI m - pt w i 16
  · rw [if_pos z, key 6 (by rw [hL, if_pos z])]
    exact c1
  · rw [if_neg z, key _ (by rw [hL, if_neg z])]
    exact c1
/-- heat -/
theorem l_heat {h : Hp} (T : LT5 h) (q p l g : Row) {o w : Row} {i ph np m wt wm gn : Nat} (hi : i < 3) (A : HLw o w i) (h4 : ho o i 4 = pt w i 4) (h9 : pt w i 9 = 1) (h10 : pt w i 10 = nI ph) (h15 : pt w i 15 = nI np) (hp : ph < np) (h12 : np ≤ 12) (hw : pt w i 11 = nI wt) (hm : pt w i 12 = nI wm) (b1 : wt < 2 ^ 20) (b2 : wm + gn < 2 ^ 28) :
    ∃ o', s_X10_works_J67 (nI i) (nI gn) 242 (16 * nI i) 104 (nI m) 0 (sV h q o p l g) = some ((), sV h q o' p l g) ∧ HLw o' (goF w i 104 (nI m) (nI gn)) i ∧ ho o' i 4 = pt (goF w i 104 (nI m) (nI gn)) i 4 ∧ OF o o' i := by
  obtain ⟨a5, a7, a8, a9, a11, a13, a6, a12⟩ := id A
  have b := a6 (by rw [h9]; decide)
  have ew : chgF w i 104 (nI m) (nI gn) = sp w i 12 (nI (wm + gn)) := by
    unfold chgF
    rw [if_neg (by decide), if_neg (by decide), if_pos rfl, hm, nI_add]
  have A2 : HLw (so (so o i 10 (pt w i 14 + 1)) i 8 (nI (wm + gn))) (incF (chgF w i 104 (nI m) (nI gn)) i) i := by
    rw [ew]
    unfold HLw
    simp only [incF_pt, pt_sp, ho_so, Nat.reduceEqDiff, if_false, if_true]
    exact ⟨a5, a7, trivial, a9, a11, a13, fun y => ⟨(a6 y).1, trivial⟩, a12⟩
  have e4 : pt (incF (chgF w i 104 (nI m) (nI gn)) i) i 4 = pt w i 4 ∧ pt (incF (chgF w i 104 (nI m) (nI gn)) i) i 9 = pt w i 9 ∧ pt (incF (chgF w i 104 (nI m) (nI gn)) i) i 10 = pt w i 10 ∧ pt (incF (chgF w i 104 (nI m) (nI gn)) i) i 15 = pt w i 15 ∧ pt (incF (chgF w i 104 (nI m) (nI gn)) i) i 11 = pt w i 11 ∧ pt (incF (chgF w i 104 (nI m) (nI gn)) i) i 12 = nI (wm + gn) := by
    rw [ew]
    simp only [incF_pt, pt_sp, Nat.reduceEqDiff, if_false, if_true, and_self]
  have e1 : wtN (incF (chgF w i 104 (nI m) (nI gn)) i) i = wt := by unfold wtN; rw [e4.2.2.2.2.1, hw, nI_clamp (by omega)]
  have e2 : wmN (incF (chgF w i 104 (nI m) (nI gn)) i) i = wm + gn := by unfold wmN; rw [e4.2.2.2.2.2, nI_clamp (by omega)]
  have ov : overF (incF (chgF w i 104 (nI m) (nI gn)) i) i 104 (nI m) = if nI (tmpN wt (wm + gn)) < nI m then 0 else 1 := by
    unfold overF
    rw [if_neg (by decide), if_neg (by decide), if_pos rfl, e1, e2]
  obtain ⟨o', c1, c2, c3, c4⟩ := l_fin T q p l g (R := goF w i 104 (nI m) (nI gn)) hi A2 (by rw [e4.1, ho_so, if_neg (by omega), ho_so, if_neg (by omega)]; exact h4) (e4.2.1.trans h9) (e4.2.2.1.trans h10) (e4.2.2.2.1.trans h15) hp h12 (v7 := if nI (tmpN wt (wm + gn)) < nI m then 0 else 1) (by
    unfold goF
    rw [ov]
    by_cases z : nI (tmpN wt (wm + gn)) < nI m
    · rw [if_pos z, if_pos rfl]
      exact Or.inl ⟨rfl, rfl⟩
    · rw [if_neg z, if_neg (by decide)]
      exact Or.inr ⟨rfl, rfl⟩)
  refine ⟨o', ?_, c2, c3, ((OF.rfl'.so 10 _ (by omega)).so 8 _ (by omega)).trans c4⟩
  have tm := l_tmp T q (so (so o i 10 (pt w i 14 + 1)) i 8 (nI (wm + gn))) p l g (wt := wt) (wm := wm + gn) hi (by rw [ho_so, if_neg (by omega), ho_so, if_neg (by omega), a7, hw]) (by rw [ho_so, if_pos rfl]) b1 b2
  unfold s_X10_works_J67
  simp only [vo_10 T _ _ _ _ _ hi, wo_10 T _ _ _ _ _ hi, b.2]
  rw [if_neg (by decide)]
  unfold s_X10_works_J187
  simp only [if_true, vo_8 T _ _ _ _ _ hi, wo_8 T _ _ _ _ _ hi, ho_so, Nat.reduceEqDiff, if_false, a8, hm, nI_add, tm, bnd]
  by_cases z : nI (tmpN wt (wm + gn)) < nI m
  · rw [if_pos z] at c1 ⊢
    unfold s_X10_works_J220 s_X10_works_J222
    rw [if_neg (by decide)]
    unfold s_X10_works_J312
    rw [if_neg (by decide), if_neg (by decide)]
    exact c1
  · rw [if_neg z] at c1 ⊢
    unfold s_X10_works_J220 s_X10_works_J222
    rw [if_neg (by decide)]
    unfold s_X10_works_J312
    rw [if_neg (by decide), if_neg (by decide)]
    exact c1
/-- drain -/
theorem l_drain {h : Hp} (T : LT5 h) (q p l g : Row) {o w : Row} {i ph np m wt wm : Nat} {gg : Int32} (hi : i < 3) (A : HLw o w i) (h4 : ho o i 4 = pt w i 4) (h9 : pt w i 9 = 1) (h10 : pt w i 10 = nI ph) (h15 : pt w i 15 = nI np) (hp : ph < np) (h12 : np ≤ 12) (hw : pt w i 11 = nI wt) (hm : pt w i 12 = nI wm) (b1 : wt < 2 ^ 12) (b2 : wm < 2 ^ 18) (hz : wt = 0 → wm = 0) :
    ∃ o', s_X10_works_J67 (nI i) gg 242 (16 * nI i) 100 (nI m) 0 (sV h q o p l g) = some ((), sV h q o' p l g) ∧ HLw o' (goF w i 100 (nI m) gg) i ∧ ho o' i 4 = pt (goF w i 100 (nI m) gg) i 4 ∧ OF o o' i := by
  obtain ⟨a5, a7, a8, a9, a11, a13, a6, a12⟩ := id A
  have b := a6 (by rw [h9]; decide)
  have ew : chgF w i 100 (nI m) gg = sp (sp w i 11 (nI (wt - 12))) i 12 (nI (wm * (wt - 12) / wt)) := by
    unfold chgF drainsF wtN wmN
    rw [if_neg (by decide), if_pos rfl, hw, hm, nI_clamp (by omega), nI_clamp (by omega)]
  have A2 : HLw (so (so (so o i 10 (pt w i 14 + 1)) i 7 (nI (wt - 12))) i 8 (nI (wm * (wt - 12) / wt))) (incF (chgF w i 100 (nI m) gg) i) i := by
    rw [ew]
    unfold HLw
    simp only [incF_pt, pt_sp, ho_so, Nat.reduceEqDiff, if_false, if_true]
    exact ⟨a5, trivial, trivial, a9, a11, a13, fun y => ⟨(a6 y).1, trivial⟩, a12⟩
  have e4 : pt (incF (chgF w i 100 (nI m) gg) i) i 4 = pt w i 4 ∧ pt (incF (chgF w i 100 (nI m) gg) i) i 9 = pt w i 9 ∧ pt (incF (chgF w i 100 (nI m) gg) i) i 10 = pt w i 10 ∧ pt (incF (chgF w i 100 (nI m) gg) i) i 15 = pt w i 15 ∧ pt (incF (chgF w i 100 (nI m) gg) i) i 11 = nI (wt - 12) := by
    rw [ew]
    simp only [incF_pt, pt_sp, Nat.reduceEqDiff, if_false, if_true, and_self]
  have ov : overF (incF (chgF w i 100 (nI m) gg) i) i 100 (nI m) = if nI (wt - 12) = 0 then 1 else 0 := by
    unfold overF
    rw [if_pos rfl, e4.2.2.2.2]
  obtain ⟨o', c1, c2, c3, c4⟩ := l_fin T q p l g (R := goF w i 100 (nI m) gg) hi A2 (by rw [e4.1, ho_so, if_neg (by omega), ho_so, if_neg (by omega), ho_so, if_neg (by omega)]; exact h4) (e4.2.1.trans h9) (e4.2.2.1.trans h10) (e4.2.2.2.1.trans h15) hp h12 (v7 := if nI (wt - 12) = 0 then 1 else 0) (by
    unfold goF
    rw [ov]
    by_cases z : nI (wt - 12) = 0
    · rw [if_pos z, if_neg (by decide)]
      exact Or.inr ⟨rfl, rfl⟩
    · rw [if_neg z, if_pos rfl]
      exact Or.inl ⟨rfl, rfl⟩)
  refine ⟨o', ?_, c2, c3, (((OF.rfl'.so 10 _ (by omega)).so 7 _ (by omega)).so 8 _ (by omega)).trans c4⟩
  have hmul : wm * (wt - 12) < 2 ^ 31 := Nat.lt_of_le_of_lt (Nat.mul_le_mul (show wm ≤ 2 ^ 18 by omega) (show wt - 12 ≤ 2 ^ 12 by omega)) (by decide)
  have J : ∀ x y : Int32, x = nI (wt - 12) → y = nI (wm * (wt - 12) / wt) → s_X10_works_J294 242 (16 * nI i) 100 (nI m) 242 (16 * nI i + 8) y (sV h q (so (so o i 10 (pt w i 14 + 1)) i 7 x) p l g) = some ((), sV h q o' p l g) := fun x y hx hy => by
    subst hx
    subst hy
    unfold s_X10_works_J294
    simp only [wo_8 T _ _ _ _ _ hi, vo_7 T _ _ _ _ _ hi, ho_so, Nat.reduceEqDiff, if_false, if_true]
    by_cases z : nI (wt - 12) = 0
    · rw [if_pos z] at c1 ⊢
      unfold s_X10_works_J310 s_X10_works_J312
      rw [if_neg (by decide), if_neg (by decide)]
      exact c1
    · rw [if_neg z] at c1 ⊢
      unfold s_X10_works_J310 s_X10_works_J312
      rw [if_neg (by decide), if_neg (by decide)]
      exact c1
  have K : ∀ x : Int32, x = nI (wt - 12) → s_X10_works_J260 242 (16 * nI i) 100 (nI m) (nI wt) 242 (16 * nI i + 7) x (sV h q (so o i 10 (pt w i 14 + 1)) p l g) = some ((), sV h q o' p l g) := fun x hx => by
    unfold s_X10_works_J260
    simp only [wo_7 T _ _ _ _ _ hi]
    by_cases z : wt = 0
    · rw [if_pos (by rw [z]; rfl)]
      exact J x 0 hx (by rw [z, hz z]; rfl)
    · rw [if_neg (fun y => z ((nI_0' wt (by omega)).mp y))]
      simp only [vo_8 T _ _ _ _ _ hi, vo_7 T _ _ _ _ _ hi, ho_so, Nat.reduceEqDiff, if_false, if_true, a8, hm]
      unfold divI
      rw [if_neg (fun y => z ((nI_0' wt (by omega)).mp y)), hx, nI_mul, nI_div hmul (by omega) z]
      exact J _ _ rfl rfl
  unfold s_X10_works_J67
  simp only [vo_10 T _ _ _ _ _ hi, wo_10 T _ _ _ _ _ hi, b.2]
  rw [if_neg (by decide)]
  unfold s_X10_works_J187
  rw [if_neg (by decide)]
  unfold s_X10_works_J222
  simp only [if_true, vo_7 T _ _ _ _ _ hi, ho_so, Nat.reduceEqDiff, if_false, a7, hw]
  by_cases z : wt ≤ 12
  · rw [if_pos (by rw [show (12 : Int32) = nI 12 from rfl, nI_leE (by omega) (by omega)]; exact z)]
    exact K 0 (by rw [show wt - 12 = 0 by omega]; rfl)
  · rw [if_neg (by rw [show (12 : Int32) = nI 12 from rfl, nI_leE (by omega) (by omega)]; exact z)]
    exact K _ (by rw [show (12 : Int32) = nI 12 from rfl, nI_sub (by omega)])
/-- wash and spin -/
theorem l_wash {h : Hp} (T : LT5 h) (q p l g : Row) {o w : Row} {i ph np m gn : Nat} {gg : Int32} {K : Int32} (hK : K = 119 ∨ K = 115) (hi : i < 3) (A : HLw o w i) (h4 : ho o i 4 = pt w i 4) (h9 : pt w i 9 = 1) (h10 : pt w i 10 = nI ph) (h15 : pt w i 15 = nI np) (hp : ph < np) (h12 : np ≤ 12) (hg : pt w i 14 = nI gn) (hlt : gn < m) (m99 : m ≤ 99) :
    ∃ o', s_X10_works_J67 (nI i) gg 242 (16 * nI i) K (nI m) 0 (sV h q o p l g) = some ((), sV h q o' p l g) ∧ HLw o' (goF w i K (nI m) gg) i ∧ ho o' i 4 = pt (goF w i K (nI m) gg) i 4 ∧ OF o o' i := by
  obtain ⟨a5, a7, a8, a9, a11, a13, a6, a12⟩ := id A
  have b := a6 (by rw [h9]; decide)
  have k0 : K ≠ 100 ∧ K ≠ 102 ∧ K ≠ 104 := by
    rcases hK with y | y <;> (rw [y]; decide)
  have ew : chgF w i K (nI m) gg = w := by
    unfold chgF
    rw [if_neg k0.2.1, if_neg k0.1, if_neg k0.2.2]
  have A2 : HLw (so o i 10 (nI (gn + 1))) (incF (chgF w i K (nI m) gg) i) i := by
    rw [ew]
    unfold HLw
    simp only [incF_pt, pt_sp, ho_so, Nat.reduceEqDiff, if_false, if_true, hg, nI_1]
    exact ⟨a5, a7, a8, a9, a11, a13, fun y => ⟨(a6 y).1, trivial⟩, a12⟩
  have e4 : pt (incF (chgF w i K (nI m) gg) i) i 4 = pt w i 4 ∧ pt (incF (chgF w i K (nI m) gg) i) i 9 = pt w i 9 ∧ pt (incF (chgF w i K (nI m) gg) i) i 10 = pt w i 10 ∧ pt (incF (chgF w i K (nI m) gg) i) i 15 = pt w i 15 ∧ pt (incF (chgF w i K (nI m) gg) i) i 14 = nI (gn + 1) := by
    rw [ew]
    simp only [incF_pt, pt_sp, Nat.reduceEqDiff, if_false, if_true, hg, nI_1, and_self]
  have ov : overF (incF (chgF w i K (nI m) gg) i) i K (nI m) = if nI (gn + 1) = nI m then 1 else 0 := by
    unfold overF
    rw [if_neg k0.1, if_neg k0.2.1, if_neg k0.2.2, e4.2.2.2.2]
    by_cases z : gn + 1 = m
    · rw [if_neg (by rw [nI_ltE (by omega) (by omega)]; omega), if_pos (by rw [z])]
    · rw [if_pos (by rw [nI_ltE (by omega) (by omega)]; omega), if_neg (fun y => z ((nI_eq (by omega) (by omega)).mp y))]
  obtain ⟨o', c1, c2, c3, c4⟩ := l_fin T q p l g (R := goF w i K (nI m) gg) hi A2 (by rw [e4.1, ho_so, if_neg (by omega)]; exact h4) (e4.2.1.trans h9) (e4.2.2.1.trans h10) (e4.2.2.2.1.trans h15) hp h12 (v7 := if nI (gn + 1) = nI m then 1 else 0) (by
    unfold goF
    rw [ov]
    by_cases z : nI (gn + 1) = nI m
    · rw [if_pos z, if_neg (by decide)]
      exact Or.inr ⟨rfl, rfl⟩
    · rw [if_neg z, if_pos rfl]
      exact Or.inl ⟨rfl, rfl⟩)
  refine ⟨o', ?_, c2, c3, (OF.rfl'.so 10 _ (by omega)).trans c4⟩
  have J : s_X10_works_J326 242 (16 * nI i) (nI m) (sV h q (so o i 10 (nI (gn + 1))) p l g) = some ((), sV h q o' p l g) := by
    unfold s_X10_works_J326
    simp only [vo_10 T _ _ _ _ _ hi, ho_so, if_true]
    by_cases z : nI (gn + 1) = nI m
    · rw [if_pos z] at c1 ⊢
      exact c1
    · rw [if_neg z] at c1 ⊢
      exact c1
  unfold s_X10_works_J67
  simp only [vo_10 T _ _ _ _ _ hi, wo_10 T _ _ _ _ _ hi, b.2, hg, nI_1]
  rw [if_neg k0.2.1]
  unfold s_X10_works_J187
  rw [if_neg k0.2.2]
  unfold s_X10_works_J222
  rw [if_neg k0.1]
  unfold s_X10_works_J312
  rcases hK with y | y
  · rw [if_pos y]
    exact J
  · rw [if_neg (by rw [y]; decide), if_pos y]
    exact J
