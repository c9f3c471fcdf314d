/-! the law's haggling, whole -/
theorem clip_prc {x : Nat} (h1 : 1 ≤ x) (h2 : x ≤ 50) (v : Int32) (hv : v = 1 ∨ v = -1) : nI x + clipV x v = prcF (nI x + v) ∧ ∃ y, prcF (nI x + v) = nI y ∧ 1 ≤ y ∧ y ≤ 50 := prc_add h1 h2 v hv
theorem hag_tail {h : Hp} (T : LT5 h) {q o p l g w : Row} {nl i ot pr : Nat} {n b m v10 : Int32} (R : LRel q o p l w nl) (q7 : q 7 = nI nl) (hi : i < 3) (ho3 : ot < 3) (hpr : pt w ot 1 = nI pr) (k : Int32 → Int32 → Hp → Rv Int32) :
    (bnd (s_X10_unlent (nI ot) 241 242 244 (sV h q o p l g)) fun x9 h => if x9 < n then s_X10_haggled_J114 v10 h else ldI h 242 20 ((16 * nI i) + 2) fun x10 => if b ≤ x10 then ldI h 242 20 ((16 * nI ot) + 1) fun x11 => ldI h 242 20 ((16 * nI ot) + 5) fun x12 => if x12 = 1 then s_X10_haggled_J157 241 242 244 (nI i) (nI ot) n b m v10 (n * x11) 2 h else s_X10_haggled_J157 241 242 244 (nI i) (nI ot) n b m v10 (n * x11) 1 h else s_X10_haggled_J114 v10 h) =
    if pt w ot 0 - lentF w nl (nI ot) < n ∨ ¬ b ≤ pt w i 2 then s_X10_haggled_J114 v10 (sV h q o p l g) else s_X10_haggled_J252 241 242 244 (nI i) (nI ot) n b m v10 (askF w ot n) (coV b (askF w ot n)) 242 (16 * nI ot + 1) (ho o ot 1) (clipV pr (byV b (askF w ot n))) (sV h q o p l g) := by
  obtain ⟨hq, hA, hl, hn⟩ := R
  obtain ⟨⟨c0, c1, c2, c3, cc4, cc5, c6⟩, ⟨a5, -⟩, -⟩ := hA ot ho3
  obtain ⟨⟨d0, d1, d2, -⟩, -⟩ := hA i hi
  rw [l_unlent T ho3 hn q7 hl c0]
  simp only [bnd]
  by_cases y1 : pt w ot 0 - lentF w nl (nI ot) < n
  · rw [if_pos y1, if_pos (Or.inl y1)]
  · rw [if_neg y1, vo_2 T _ _ _ _ _ hi, d2]
    by_cases y2 : b ≤ pt w i 2
    · rw [if_pos y2, if_neg (fun y => y.elim y1 (fun z => z y2)), vo_1 T _ _ _ _ _ ho3, vo_5 T _ _ _ _ _ ho3, a5]
      by_cases z : pt w ot 9 = 1
      · rw [if_pos z]
        exact haggled_ask T ho3 (c1.trans hpr) (by unfold askF; rw [if_pos z, Int32.mul_comm, c1])
      · rw [if_neg z]
        exact haggled_ask T ho3 (c1.trans hpr) (by unfold askF; rw [if_neg z, Int32.mul_one, c1])
    · rw [if_neg y2, if_pos (Or.inr y2)]
theorem byV_ref {b A : Int32} (h : b < A) : byV b A = if 2 * b < A then 1 else -1 := by
  unfold byV
  by_cases z : 2 * b < A
  · rw [if_pos (Or.inr z), if_pos z]
  · rw [if_neg (fun y => y.elim (fun k => absurd h (Int32.not_lt.mpr k)) z), if_neg z]
theorem l_haggled {H : Hp} {w : Row} {nl t : Nat} (s : STT H w nl t) (a1 : Int32) : ∃ H' w' nl', s_X10_haggled 1 a1 241 242 244 H = some (1, H') ∧ STT H' w' nl' t := by
  obtain ⟨h, q, o, p, l, g, rfl, C, W, R, B⟩ := s.un
  have S := C.sh
  have T : LT5 h := S.lt5
  have hn := R.2.2.2
  have q7 : q 7 = nI nl := R.1.2.2.2.2.2.2.2.1.trans W.1.2.2.2
  obtain ⟨i, hi, ei⟩ : ∃ i, i < 3 ∧ lowN a1 3 = i := ⟨_, lowN_lt a1 (by omega), rfl⟩
  obtain ⟨b, hb, eb⟩ : ∃ b, b < 2 ∧ lowN (shrI a1 2) 2 = b := ⟨_, lowN_lt _ (by omega), rfl⟩
  obtain ⟨x4, h4, e4⟩ : ∃ x, x < 5 ∧ lowN (shrI a1 3) 5 = x := ⟨_, lowN_lt _ (by omega), rfl⟩
  obtain ⟨x5, h5, e5⟩ : ∃ x, x < 100 ∧ lowN (shrI a1 6) 100 = x := ⟨_, lowN_lt _ (by omega), rfl⟩
  obtain ⟨x6, h6, e6⟩ : ∃ x, x < 12 ∧ lowN (shrI a1 13) 12 = x := ⟨_, lowN_lt _ (by omega), rfl⟩
  obtain ⟨ot, ho3, eo, hio⟩ : ∃ ot, ot < 3 ∧ (i + 1 + b) % 3 = ot ∧ i ≠ ot := ⟨(i + 1 + b) % 3, by omega, rfl, by omega⟩
  have n1 : ∀ x, (1 : Int32) + nI x = nI (1 + x) := fun x => nI_add 1 x
  unfold s_X10_haggled
  rw [l_low3, ei]
  simp only [bnd]
  rw [l_low2, eb]
  simp only [bnd]
  have r3 : ∀ {α : Type} (f : Int32 → Option α), remI (nI (i + 1 + b)) 3 f = f (nI ot) := fun f => by rw [show (3 : Int32) = nI 3 from rfl, remI_n (by omega) (by omega) (by omega), eo]
  rw [nI_1, nI_add, r3, l_low5, e4]
  simp only [bnd]
  rw [l_low100, e5]
  simp only [bnd]
  rw [l_low12, e6]
  simp only [bnd]
  rw [vq_7 T, q7, n1, n1, n1]
  have c4 : (nI nl = (4 : Int32)) = (nl = 4) := nI_eqE (b := 4) (by omega) (by omega)
  by_cases z4 : nl = 4
  · rw [if_pos (Eq.mpr c4 z4)]
    exact ⟨_, w, nl, rfl, STT.mk C W R B⟩
  rw [if_neg (fun y => z4 (Eq.mp c4 y)), S.i8]
  have rg : ∀ {a lo hi : Nat}, lo ≤ a → a ≤ hi → hi < 2 ^ 31 → nI lo ≤ nI a ∧ nI a ≤ nI hi := fun {a lo hi} h1 h2 h3 => ⟨(nI_leI (by omega) (by omega)).mpr h1, (nI_leI (by omega) (by omega)).mpr h2⟩
  have hag := q_haggle C W (show i < (w, 3, nl).2.1 from hi) (show ot < (w, 3, nl).2.1 from ho3) hio (x := 1 + x4) (by omega) (by omega) (a4 := nI (1 + x5)) (a5 := nI (1 + x6)) (rg (lo := 1) (hi := 9999) (by omega) (by omega) (by omega)) (rg (lo := 1) (hi := 240) (by omega) (by omega) (by omega)) (show nl < 10 by omega)
  obtain ⟨-, pr, hpr, pr1, pr2⟩ := B ot ho3
  have c1 := (R.2.1 ot ho3).1.2.1
  generalize hN1 : nI (1 + x4) = n at *
  generalize hN2 : nI (1 + x5) = bid at *
  generalize hN3 : nI (1 + x6) = mi at *
  obtain ⟨k1, k2, k3⟩ := hag
  have k1' : (pt w ot 0 - lentF w nl (nI ot) < n ∨ ¬ bid ≤ pt w i 2) → s_X8_haggle 1 (nI i) (nI ot) n bid mi (sV h q o p l g) = some (-4, sV h q o p l g) := k1
  by_cases y : pt w ot 0 - lentF w nl (nI ot) < n ∨ ¬ bid ≤ pt w i 2
  · have tail := hag_tail T (g := g) (n := n) (v10 := -4) (b := bid) (m := mi) R q7 hi ho3 hpr (fun _ _ _ => none)
    have j : s_X10_haggled_J114 (-4) (sV h q o p l g) = some (1, sV h q o p l g) := by
      unfold s_X10_haggled_J114
      rw [if_pos rfl]
      rfl
    rw [if_pos y, j] at tail
    rw [k1' y]
    exact ⟨_, w, nl, tail, STT.mk C W R B⟩
  · have y1 : ¬ (pt w ot 0 - lentF w nl (nI ot) < n) := fun z => y (Or.inl z)
    have y2 : bid ≤ pt w i 2 := Decidable.not_not.mp (fun z => y (Or.inr z))
    by_cases y4 : bid < askF w ot n
    · obtain ⟨h1, r1, r2, r3, r4⟩ := k2 y1 y2 y4
      have e1 := r3.sv
      have T1 : LT5 h1 := r2.sh.lt5
      rw [e1] at r1 r2
      obtain ⟨pe, px⟩ := clip_prc pr1 pr2 (byV bid (askF w ot n)) (byV_is _ _)
      have co0 : coV bid (askF w ot n) = 0 := if_pos y4
      have tail := hag_tail T1 (g := g) (n := n) (v10 := 0) (b := bid) (m := mi) R q7 hi ho3 hpr (fun _ _ _ => none)
      rw [if_neg y, l_refuse T1 ho3 (Int32.not_le.mpr y4), c1, hpr, pe] at tail
      rw [r1]
      have ev := byV_ref y4
      have r2' : CST (sV h1 q o p l g) (refF w i ot (byV bid (askF w ot n)), 3, nl) := by rw [ev]; exact r2
      have r4' : WF (refF w i ot (byV bid (askF w ot n))) 3 nl t := by rw [ev]; exact r4
      obtain ⟨f1, f2⟩ := refuse_rel R B hi ho3 hio hpr px
      exact ⟨_, _, nl, tail, STT.mk r2'.rows0 r4' f1 f2⟩
    · obtain ⟨h1, r1, r2, r3, r4⟩ := k3 y1 y2 y4
      have e1 := r3.sv
      have T1 : LT5 h1 := r2.sh.lt5
      rw [e1] at r1 r2
      have le : askF w ot n ≤ bid := Int32.not_lt.mp y4
      have co1 : coV bid (askF w ot n) = (bid + askF w ot n) / 2 := if_neg y4
      have by1 : byV bid (askF w ot n) = 1 := if_pos (Or.inl le)
      obtain ⟨pe, px⟩ := clip_prc pr1 pr2 1 (Or.inl rfl)
      have tail := hag_tail T1 (g := g) (n := n) (v10 := (bid + askF w ot n) / 2) (b := bid) (m := mi) R q7 hi ho3 hpr (fun _ _ _ => none)
      rw [if_neg y, co1, by1, l_deal T1 hi ho3 hio (show nl < 4 by omega) q7 le, c1, hpr, pe] at tail
      rw [r1]
      obtain ⟨f1, f2⟩ := deal_rel R B hi ho3 hio (show nl < 4 by omega) hpr (n := n) (m := mi) (co := (bid + askF w ot n) / 2) px
      exact ⟨_, _, nl + 1, tail, STT.mk r2.rows0 r4 f1 f2⟩
