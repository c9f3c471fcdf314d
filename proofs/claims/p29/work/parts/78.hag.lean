/-! haggle: what stays -/
theorem WH.cong9 {w w' : Row} {i t : Nat} (h0 : pt w' i 0 = pt w i 0) (hp : ∀ k, 9 ≤ k → k < 42 → pt w' i k = pt w i k) (q : WH w i t) : WH w' i t := by
  obtain ⟨q1, q2, ⟨wt, wm, w1, w2, w3, w4, w5⟩, np, n3, n4, n5, n6⟩ := q
  refine ⟨by rw [h0]; exact q1, by rw [hp 9 (by omega) (by omega)]; exact q2, ⟨wt, wm, by rw [hp 11 (by omega) (by omega)]; exact w1, by rw [hp 12 (by omega) (by omega)]; exact w2, w3, w4, w5⟩, np, by rw [hp 15 (by omega) (by omega)]; exact n3, n4, fun k hk => by rw [hp (18 + k) (by omega) (by omega), hp (30 + k) (by omega) (by omega)]; exact n5 k hk, fun z => ?_⟩
  rw [hp 9 (by omega) (by omega)] at z
  obtain ⟨ph, p1, p2, p3⟩ := n6 z
  refine ⟨ph, p1, by rw [hp 10 (by omega) (by omega)]; exact p2, fun y => ?_⟩
  rw [hp (18 + ph) (by omega) (by omega)] at y
  obtain ⟨g, m, r1, r2, r3, r4⟩ := p3 y
  exact ⟨g, m, by rw [hp 14 (by omega) (by omega)]; exact r1, by rw [hp 16 (by omega) (by omega)]; exact r2, by rw [hp (30 + ph) (by omega) (by omega)]; exact r3, r4⟩
theorem WF.hag {w w' : Row} {n nl nl' t : Nat} (hs : ∀ j, j < 15 → j ≠ 8 → j ≠ 9 → j ≠ 10 → w' j = w j) (h8 : w' 8 = nI nl') (hl : nl' ≤ 10) (hp : ∀ j, j < n → ∀ k, (k = 0 ∨ k = 4 ∨ (9 ≤ k ∧ k < 42)) → pt w' j k = pt w j k) (h9 : w' 9 = sumP w' 5 n) (h10 : w' 10 = sumP w' 6 n) (L' : WL w' n nl') (N' : WN w' n nl') (F : WF w n nl t) : WF w' n nl' t := by
  obtain ⟨⟨n8, -, e2, e8⟩, hp1, B, L, H, s4, s5, s6, N⟩ := F
  refine ⟨⟨n8, hl, by rw [hs 2 (by omega) (by omega) (by omega) (by omega)]; exact e2, h8⟩, by rw [hs 1 (by omega) (by omega) (by omega) (by omega)]; exact hp1, ?_, L', fun i hi => (H i hi).cong9 (hp i hi 0 (by omega)) (fun k k1 k2 => hp i hi k (by omega)), ?_, h9, h10, N'⟩
  · unfold WB
    rw [hs 3 (by omega) (by omega) (by omega) (by omega), hs 4 (by omega) (by omega) (by omega) (by omega), hs 5 (by omega) (by omega) (by omega) (by omega), hs 7 (by omega) (by omega) (by omega) (by omega)]
    exact B
  · rw [hs 12 (by omega) (by omega) (by omega) (by omega), s4]
    exact (sumP_congr (fun i hi => hp i hi 4 (by omega))).symm
theorem HR.cc {h : Hp} {A W i : Nat} {w : Row} (q : HR h A W w (15 + 42 * i)) : ∀ k, k < 9 → hI h A (k + 1) = pt w i k := by
  obtain ⟨v0, v1, v2, v3, v4, v5, v6, v7, v8⟩ := q.c
  intro k hk
  rcases (show k = 0 ∨ k = 1 ∨ k = 2 ∨ k = 3 ∨ k = 4 ∨ k = 5 ∨ k = 6 ∨ k = 7 ∨ k = 8 by omega) with rfl | rfl | rfl | rfl | rfl | rfl | rfl | rfl | rfl
  · exact v0
  · exact v1
  · exact v2
  · exact v3
  · exact v4
  · exact v5
  · exact v6
  · exact v7
  · exact v8
def HgC (nl i o x : Nat) : Prop := x = 2 ∨ x = 2 + 7 + 2 * i ∨ x = 2 + 7 + 2 * o ∨ x = 2 + 23 + nl
theorem HgC.st {nl i o x : Nat} (h10 : nl < 10) (hi : i < 8) (ho : o < 8) (q : HgC nl i o x) : ST 2 x := by
  unfold HgC at q
  unfold ST
  omega
theorem SR.hag {h h' : Hp} {n nl nl' i o : Nat} {w w' : Row} (S : Sh h) (R : SR h 2 w n nl) (hi : i < n) (ho : o < n) (hl : nl < 10) (a : Ch (HgC nl i o) h h') (hs : ∀ j, j < 15 → j ≠ 8 → j ≠ 9 → j ≠ 10 → w' j = w j) (h8 : w' 8 = nI nl') (hl' : nl' ≤ 10) (hv : ∀ k, k ≠ 4 → hI h' 2 k = hI h 2 k) (hv4 : hI h' 2 4 = nI nl')
    (hp : ∀ j, j < n → ∀ k, 9 ≤ k → k < 42 → pt w' j k = pt w j k) (hc : ∀ j, j < n → ∀ k, k < 9 → hI h' (2 + 7 + 2 * j) (k + 1) = pt w' j k) (hz : ∀ j, j < nl' → ∀ k, k < 5 → hI h' (2 + 23 + j) k = w' (351 + 5 * j + k)) : SR h' 2 w' n nl' := by
  have st2 : isSt 2 := Or.inl rfl
  have hN0 : 245 ≤ hN h := S.2.2.2.2.2.2.2.2
  have n8 := R.n8
  have hPm : ∀ x, HgC nl i o x → Mut x := fun x hx => ST.mut st2 (hx.st hl (by omega) (by omega))
  have l0 := hs 0 (by omega) (by omega) (by omega) (by omega)
  have l1 := hs 1 (by omega) (by omega) (by omega) (by omega)
  have l2 := hs 2 (by omega) (by omega) (by omega) (by omega)
  have l7 := hs 7 (by omega) (by omega) (by omega) (by omega)
  have l11 := hs 11 (by omega) (by omega) (by omega) (by omega)
  have l13 := hs 13 (by omega) (by omega) (by omega) (by omega)
  have l14 := hs 14 (by omega) (by omega) (by omega) (by omega)
  have R' := R
  obtain ⟨⟨q1, q2, q3, q4⟩, ⟨p1, p2, p3, p4, p5, p6, p7, p8⟩, r1, r2, r3, r4⟩ := R
  refine ⟨⟨by rw [l2]; exact q1, q2, h8, hl'⟩, ⟨?_, by rw [h8]; exact hv4, ?_, ?_, ?_, ?_, ?_, ?_⟩, fun k hk => ?_, fun j hj => ?_, fun j j1 j2 => ?_, hz⟩
  · rw [hv 3 (by omega), l2]; exact p1
  · rw [hv 5 (by omega), l0]; exact p3
  · rw [hv 6 (by omega), l11]; exact p4
  · rw [hv 7 (by omega), l1]; exact p5
  · rw [hv 8 (by omega), l7]; exact p6
  · rw [hv 9 (by omega), l13]; exact p7
  · rw [hv 10 (by omega), l14]; exact p8
  · rw [(a.2.2 (2 + 1) (by omega) (fun q => by unfold HgC at q; omega)).1, hs (3 + k) (by omega) (by omega) (by omega) (by omega)]
    exact r1 k hk
  · obtain ⟨⟨y1, y2, y3, y4, y5, y6⟩, y7⟩ := (R'.hr hj).w
    have aW := a.2.2 (2 + 8 + 2 * j) (by omega) (fun q => by unfold HgC at q; omega)
    have r : WR h' (2 + 8 + 2 * j) w' j := by
      refine ⟨?_, ?_⟩
      · rw [aW.1, aW.2.1, hp j hj 9 (by omega) (by omega), hp j hj 10 (by omega) (by omega), hp j hj 14 (by omega) (by omega), hp j hj 11 (by omega) (by omega), hp j hj 12 (by omega) (by omega), hp j hj 13 (by omega) (by omega), hp j hj 17 (by omega) (by omega)]
        exact ⟨y1, y2, y3, y4, y5, y6⟩
      · rw [aW.2.2]
        exact y7.ch a hPm (fun k k1 k2 _ _ => hp j hj k (by omega) k2)
    exact ⟨⟨hc j hj 0 (by omega), hc j hj 1 (by omega), hc j hj 2 (by omega), hc j hj 3 (by omega), hc j hj 4 (by omega), hc j hj 5 (by omega), hc j hj 6 (by omega), hc j hj 7 (by omega), hc j hj 8 (by omega)⟩, r⟩
  · exact (r3 j j1 j2).ch a hPm (fun q => by unfold HgC at q; omega) (fun q => by unfold HgC at q; omega) (by omega) (by omega)
/-- a price after a haggle -/
def prcF (p : Int32) : Int32 := if 1 ≤ p then if p ≤ 50 then p else 50 else 1
theorem prc_eq (p : Int32) : (if 1 < (if p < 50 then p else 50) then (if p < 50 then p else 50) else 1) = prcF p := by
  unfold prcF
  by_cases q : p < 50
  · rw [if_pos q]
    by_cases y : 1 < p
    · rw [if_pos y, if_pos (Int32.le_of_lt y), if_pos (Int32.le_of_lt q)]
    · rw [if_neg y]
      by_cases z : 1 ≤ p
      · have e : p = 1 := Int32.le_antisymm (Int32.not_lt.mp y) z
        rw [e]
        rfl
      · rw [if_neg z]
  · have q' := Int32.not_lt.mp q
    rw [if_neg q, if_pos (show (1 : Int32) < 50 by decide), if_pos (Int32.le_trans (show (1 : Int32) ≤ 50 by decide) q')]
    by_cases z : p ≤ 50
    · rw [if_pos z]
      exact Int32.le_antisymm q' z
    · rw [if_neg z]
