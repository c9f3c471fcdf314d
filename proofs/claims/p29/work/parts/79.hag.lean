/-! haggle: no deal -/
def refF (w : Row) (i o : Nat) (v : Int32) : Row := sp (upd (sp w i 6 (pt w i 6 + 1)) 10 (w 10 + 1)) o 1 (prcF (pt w o 1 + v))
theorem refF_lo (w : Row) (i o : Nat) (v : Int32) {j : Nat} (hj : j < 15) (h10 : j ≠ 10) : refF w i o v j = w j := by
  unfold refF
  rw [sp_lo _ _ _ _ _ hj, upd_ne _ _ h10, sp_lo _ _ _ _ _ hj]
theorem refF_hi (w : Row) {i o : Nat} (hi : i < 8) (ho : o < 8) (v : Int32) {j : Nat} (hj : 351 ≤ j) : refF w i o v j = w j := by
  unfold refF
  rw [sp_off _ _ _ _ _ (by omega) (by omega), upd_ne _ _ (by omega), sp_off _ _ _ _ _ (by omega) (by omega)]
theorem refF_10 (w : Row) (i o : Nat) (v : Int32) : refF w i o v 10 = w 10 + 1 := by
  unfold refF
  rw [sp_lo _ _ _ _ _ (by omega), upd_eq]
theorem refF_pt (w : Row) {i o : Nat} (v : Int32) (hio : i ≠ o) {j k : Nat} (hk : k < 42) : pt (refF w i o v) j k = if j = o ∧ k = 1 then prcF (pt w o 1 + v) else if j = i ∧ k = 6 then pt w i 6 + 1 else pt w j k := by
  unfold refF
  by_cases q : j = o
  · subst q
    rw [pt_sp, pt_upd _ _ _ _ _ (by omega), pt_sp_ne _ _ hio (by omega) hk]
    by_cases y : k = 1
    · rw [if_pos y, if_pos ⟨rfl, y⟩]
    · rw [if_neg y, if_neg (fun z => y z.2), if_neg (fun z => hio z.1.symm)]
  · rw [pt_sp_ne _ _ (Ne.symm q) (by omega) hk, pt_upd _ _ _ _ _ (by omega), if_neg (fun z => q z.1)]
    by_cases x : j = i
    · subst x
      rw [pt_sp]
      by_cases y : k = 6
      · rw [if_pos y, if_pos ⟨rfl, y⟩]
      · rw [if_neg y, if_neg (fun z => y z.2)]
    · rw [pt_sp_ne _ _ (Ne.symm x) (by omega) hk, if_neg (fun z => x z.1)]
theorem WF.ref {w : Row} {n nl t i o : Nat} (hi : i < n) (ho : o < n) (hio : i ≠ o) (v : Int32) (F : WF w n nl t) : WF (refF w i o v) n nl t := by
  have F' := F
  obtain ⟨⟨n8, h10, e2, e8⟩, hp1, B, L, H, s4, s5, s6, N⟩ := F
  have hi8 : i < 8 := by omega
  have ho8 : o < 8 := by omega
  have P : ∀ j k, k < 42 → ¬ (j = o ∧ k = 1) → ¬ (j = i ∧ k = 6) → pt (refF w i o v) j k = pt w j k := fun j k hk h1 h2 => by
    rw [refF_pt w v hio hk, if_neg h1, if_neg h2]
  refine WF.hag (nl := nl) (fun j j1 _ _ j4 => refF_lo w i o v j1 j4) (by rw [refF_lo _ _ _ _ (by omega) (by omega)]; exact e8) h10 (fun j _ k hk => P j k (by omega) (by omega) (by omega)) ?_ ?_ ⟨fun j hj => by rw [refF_hi _ hi8 ho8 _ (by omega)]; exact L.1 j hj, fun j hj => ?_⟩ (fun j hj k hk => by rw [refF_hi _ hi8 ho8 _ (by omega)]; exact N j hj k hk) F'
  · rw [refF_lo _ _ _ _ (by omega) (by omega), s5]
    exact (sumP_congr (fun j _ => P j 5 (by omega) (by omega) (by omega))).symm
  · rw [refF_10, s6]
    refine (sumP_one hi ?_ (fun j hj => P j 6 (by omega) (by omega) (by omega))).symm
    rw [refF_pt w v hio (by omega), if_neg (by omega), if_pos ⟨rfl, rfl⟩]
  · rw [P j 0 (by omega) (by omega) (by omega), lentN_congr (w := w) (w' := refF w i o v) (fun j _ k _ => refF_hi _ hi8 ho8 _ (by omega))]
    exact L.2 j hj
theorem c_changePrice {h : Hp} {A : Nat} (e : hT h A = (2, 0)) (v : Int32) : s_X2_changePrice A v h = some ((), sI h A 2 (prcF (hI h A 2 + v))) := by
  unfold s_X2_changePrice
  simp only [getI, putI, e, if_true, retU, prc_eq]
theorem c_refuseR {h : Hp} {w : Row} {n nl i o : Nat} (S : Sh h) (R : SR h 2 w n nl) (hi : i < n) (ho : o < n) (hio : i ≠ o) (hl : nl < 10) (v : Int32) :
    Fr (HgC nl i o) h (sI (sI h (2 + 7 + 2 * i) 7 (hI h (2 + 7 + 2 * i) 7 + 1)) (2 + 7 + 2 * o) 2 (prcF (hI h (2 + 7 + 2 * o) 2 + v))) ∧ SR (sI (sI h (2 + 7 + 2 * i) 7 (hI h (2 + 7 + 2 * i) 7 + 1)) (2 + 7 + 2 * o) 2 (prcF (hI h (2 + 7 + 2 * o) 2 + v))) 2 (refF w i o v) n nl := by
  have n8 := R.n8
  have hi8 : i < 8 := by omega
  have ho8 : o < 8 := by omega
  have vi := (R.hr hi).cc 6 (by omega)
  have vo := (R.hr ho).cc 1 (by omega)
  have F : Fr (HgC nl i o) h (sI (sI h (2 + 7 + 2 * i) 7 (hI h (2 + 7 + 2 * i) 7 + 1)) (2 + 7 + 2 * o) 2 (prcF (hI h (2 + 7 + 2 * o) 2 + v))) := ((Fr.rfl' (P := HgC nl i o)).sI _ 7 _ (Or.inr (Or.inl rfl))).sI _ 2 _ (Or.inr (Or.inr (Or.inl rfl)))
  refine ⟨F, SR.hag S R hi ho hl F.ch (fun j j1 _ _ j4 => refF_lo w i o _ j1 j4) (by rw [refF_lo _ _ _ _ (by omega) (by omega)]; exact R.1.2.2.1) R.1.2.2.2 (fun k _ => ?_) ?_ (fun j _ k k1 k2 => ?_) (fun j hj k hk => ?_) (fun j hj k hk => ?_)⟩
  · rw [hI_sIn _ _ _ _ _ (by omega), hI_sIn _ _ _ _ _ (by omega)]
  · rw [hI_sIn _ _ _ _ _ (by omega), hI_sIn _ _ _ _ _ (by omega), R.2.1.2.1]
    exact R.1.2.2.1
  · rw [refF_pt w _ hio k2, if_neg (by omega), if_neg (by omega)]
  · rw [refF_pt w _ hio (by omega), hI_sI, hI_sI]
    by_cases q1 : j = o ∧ k = 1
    · rw [if_pos q1, if_pos (by omega), vo]
    · rw [if_neg (by omega), if_neg q1]
      by_cases q2 : j = i ∧ k = 6
      · rw [if_pos q2, if_pos (by omega), vi]
      · rw [if_neg (by omega), if_neg q2]
        exact (R.hr hj).cc k hk
  · rw [hI_sIn _ _ _ _ _ (by omega), hI_sIn _ _ _ _ _ (by omega), refF_hi _ hi8 ho8 _ (by omega)]
    exact R.2.2.2.2.2 j hj k hk
theorem c_refuse {h : Hp} {w : Row} {n nl i o : Nat} (S : Sh h) (R : SR h 2 w n nl) (hi : i < n) (ho : o < n) (hio : i ≠ o) (hl : nl < 10) (z : Int32) :
    ∃ h', s_X6_refuse 2 (nI i) (nI o) z h = some ((), h') ∧ Fr (HgC nl i o) h h' ∧ hR h' = hR h ∧ SR h' 2 (refF w i o (if z = 0 then 1 else -1)) n nl := by
  have st2 : isSt 2 := Or.inl rfl
  have n8 := R.n8
  have hi8 : i < 8 := by omega
  have ho8 : o < 8 := by omega
  have hne : ¬ (2 + 7 + 2 * o = 2 + 7 + 2 * i) := by omega
  have S1 : Sh (sI h (2 + 7 + 2 * i) 7 (hI h (2 + 7 + 2 * i) 7 + 1)) := S.sI _ _ _
  obtain ⟨F, r⟩ := c_refuseR S R hi ho hio hl (if z = 0 then 1 else -1)
  refine ⟨_, ?_, F, rfl, r⟩
  unfold s_X6_refuse
  rw [c_house S st2 hi8]
  simp only [getI, putI, S.tH st2 hi8, if_true]
  rw [c_house S1 st2 ho8]
  have cp : ∀ v, s_X2_changePrice (2 + 7 + 2 * o) v (sI h (2 + 7 + 2 * i) 7 (hI h (2 + 7 + 2 * i) 7 + 1)) = some ((), sI (sI h (2 + 7 + 2 * i) 7 (hI h (2 + 7 + 2 * i) 7 + 1)) (2 + 7 + 2 * o) 2 (prcF (hI h (2 + 7 + 2 * o) 2 + v))) := fun v => by
    rw [c_changePrice (S1.tH st2 ho8), hI_sIn _ _ _ _ _ hne]
  simp only [inv, S1.tH st2 ho8, if_true, cp, bnd, retU]
  split <;> rfl
