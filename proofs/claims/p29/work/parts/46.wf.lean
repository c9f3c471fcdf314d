/-! a row in its ranges, kept by a minute -/
theorem sumNN_congr {f g : Nat → Nat} : ∀ (d k : Nat), (∀ j, k ≤ j → j < k + d → f j = g j) → sumNN f d k = sumNN g d k
  | 0, _, _ => rfl
  | d + 1, k, h => by
    unfold sumNN
    rw [h k (Nat.le_refl k) (by omega), sumNN_congr d (k + 1) (fun j h1 h2 => h j (by omega) (by omega))]
theorem sumNN_last (f : Nat → Nat) (d : Nat) : sumNN f (d + 1) 0 = sumNN f d 0 + f d := by
  rw [sumNN_split d 1 0, Nat.zero_add]
  rfl
theorem lsF_lent (x : Int32) : ∀ (d l m : Nat) (w : Row), m ≤ l → (∀ j, (j < m ∨ (l ≤ j ∧ j < l + d)) → ∃ s, w (351 + 5 * j + 2) = nI s ∧ s ≤ 20) →
    sumNN (lndN (lsF d l m w).1 x) (lsF d l m w).2 0 ≤ sumNN (lndN w x) m 0 + sumNN (lndN w x) d l ∧ ∀ j, j < (lsF d l m w).2 → ∃ s, (lsF d l m w).1 (351 + 5 * j + 2) = nI s ∧ s ≤ 20
  | 0, l, m, w, hm, h => ⟨Nat.le_refl _, fun j hj => h j (Or.inl hj)⟩
  | d + 1, l, m, w, hm, h => by
    have ed : ∀ j k, k ≠ 3 → k < 5 → decL w l (351 + 5 * j + k) = w (351 + 5 * j + k) := fun j k h3 h5 => upd_ne _ _ (by omega)
    have e1 : lndN (decL w l) x = lndN w x := funext fun j => by
      unfold lndN
      rw [ed j 0 (by omega) (by omega), ed j 2 (by omega) (by omega)]
    unfold lsF
    split
    · obtain ⟨i1, i2⟩ := lsF_lent x d (l + 1) m (decL w l) (by omega) (fun j hj => by
        rw [ed j 2 (by omega) (by omega)]
        exact h j (by omega))
      rw [e1] at i1
      refine ⟨?_, i2⟩
      show _ ≤ sumNN (lndN w x) m 0 + (lndN w x l + sumNN (lndN w x) d (l + 1))
      omega
    · have ec : ∀ j k, j ≠ m → k < 5 → cpL (decL w l) l m (351 + 5 * j + k) = decL w l (351 + 5 * j + k) := fun j k h3 h5 => cpL_off _ (by omega)
      have em : ∀ k, k < 5 → cpL (decL w l) l m (351 + 5 * m + k) = decL w l (351 + 5 * l + k) := fun k h5 => cpL_at _ hm h5
      have f1 : ∀ j, j ≠ m → lndN (cpL (decL w l) l m) x j = lndN w x j := fun j hj => by
        unfold lndN
        rw [ec j 0 hj (by omega), ec j 2 hj (by omega), ed j 0 (by omega) (by omega), ed j 2 (by omega) (by omega)]
      have f2 : lndN (cpL (decL w l) l m) x m = lndN w x l := by
        unfold lndN
        rw [em 0 (by omega), em 2 (by omega), ed l 0 (by omega) (by omega), ed l 2 (by omega) (by omega)]
      obtain ⟨i1, i2⟩ := lsF_lent x d (l + 1) (m + 1) (cpL (decL w l) l m) (by omega) (fun j hj => by
        by_cases q : j = m
        · rw [q, em 2 (by omega), ed l 2 (by omega) (by omega)]
          exact h l (by omega)
        · rw [ec j 2 q (by omega), ed j 2 (by omega) (by omega)]
          exact h j (by omega))
      refine ⟨?_, i2⟩
      rw [sumNN_last, f2, sumNN_congr m 0 (fun j _ h2 => f1 j (by omega)), sumNN_congr d (l + 1) (fun j h1 _ => f1 j (by omega))] at i1
      show _ ≤ sumNN (lndN w x) m 0 + (lndN w x l + sumNN (lndN w x) d (l + 1))
      omega
theorem lentN_congr {w w' : Row} {nl : Nat} {x : Int32} (h : ∀ j, j < nl → ∀ k, k < 5 → w' (351 + 5 * j + k) = w (351 + 5 * j + k)) : lentN w' nl x = lentN w nl x := by
  unfold lentN
  refine sumNN_congr nl 0 (fun j _ h2 => ?_)
  unfold lndN
  rw [h j (by omega) 0 (by omega), h j (by omega) 2 (by omega)]
theorem midR_hi (w : Row) (n nl : Nat) (h8 : n ≤ 8) {j : Nat} (hj : 351 ≤ j) : aftR w n nl j = w j := by
  have k1 : ∀ (f : Row → Nat → Row) (w : Row), (∀ w i, i < n → f w i j = w j) → itF f 0 n w j = w j := fun f w hf => itF_keepn (P := fun u => u j = w j) (fun u i hi h => (hf u i hi).trans h) n 0 w (by omega) rfl
  unfold aftR midR
  rw [k1 restF _ (fun w i hi => restF_off w i j (by omega))]
  split
  · exact upd_ne _ _ (by omega)
  · rw [k1 _ _ (fun w i hi => workF_off _ w i j (by omega) (by omega))]
    unfold givR
    rw [upd_ne _ _ (by omega), upd_ne _ _ (by omega), k1 _ _ (fun w i hi => heatF_off _ w i j (by omega)), upd_ne _ _ (by omega)]
theorem minR_WL {w : Row} {n nl : Nat} (h8 : n ≤ 8) (L : WL w n nl) : WL (minR w n nl) n (minL w n nl) := by
  have eh : ∀ j k, aftR w n nl (351 + 5 * j + k) = w (351 + 5 * j + k) := fun j k => midR_hi w n nl h8 (by omega)
  have hs : ∀ j, (j < 0 ∨ (0 ≤ j ∧ j < 0 + nl)) → ∃ s, aftR w n nl (351 + 5 * j + 2) = nI s ∧ s ≤ 20 := fun j hj => by
    rw [eh j 2]
    exact L.1 j (by omega)
  have em : ∀ j k, minR w n nl (351 + 5 * j + k) = (lsF nl 0 0 (aftR w n nl)).1 (351 + 5 * j + k) := fun j k => by
    unfold minR
    rw [upd_ne _ _ (by omega), upd_ne _ _ (by omega)]
  refine ⟨fun j hj => ?_, fun i hi => ?_⟩
  · rw [em j 2]
    exact (lsF_lent 0 nl 0 0 _ (Nat.le_refl 0) hs).2 j hj
  · obtain ⟨ow, o1, o2, o3⟩ := L.2 i hi
    refine ⟨ow, by rw [minR_keeps w n nl hi h8 (by omega) (by omega) (by omega) (by omega) (by omega) (by omega) (by omega) (by omega) (by omega) (by omega) (by omega)]; exact o1, o2, ?_⟩
    have h1 := (lsF_lent (nI i) nl 0 0 _ (Nat.le_refl 0) hs).1
    have h2 : sumNN (lndN (aftR w n nl) (nI i)) nl 0 = lentN w nl (nI i) := lentN_congr (nl := nl) (fun j _ k _ => eh j k)
    have h3 : lentN (minR w n nl) (minL w n nl) (nI i) = sumNN (lndN (lsF nl 0 0 (aftR w n nl)).1 (nI i)) (lsF nl 0 0 (aftR w n nl)).2 0 := lentN_congr (fun j _ k _ => em j k)
    rw [h3]
    rw [h2] at h1
    have : sumNN (lndN (aftR w n nl) (nI i)) 0 0 = 0 := rfl
    omega
theorem minR_WB {w : Row} {n nl : Nat} (h8 : n ≤ 8) (B : WB w) : WB (minR w n nl) := by
  have e : ∀ j, j < 15 → j ≠ 8 → j ≠ 0 → j ≠ 7 → j ≠ 13 → j ≠ 14 → j ≠ 11 → j ≠ 12 → minR w n nl j = w j := fun j h1 h2 h3 h4 h5 h6 h7 h8 => (minR_lo w n nl h1 h2 h3).trans (midR_lo w n nl j h1 h4 h5 h6 h7 h8)
  unfold WB
  rw [e 3 (by omega) (by omega) (by omega) (by omega) (by omega) (by omega) (by omega) (by omega), e 4 (by omega) (by omega) (by omega) (by omega) (by omega) (by omega) (by omega) (by omega), e 5 (by omega) (by omega) (by omega) (by omega) (by omega) (by omega) (by omega) (by omega)]
  refine ⟨B.1, B.2.1, B.2.2.1, ?_⟩
  rw [minR_lo w n nl (by omega) (by omega) (by omega)]
  unfold midR
  split
  · rw [upd_ne _ _ (by omega)]
    exact B.2.2.2
  · rw [itF_lo (fun w i => workF_off _ w i 7 (by omega) (by omega))]
    unfold givR
    rw [upd_ne _ _ (by omega), upd_eq]
    obtain ⟨e1, h1, e2, h2, e3, h3, e4, h4⟩ := B.n
    obtain ⟨s1, s2, s3, s4⟩ := getA_sum (w := w) (nl := nl) h8
    have hf : filN w ≤ 60000 := Nat.le_trans (Nat.min_le_left _ _) h1
    have hh : heaN w ≤ filN w := Nat.min_le_right _ _
    exact ⟨filN w - sumNN (getA w n nl).1 n 0, nI_sub (by omega), by omega⟩
theorem lsF_all {k : Nat} (h3 : k ≠ 3) (h5 : k < 5) {P : Int32 → Prop} : ∀ (d l m : Nat) (w : Row), m ≤ l → (∀ j, (j < m ∨ (l ≤ j ∧ j < l + d)) → P (w (351 + 5 * j + k))) → ∀ j, j < (lsF d l m w).2 → P ((lsF d l m w).1 (351 + 5 * j + k))
  | 0, l, m, w, hm, h => fun j hj => h j (Or.inl hj)
  | d + 1, l, m, w, hm, h => by
    have ed : ∀ j, decL w l (351 + 5 * j + k) = w (351 + 5 * j + k) := fun j => upd_ne _ _ (by omega)
    unfold lsF
    split
    · exact lsF_all h3 h5 d (l + 1) m (decL w l) (by omega) (fun j hj => by
        rw [ed j]
        exact h j (by omega))
    · refine lsF_all h3 h5 d (l + 1) (m + 1) (cpL (decL w l) l m) (by omega) (fun j hj => ?_)
      by_cases q : j = m
      · rw [q, cpL_at _ hm h5, ed l]
        exact h l (by omega)
      · rw [cpL_off _ (by omega), ed j]
        exact h j (by omega)
/-- lenders and borrowers are houses that are there -/
def WN (w : Row) (n nl : Nat) : Prop := ∀ j, j < nl → ∀ k, k < 2 → ∃ a, w (351 + 5 * j + k) = nI a ∧ a < n
theorem minR_WN {w : Row} {n nl : Nat} (h8 : n ≤ 8) (N : WN w n nl) : WN (minR w n nl) n (minL w n nl) := by
  intro j hj k hk
  have em : minR w n nl (351 + 5 * j + k) = (lsF nl 0 0 (aftR w n nl)).1 (351 + 5 * j + k) := by
    unfold minR
    rw [upd_ne _ _ (by omega), upd_ne _ _ (by omega)]
  rw [em]
  refine lsF_all (k := k) (P := fun x => ∃ a, x = nI a ∧ a < n) (by omega) (by omega) nl 0 0 _ (Nat.le_refl 0) (fun j hj => ?_) j hj
  rw [midR_hi w n nl h8 (by omega)]
  exact N j (by omega) k hk
/-- all that is kept -/
def WF (w : Row) (n nl t : Nat) : Prop := (n ≤ 8 ∧ nl ≤ 10 ∧ w 2 = nI n ∧ w 8 = nI nl) ∧ (w 1 = 0 ∨ w 1 = 1) ∧ WB w ∧ WL w n nl ∧ (∀ i, i < n → WH w i t) ∧ (w 12 = sumP w 4 n ∧ w 9 = sumP w 5 n ∧ w 10 = sumP w 6 n ∧ WN w n nl)
theorem WF.mono {w : Row} {n nl t t' : Nat} (h : t ≤ t') (F : WF w n nl t) : WF w n nl t' := by
  obtain ⟨a, b, c, d, e, f⟩ := F
  exact ⟨a, b, c, d, fun i hi => (e i hi).mono h, f⟩
theorem getA_250 {w : Row} {n nl : Nat} (h8 : n ≤ 8) (i : Nat) : (getA w n nl).1 i ≤ 250 := by
  have := (getA_sum (w := w) (nl := nl) h8).2.2.1 i
  have h2 : wanA w n i ≤ 250 := by
    unfold wanA
    split
    · exact wanN_le _ _
    · omega
  omega
theorem minR_WF {w : Row} {n nl t : Nat} (ht : t ≤ 39000) (F : WF w n nl t) (HM : ∀ i, i < n → WH (midR w n nl) i (t + 1)) : WF (minR w n nl) n (minL w n nl) (t + 1) := by
  obtain ⟨⟨h8, h10, e2, e8⟩, hp, B, L, H, s4, s5, s6, N⟩ := F
  have e : ∀ j, j < 15 → j ≠ 8 → j ≠ 0 → j ≠ 7 → j ≠ 13 → j ≠ 14 → j ≠ 11 → j ≠ 12 → minR w n nl j = w j := fun j h1 h2 h3 h4 h5 h6 h7 h8 => (minR_lo w n nl h1 h2 h3).trans (midR_lo w n nl j h1 h4 h5 h6 h7 h8)
  have hl := lsF_le nl 0 0 (aftR w n nl)
  have hl2 : minL w n nl ≤ nl := by unfold minL; omega
  refine ⟨⟨h8, by omega, ?_, ?_⟩, ?_, minR_WB h8 B, minR_WL h8 L, minR_WH h8 ht HM hp, minR_sum w h8 s4, ?_, ?_, minR_WN h8 N⟩
  · rw [e 2 (by omega) (by omega) (by omega) (by omega) (by omega) (by omega) (by omega) (by omega)]; exact e2
  · unfold minR; rw [upd_ne _ _ (by omega), upd_eq]; rfl
  · rw [e 1 (by omega) (by omega) (by omega) (by omega) (by omega) (by omega) (by omega) (by omega)]; exact hp
  · rw [e 9 (by omega) (by omega) (by omega) (by omega) (by omega) (by omega) (by omega) (by omega), s5]
    exact (sumP_congr (fun i hi => minR_keeps w n nl hi h8 (by omega) (by omega) (by omega) (by omega) (by omega) (by omega) (by omega) (by omega) (by omega) (by omega) (by omega))).symm
  · rw [e 10 (by omega) (by omega) (by omega) (by omega) (by omega) (by omega) (by omega) (by omega), s6]
    exact (sumP_congr (fun i hi => minR_keeps w n nl hi h8 (by omega) (by omega) (by omega) (by omega) (by omega) (by omega) (by omega) (by omega) (by omega) (by omega) (by omega))).symm
