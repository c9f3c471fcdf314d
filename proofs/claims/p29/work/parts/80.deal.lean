/-! haggle: a deal, the row -/
def lsU (w : Row) (nl : Nat) (o i s m c : Int32) : Row := upd (upd (upd (upd (upd w (351 + 5 * nl + 0) o) (351 + 5 * nl + 1) i) (351 + 5 * nl + 2) s) (351 + 5 * nl + 3) m) (351 + 5 * nl + 4) c
theorem lsU_off (w : Row) (nl : Nat) (o i s m c : Int32) {j : Nat} (hj : j < 351 + 5 * nl ∨ 351 + 5 * nl + 5 ≤ j) : lsU w nl o i s m c j = w j := by
  unfold lsU
  rw [upd_ne _ _ (by omega), upd_ne _ _ (by omega), upd_ne _ _ (by omega), upd_ne _ _ (by omega), upd_ne _ _ (by omega)]
def lsV (o i s m c : Int32) : Nat → Int32
  | 0 => o
  | 1 => i
  | 2 => s
  | 3 => m
  | _ => c
theorem lsU_at (w : Row) (nl : Nat) (o i s m c : Int32) {k : Nat} (hk : k < 5) : lsU w nl o i s m c (351 + 5 * nl + k) = lsV o i s m c k := by
  unfold lsU
  rcases (show k = 0 ∨ k = 1 ∨ k = 2 ∨ k = 3 ∨ k = 4 by omega) with rfl | rfl | rfl | rfl | rfl
  · rw [upd_ne _ _ (by omega), upd_ne _ _ (by omega), upd_ne _ _ (by omega), upd_ne _ _ (by omega), upd_eq]; rfl
  · rw [upd_ne _ _ (by omega), upd_ne _ _ (by omega), upd_ne _ _ (by omega), upd_eq]; rfl
  · rw [upd_ne _ _ (by omega), upd_ne _ _ (by omega), upd_eq]; rfl
  · rw [upd_ne _ _ (by omega), upd_eq]; rfl
  · rw [upd_eq]; rfl
def dlU (w : Row) (nl i o : Nat) (s m c : Int32) : Row := upd (upd (lsU w nl (nI o) (nI i) s m c) 8 (nI (nl + 1))) 9 (w 9 + 1)
def dealF (w : Row) (nl i o : Nat) (s m c : Int32) : Row := sp (sp (sp (sp (sp (sp (dlU w nl i o s m c) i 2 (pt w i 2 + -c)) i 7 (pt w i 7 + c)) i 5 (pt w i 5 + 1)) o 2 (pt w o 2 + c)) o 8 (pt w o 8 + c)) o 1 (prcF (pt w o 1 + 1))
theorem dlU_pt (w : Row) (nl i o : Nat) (s m c : Int32) {j k : Nat} (hj : j < 8) (hk : k < 42) : pt (dlU w nl i o s m c) j k = pt w j k := by
  unfold dlU
  rw [pt_upd _ _ _ _ _ (by omega), pt_upd _ _ _ _ _ (by omega)]
  exact lsU_off _ _ _ _ _ _ _ (by omega)
theorem dealF_lo (w : Row) (nl i o : Nat) (s m c : Int32) {j : Nat} (hj : j < 15) : dealF w nl i o s m c j = dlU w nl i o s m c j := by
  unfold dealF
  rw [sp_lo _ _ _ _ _ hj, sp_lo _ _ _ _ _ hj, sp_lo _ _ _ _ _ hj, sp_lo _ _ _ _ _ hj, sp_lo _ _ _ _ _ hj, sp_lo _ _ _ _ _ hj]
theorem dealF_s (w : Row) (nl i o : Nat) (s m c : Int32) {j : Nat} (hj : j < 15) (h8 : j ≠ 8) (h9 : j ≠ 9) : dealF w nl i o s m c j = w j := by
  rw [dealF_lo _ _ _ _ _ _ _ hj]
  unfold dlU
  rw [upd_ne _ _ h9, upd_ne _ _ h8, lsU_off _ _ _ _ _ _ _ (by omega)]
theorem dealF_8 (w : Row) (nl i o : Nat) (s m c : Int32) : dealF w nl i o s m c 8 = nI (nl + 1) := by
  rw [dealF_lo _ _ _ _ _ _ _ (by omega)]
  unfold dlU
  rw [upd_ne _ _ (by omega), upd_eq]
theorem dealF_9 (w : Row) (nl i o : Nat) (s m c : Int32) : dealF w nl i o s m c 9 = w 9 + 1 := by
  rw [dealF_lo _ _ _ _ _ _ _ (by omega)]
  unfold dlU
  rw [upd_eq]
theorem dealF_hi (w : Row) (nl : Nat) {i o : Nat} (hi : i < 8) (ho : o < 8) (s m c : Int32) {j : Nat} (hj : 351 ≤ j) : dealF w nl i o s m c j = lsU w nl (nI o) (nI i) s m c j := by
  unfold dealF
  rw [sp_off _ _ _ _ _ (by omega) (by omega), sp_off _ _ _ _ _ (by omega) (by omega), sp_off _ _ _ _ _ (by omega) (by omega), sp_off _ _ _ _ _ (by omega) (by omega), sp_off _ _ _ _ _ (by omega) (by omega), sp_off _ _ _ _ _ (by omega) (by omega)]
  unfold dlU
  rw [upd_ne _ _ (by omega), upd_ne _ _ (by omega)]
theorem dealF_pt (w : Row) (nl : Nat) {i o : Nat} (s m c : Int32) (hio : i ≠ o) {j k : Nat} (hj : j < 8) (hk : k < 42) : pt (dealF w nl i o s m c) j k =
    if j = o then if k = 1 then prcF (pt w o 1 + 1) else if k = 8 then pt w o 8 + c else if k = 2 then pt w o 2 + c else pt w j k
    else if j = i then if k = 5 then pt w i 5 + 1 else if k = 7 then pt w i 7 + c else if k = 2 then pt w i 2 + -c else pt w j k else pt w j k := by
  unfold dealF
  by_cases q : j = o
  · subst q
    rw [if_pos rfl, pt_sp, pt_sp, pt_sp, pt_sp_ne _ _ hio (by omega) hk, pt_sp_ne _ _ hio (by omega) hk, pt_sp_ne _ _ hio (by omega) hk, dlU_pt _ _ _ _ _ _ _ hj hk]
  · rw [if_neg q, pt_sp_ne _ _ (Ne.symm q) (by omega) hk, pt_sp_ne _ _ (Ne.symm q) (by omega) hk, pt_sp_ne _ _ (Ne.symm q) (by omega) hk]
    by_cases x : j = i
    · subst x
      rw [if_pos rfl, pt_sp, pt_sp, pt_sp, dlU_pt _ _ _ _ _ _ _ hj hk]
    · rw [if_neg x, pt_sp_ne _ _ (Ne.symm x) (by omega) hk, pt_sp_ne _ _ (Ne.symm x) (by omega) hk, pt_sp_ne _ _ (Ne.symm x) (by omega) hk, dlU_pt _ _ _ _ _ _ _ hj hk]
theorem dealF_same (w : Row) (nl : Nat) {i o : Nat} (s m c : Int32) (hio : i ≠ o) {j k : Nat} (hj : j < 8) (hk : k < 42) (n1 : k ≠ 1) (n2 : k ≠ 2) (n5 : k ≠ 5) (n7 : k ≠ 7) (n8 : k ≠ 8) : pt (dealF w nl i o s m c) j k = pt w j k := by
  rw [dealF_pt w nl s m c hio hj hk, if_neg n1, if_neg n8, if_neg n2, if_neg n5, if_neg n7, if_neg n2]
  split
  · rfl
  · split <;> rfl
theorem sumP_one' {w w' : Row} {k n i : Nat} {v : Int32} (hi : i < n) (h : pt w' i k = pt w i k + v) (ho : ∀ j, j < n → j ≠ i → pt w' j k = pt w j k) : sumP w' k n = sumP w k n + v := by
  have e1 : sumP w' k n = sumL (fun j => if j = i then pt w i k + v else pt w j k) n 0 0 := sumL_congr n 0 0 (fun j _ hj => by
    by_cases q : j = i
    · subst q
      rw [if_pos rfl]
      exact h
    · rw [if_neg q]
      exact ho j (by omega) q)
  rw [e1]
  exact sumL_one (f := fun j => pt w j k) (g := fun j => if j = i then pt w i k + v else pt w j k) (i := i) (v := v) (if_pos rfl) (fun j hj => if_neg hj) n 0 0 (by omega) (by omega)
theorem WF.deal {w : Row} {n nl t i o : Nat} (hi : i < n) (ho : o < n) (hio : i ≠ o) (hl : nl < 10) {x : Nat} (hx : x ≤ 20) (m c : Int32) (hu : ¬ (pt w o 0 - lentF w nl (nI o) < nI x)) (F : WF w n nl t) : WF (dealF w nl i o (nI x) m c) n (nl + 1) t := by
  have F' := F
  obtain ⟨⟨n8, h10, e2, e8⟩, hp1, B, L, H, s4, s5, s6, N⟩ := F
  have hi8 : i < 8 := by omega
  have ho8 : o < 8 := by omega
  have zo : ∀ j, j < nl → ∀ k, k < 5 → dealF w nl i o (nI x) m c (351 + 5 * j + k) = w (351 + 5 * j + k) := fun j hj k hk => by
    rw [dealF_hi _ _ hi8 ho8 _ _ _ (by omega), lsU_off _ _ _ _ _ _ _ (by omega)]
  have zn : ∀ k, k < 5 → dealF w nl i o (nI x) m c (351 + 5 * nl + k) = lsV (nI o) (nI i) (nI x) m c k := fun k hk => by
    rw [dealF_hi _ _ hi8 ho8 _ _ _ (by omega), lsU_at _ _ _ _ _ _ _ hk]
  have le : ∀ y, lentN (dealF w nl i o (nI x) m c) (nl + 1) y = lentN w nl y + (if nI o = y then x else 0) := fun y => by
    unfold lentN
    rw [sumNN_last]
    have e1 : sumNN (lndN (dealF w nl i o (nI x) m c) y) nl 0 = sumNN (lndN w y) nl 0 := lentN_congr (w := w) (w' := dealF w nl i o (nI x) m c) zo
    rw [e1]
    have e2 : lndN (dealF w nl i o (nI x) m c) y nl = if nI o = y then x else 0 := by
      unfold lndN
      rw [zn 0 (by omega), zn 2 (by omega)]
      show (if nI o = y then (nI x).toNatClampNeg else 0) = _
      rw [nI_clamp (by omega)]
    rw [e2]
  refine WF.hag (nl := nl) (fun j j1 j2 j3 _ => dealF_s w nl i o _ m c j1 j2 j3) (dealF_8 _ _ _ _ _ _ _) (by omega) (fun j hj k hk => dealF_same w nl _ m c hio (by omega) (by omega) (by omega) (by omega) (by omega) (by omega) (by omega)) ?_ ?_ ⟨fun j hj => ?_, fun j hj => ?_⟩ (fun j hj k hk => ?_) F'
  · rw [dealF_9, s5]
    refine (sumP_one' hi ?_ (fun j hn hj => ?_)).symm
    · rw [dealF_pt w nl _ m c hio hi8 (by omega), if_neg hio, if_pos rfl, if_pos rfl]
    · rw [dealF_pt w nl _ m c hio (show j < 8 by omega) (by omega), if_neg (show ¬ (5 = 1) by omega), if_neg (show ¬ (5 = 8) by omega), if_neg (show ¬ (5 = 2) by omega), if_neg hj]
      split <;> rfl
  · rw [dealF_s _ _ _ _ _ _ _ (by omega) (by omega) (by omega), s6]
    exact (sumP_congr (fun j hj => dealF_same w nl _ m c hio (by omega) (by omega) (by omega) (by omega) (by omega) (by omega) (by omega))).symm
  · by_cases q : j = nl
    · subst q
      exact ⟨x, zn 2 (by omega), hx⟩
    · rw [zo j (by omega) 2 (by omega)]
      exact L.1 j (by omega)
  · obtain ⟨ow, o1, o2, o3⟩ := L.2 j hj
    refine ⟨ow, by rw [dealF_same w nl _ m c hio (by omega) (by omega) (by omega) (by omega) (by omega) (by omega) (by omega)]; exact o1, o2, ?_⟩
    rw [le]
    by_cases q : o = j
    · subst q
      rw [if_pos rfl]
      rw [o1, lentF_N L, nI_sub o3] at hu
      have := (nI_leI (by omega) (by omega)).mp (Int32.not_lt.mp hu)
      omega
    · rw [if_neg (fun z => q ((nI_eq (by omega) (by omega)).mp z))]
      omega
  · by_cases q : j = nl
    · subst q
      rw [zn k (by omega)]
      rcases (show k = 0 ∨ k = 1 by omega) with rfl | rfl
      · exact ⟨o, rfl, ho⟩
      · exact ⟨i, rfl, hi⟩
    · rw [zo j (by omega) k (by omega)]
      exact N j (by omega) k hk
