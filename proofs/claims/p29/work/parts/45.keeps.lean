/-! what a row keeps -/
theorem itF_keepn {f : Row → Nat → Row} {P : Row → Prop} {n : Nat} (hf : ∀ w i, i < n → P w → P (f w i)) : ∀ (d k : Nat) (w : Row), k + d ≤ n → P w → P (itF f k d w)
  | 0, _, _, _, h => h
  | d + 1, k, w, hk, h => itF_keepn hf d (k + 1) (f w k) (by omega) (hf w k (by omega) h)
theorem sumL_congr {f g : Nat → Int32} : ∀ (d k : Nat) (x : Int32), (∀ j, k ≤ j → j < k + d → f j = g j) → sumL f d k x = sumL g d k x
  | 0, _, _, _ => rfl
  | d + 1, k, x, h => by
    unfold sumL
    rw [h k (Nat.le_refl k) (by omega)]
    exact sumL_congr d (k + 1) _ (fun j h1 h2 => h j (by omega) (by omega))
theorem sumL_add {f : Nat → Int32} : ∀ (d k : Nat) (x y : Int32), sumL f d k (x + y) = sumL f d k x + y
  | 0, _, _, _ => rfl
  | d + 1, k, x, y => by
    unfold sumL
    rw [Int32.add_assoc, Int32.add_comm y (f k), ← Int32.add_assoc]
    exact sumL_add d (k + 1) _ y
theorem sumL_one {f g : Nat → Int32} {i : Nat} {v : Int32} (hi : g i = f i + v) (ho : ∀ j, j ≠ i → g j = f j) : ∀ (d k : Nat) (x : Int32), k ≤ i → i < k + d → sumL g d k x = sumL f d k x + v
  | 0, _, _, _, _ => by omega
  | d + 1, k, x, h1, h2 => by
    unfold sumL
    by_cases q : k = i
    · subst q
      rw [hi, ← Int32.add_assoc, sumL_add]
      rw [sumL_congr (f := g) (g := f) d (k + 1) _ (fun j j1 _ => ho j (by omega))]
    · rw [ho k q]
      exact sumL_one hi ho d (k + 1) _ (by omega) (by omega)
def sumP (w : Row) (k n : Nat) : Int32 := sumL (fun i => pt w i k) n 0 0
theorem sumP_congr {w w' : Row} {k n : Nat} (h : ∀ i, i < n → pt w' i k = pt w i k) : sumP w' k n = sumP w k n := sumL_congr n 0 0 (fun j _ h2 => h j (by omega))
theorem sumP_one {w w' : Row} {k n i : Nat} {v : Int32} (hi : i < n) (h : pt w' i k = pt w i k + v) (ho : ∀ j, j ≠ i → pt w' j k = pt w j k) : sumP w' k n = sumP w k n + v := sumL_one (f := fun i => pt w i k) (g := fun i => pt w' i k) h ho n 0 0 (by omega) (by omega)
/-- places that a washer's minute leaves alone -/
theorem chgF_pt (w : Row) (i : Nat) (c m g : Int32) {k : Nat} (h11 : k ≠ 11) (h12 : k ≠ 12) (h16 : k ≠ 16) (h17 : k ≠ 17) : pt (chgF w i c m g) i k = pt w i k := by
  unfold chgF fillsF drainsF
  split
  · simp only [pt_sp, if_neg h11, if_neg h12, if_neg h16, if_neg h17]
  · split
    · simp only [pt_sp, if_neg h11, if_neg h12]
    · split
      · simp only [pt_sp, if_neg h12]
      · rfl
theorem goF_pt (w : Row) (i : Nat) (c m g : Int32) {k : Nat} (h4 : k ≠ 4) (h9 : k ≠ 9) (h10 : k ≠ 10) (h11 : k ≠ 11) (h12 : k ≠ 12) (h14 : k ≠ 14) (h16 : k ≠ 16) (h17 : k ≠ 17) : pt (goF w i c m g) i k = pt w i k := by
  have e : pt (incF (chgF w i c m g) i) i k = pt w i k := by
    unfold incF
    rw [pt_sp, if_neg h14]
    exact chgF_pt w i c m g h11 h12 h16 h17
  unfold goF
  split
  · exact e
  · unfold endF
    split
    · rw [pt_upd _ _ _ _ _ (by omega), pt_sp, if_neg h4, pt_sp, if_neg h9]
      exact e
    · rw [pt_sp, if_neg h16, pt_sp, if_neg h14, pt_sp, if_neg h10]
      exact e
theorem workF_pt (g : Nat → Nat) (w : Row) (i : Nat) {k : Nat} (h4 : k ≠ 4) (h9 : k ≠ 9) (h10 : k ≠ 10) (h11 : k ≠ 11) (h12 : k ≠ 12) (h14 : k ≠ 14) (h16 : k ≠ 16) (h17 : k ≠ 17) : pt (workF g w i) i k = pt w i k := by
  unfold workF worksF
  split
  · split
    · rw [pt_sp, if_neg h9]
    · exact goF_pt w i _ _ _ h4 h9 h10 h11 h12 h14 h16 h17
  · rfl
theorem goF_done (w : Row) (i : Nat) (c m g : Int32) : (pt (goF w i c m g) i 4 = pt w i 4 ∧ goF w i c m g 12 = w 12) ∨ (pt (goF w i c m g) i 4 = pt w i 4 + 1 ∧ goF w i c m g 12 = w 12 + 1) := by
  have e : pt (incF (chgF w i c m g) i) i 4 = pt w i 4 := by
    unfold incF
    rw [pt_sp, if_neg (by omega)]
    exact chgF_pt w i c m g (by omega) (by omega) (by omega) (by omega)
  have e2 : incF (chgF w i c m g) i 12 = w 12 := chgF_off w i c m g 12 (by omega)
  unfold goF
  split
  · exact Or.inl ⟨e, e2⟩
  · unfold endF
    split
    · refine Or.inr ⟨?_, ?_⟩
      · rw [pt_upd _ _ _ _ _ (by omega), pt_sp, if_pos rfl, e]
      · rw [upd_eq, e2]
    · refine Or.inl ⟨?_, ?_⟩
      · rw [pt_sp, if_neg (by omega), pt_sp, if_neg (by omega), pt_sp, if_neg (by omega), e]
      · rw [sp_lo _ _ _ _ _ (by omega), sp_lo _ _ _ _ _ (by omega), sp_lo _ _ _ _ _ (by omega), e2]
theorem workF_done (g : Nat → Nat) (w : Row) (i : Nat) : (pt (workF g w i) i 4 = pt w i 4 ∧ workF g w i 12 = w 12) ∨ (pt (workF g w i) i 4 = pt w i 4 + 1 ∧ workF g w i 12 = w 12 + 1) := by
  unfold workF worksF
  split
  · split
    · refine Or.inl ⟨?_, ?_⟩
      · rw [pt_sp, if_neg (by omega)]
      · exact sp_lo _ _ _ _ _ (by omega)
    · exact goF_done w i _ _ _
  · exact Or.inl ⟨rfl, rfl⟩
theorem works_sum (g : Nat → Nat) {n : Nat} (d k : Nat) (w : Row) (hk : k + d ≤ n) (h : w 12 = sumP w 4 n) : itF (workF g) k d w 12 = sumP (itF (workF g) k d w) 4 n := by
  refine itF_keepn (P := fun w => w 12 = sumP w 4 n) (fun w i hi h => ?_) d k w hk h
  have ho : ∀ j, j ≠ i → pt (workF g w i) j 4 = pt w j 4 := fun j hj => workF_off g w i _ (by omega) (by omega)
  rcases workF_done g w i with ⟨a, b⟩ | ⟨a, b⟩
  · show workF g w i 12 = sumP (workF g w i) 4 n
    rw [b, h]
    refine (sumP_congr (fun j _ => ?_)).symm
    by_cases q : j = i
    · rw [q]; exact a
    · exact ho j q
  · show workF g w i 12 = sumP (workF g w i) 4 n
    rw [b, h, sumP_one hi a ho]
/-- a place k of every house -/
def keepsK (f : Row → Nat → Row) (k : Nat) : Prop := ∀ w i j, pt (f w i) j k = pt w j k
theorem keepsK.it {f : Row → Nat → Row} {k : Nat} (h : keepsK f k) : ∀ (d l : Nat) (w : Row) (j : Nat), pt (itF f l d w) j k = pt w j k
  | 0, _, _, _ => rfl
  | d + 1, l, w, j => (h.it d (l + 1) (f w l) j).trans (h w l j)
theorem heatF_keeps (g : Nat → Nat) {k : Nat} (hk : k < 42) (h3 : k ≠ 3) : keepsK (heatF g) k := fun w i j => by
  by_cases q : j = i
  · rw [q]; unfold heatF; rw [pt_sp, if_neg h3]
  · exact heatF_off _ _ _ _ (by omega)
theorem workF_keeps (g : Nat → Nat) {k : Nat} (hk : k < 42) (h4 : k ≠ 4) (h9 : k ≠ 9) (h10 : k ≠ 10) (h11 : k ≠ 11) (h12 : k ≠ 12) (h14 : k ≠ 14) (h16 : k ≠ 16) (h17 : k ≠ 17) : keepsK (workF g) k := fun w i j => by
  by_cases q : j = i
  · rw [q]; exact workF_pt g w i h4 h9 h10 h11 h12 h14 h16 h17
  · exact workF_off _ _ _ _ (by omega) (by omega)
theorem restF_keeps {k : Nat} (hk : k < 42) (h12 : k ≠ 12) (h13 : k ≠ 13) : keepsK restF k := fun w i j => by
  by_cases q : j = i
  · rw [q]
    unfold restF
    split
    · exact coolF_pt _ _ _ h12
    · exact (unlockF_pt _ _ _ h13).trans (coolF_pt _ _ _ h12)
  · exact restF_off _ _ _ (by omega)
theorem minR_pt (w : Row) (n nl : Nat) {i k : Nat} (hi : i < n) (h8 : n ≤ 8) (hk : k < 42) : pt (minR w n nl) i k = pt (aftR w n nl) i k := by
  unfold minR
  rw [pt_upd _ _ _ _ _ (by omega), pt_upd _ _ _ _ _ (by omega)]
  exact lsF_lo _ _ _ _ _ (by omega)
theorem givR_pt (w : Row) (n nl i : Nat) {k : Nat} (hk : k < 42) (h3 : k ≠ 3) : pt (givR w n nl) i k = pt w i k := by
  unfold givR
  rw [pt_upd _ _ _ _ _ (by omega), pt_upd _ _ _ _ _ (by omega), (heatF_keeps _ hk h3).it, pt_upd _ _ _ _ _ (by omega)]
theorem minR_keeps (w : Row) (n nl : Nat) {i k : Nat} (hi : i < n) (h8 : n ≤ 8) (hk : k < 42) (h3 : k ≠ 3) (h13 : k ≠ 13) (h4 : k ≠ 4) (h9 : k ≠ 9) (h10 : k ≠ 10) (h11 : k ≠ 11) (h12 : k ≠ 12) (h14 : k ≠ 14) (h16 : k ≠ 16) (h17 : k ≠ 17) : pt (minR w n nl) i k = pt w i k := by
  rw [minR_pt w n nl hi h8 hk]
  unfold aftR
  rw [(restF_keeps hk h12 h13).it]
  unfold midR
  split
  · exact pt_upd _ _ _ _ _ (by omega)
  · rw [(workF_keeps _ hk h4 h9 h10 h11 h12 h14 h16 h17).it]
    exact givR_pt w n nl i hk h3
theorem minR_lo (w : Row) (n nl : Nat) {j : Nat} (hj : j < 15) (h8 : j ≠ 8) (h0 : j ≠ 0) : minR w n nl j = midR w n nl j := by
  unfold minR
  rw [upd_ne _ _ h0, upd_ne _ _ h8, lsF_lo _ _ _ _ _ (by omega)]
  exact aftR_lo w n nl j hj
theorem minR_sum (w : Row) {n nl : Nat} (h8 : n ≤ 8) (h : w 12 = sumP w 4 n) : minR w n nl 12 = sumP (minR w n nl) 4 n := by
  rw [minR_lo w n nl (by omega) (by omega) (by omega)]
  have e : sumP (minR w n nl) 4 n = sumP (midR w n nl) 4 n := sumP_congr (fun i hi => by
    rw [minR_pt w n nl hi h8 (by omega)]
    unfold aftR
    exact (restF_keeps (by omega) (by omega) (by omega)).it _ _ _ _)
  rw [e]
  unfold midR
  split
  · rw [upd_ne _ _ (by omega), h]
    exact (sumP_congr (fun i _ => pt_upd _ _ _ _ _ (by omega))).symm
  · refine works_sum _ n 0 _ (by omega) ?_
    rw [givR_lo w n nl 12 (by omega) (by omega) (by omega) (by omega), h]
    exact (sumP_congr (fun i _ => givR_pt w n nl i (by omega) (by omega))).symm
