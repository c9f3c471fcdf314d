/-! the reference's minute -/
/-- blocks of work speak of one house -/
theorem phN_sp (w : Row) {i j k : Nat} (v : Int32) (hji : j ≠ i) (hk : k < 42) : phN (sp w j k v) i = phN w i := by unfold phN; rw [pt_sp_ne _ _ hji hk (by omega)]
theorem wtN_sp (w : Row) {i j k : Nat} (v : Int32) (hji : j ≠ i) (hk : k < 42) : wtN (sp w j k v) i = wtN w i := by unfold wtN; rw [pt_sp_ne _ _ hji hk (by omega)]
theorem wmN_sp (w : Row) {i j k : Nat} (v : Int32) (hji : j ≠ i) (hk : k < 42) : wmN (sp w j k v) i = wmN w i := by unfold wmN; rw [pt_sp_ne _ _ hji hk (by omega)]
theorem spc (w : Row) {i j k k' : Nat} (v x : Int32) (hji : j ≠ i) (hk : k < 42) (hk' : k' < 42) : sp (sp w j k v) i k' x = sp (sp w i k' x) j k v := sp_comm w v x hji hk hk'
theorem fillsF_sp (w : Row) {i j k : Nat} (v m : Int32) (hji : j ≠ i) (hk : k < 42) : fillsF (sp w j k v) i m = sp (fillsF w i m) j k v := by
  unfold fillsF
  simp only [pt_sp_ne w v hji hk (show 16 < 42 by omega), pt_sp_ne w v hji hk (show 17 < 42 by omega), pt_sp_ne w v hji hk (show 11 < 42 by omega), pt_sp_ne w v hji hk (show 12 < 42 by omega)]
  rw [spc w _ _ hji hk (by omega), spc _ _ _ hji hk (by omega), spc _ _ _ hji hk (by omega), spc _ _ _ hji hk (by omega)]
theorem drainsF_sp (w : Row) {i j k : Nat} (v : Int32) (hji : j ≠ i) (hk : k < 42) : drainsF (sp w j k v) i = sp (drainsF w i) j k v := by
  unfold drainsF
  rw [wtN_sp w v hji hk, wmN_sp w v hji hk, spc w _ _ hji hk (by omega), spc _ _ _ hji hk (by omega)]
theorem chgF_sp (w : Row) {i j k : Nat} (v c m g : Int32) (hji : j ≠ i) (hk : k < 42) : chgF (sp w j k v) i c m g = sp (chgF w i c m g) j k v := by
  unfold chgF
  rw [fillsF_sp w v m hji hk, drainsF_sp w v hji hk, pt_sp_ne w v hji hk (by omega), spc w _ _ hji hk (by omega)]
  split
  · rfl
  · split
    · rfl
    · split <;> rfl
theorem incF_sp (w : Row) {i j k : Nat} (v : Int32) (hji : j ≠ i) (hk : k < 42) : incF (sp w j k v) i = sp (incF w i) j k v := by
  unfold incF
  rw [pt_sp_ne w v hji hk (by omega), spc w _ _ hji hk (by omega)]
theorem overF_sp (w : Row) {i j k : Nat} (v c m : Int32) (hji : j ≠ i) (hk : k < 42) : overF (sp w j k v) i c m = overF w i c m := by
  unfold overF
  rw [wtN_sp w v hji hk, wmN_sp w v hji hk, pt_sp_ne w v hji hk (by omega), pt_sp_ne w v hji hk (by omega), pt_sp_ne w v hji hk (by omega)]
theorem endF_sp (w : Row) {i j k : Nat} (v : Int32) (hji : j ≠ i) (hk : k < 42) : endF (sp w j k v) i = sp (endF w i) j k v := by
  unfold endF
  rw [pt_sp_ne w v hji hk (by omega), pt_sp_ne w v hji hk (by omega), pt_sp_ne w v hji hk (by omega), sp_lo _ _ _ _ _ (show 12 < 15 by omega)]
  split
  · rw [spc w _ _ hji hk (by omega), spc _ _ _ hji hk (by omega), sp_upd _ _ _ _ _ _ (show 12 < 15 by omega)]
  · rw [spc w _ _ hji hk (by omega), spc _ _ _ hji hk (by omega), spc _ _ _ hji hk (by omega)]
theorem goF_sp (w : Row) {i j k : Nat} (v c m g : Int32) (hji : j ≠ i) (hk : k < 42) : goF (sp w j k v) i c m g = sp (goF w i c m g) j k v := by
  unfold goF
  rw [chgF_sp w v c m g hji hk, incF_sp _ v hji hk, overF_sp _ v c m hji hk, endF_sp _ v hji hk]
  split <;> rfl
theorem worksF_sp (w : Row) {i j k : Nat} (v g : Int32) (hji : j ≠ i) (hk : k < 42) : worksF (sp w j k v) i g = sp (worksF w i g) j k v := by
  have h1 : phN w i ≤ 11 := Nat.min_le_right _ _
  unfold worksF
  rw [phN_sp w v hji hk, pt_sp_ne w v hji hk (show 18 + phN w i < 42 by omega), pt_sp_ne w v hji hk (show 30 + phN w i < 42 by omega), pt_sp_ne w v hji hk (by omega), goF_sp w v _ _ g hji hk, spc w _ _ hji hk (by omega)]
  split <;> rfl
theorem workF_sp (g : Nat → Nat) (w : Row) {i j k : Nat} (v : Int32) (hji : j ≠ i) (hk : k < 42) : workF g (sp w j k v) i = sp (workF g w i) j k v := by
  unfold workF
  rw [pt_sp_ne w v hji hk (by omega), worksF_sp w v _ hji hk]
  split <;> rfl
theorem work_heat (g : Nat → Nat) (w : Row) (i j : Nat) (h : i < j) : heatF g (workF g w i) j = workF g (heatF g w j) i := by
  have e : pt (workF g w i) j 3 = pt w j 3 := workF_off g w i _ (by omega) (by omega)
  unfold heatF
  rw [e, workF_sp g w _ (by omega) (by omega)]
theorem itF_upd {f : Row → Nat → Row} {j : Nat} (hf : ∀ w i v, f (upd w j v) i = upd (f w i) j v) : ∀ (d k : Nat) (w : Row) (v : Int32), itF f k d (upd w j v) = upd (itF f k d w) j v
  | 0, _, _, _ => rfl
  | d + 1, k, w, v => by
    show itF f (k + 1) d (f (upd w j v) k) = upd (itF f (k + 1) d (f w k)) j v
    rw [hf w k v]
    exact itF_upd hf d (k + 1) (f w k) v
theorem itF_as {f g : Row → Nat → Row} {P : Row → Prop} (hf : ∀ w i, P w → f w i = g w i ∧ P (g w i)) : ∀ (d k : Nat) (w : Row), P w → itF f k d w = itF g k d w
  | 0, _, _, _ => rfl
  | d + 1, k, w, h => by
    show itF f (k + 1) d (f w k) = itF g (k + 1) d (g w k)
    rw [(hf w k h).1]
    exact itF_as hf d (k + 1) (g w k) (hf w k h).2
theorem heatF_upd (g : Nat → Nat) {j : Nat} (hj : j < 15) (w : Row) (i : Nat) (v : Int32) : heatF g (upd w j v) i = upd (heatF g w i) j v := by
  unfold heatF
  rw [pt_upd _ _ _ _ _ hj, sp_upd _ _ _ _ _ _ hj]
theorem coolF_upd {j : Nat} (hj : j < 15) (w : Row) (i : Nat) (v : Int32) : coolF (upd w j v) i = upd (coolF w i) j v := by
  unfold coolF wtN wmN
  rw [pt_upd _ _ _ _ _ hj, pt_upd _ _ _ _ _ hj, sp_upd _ _ _ _ _ _ hj]
theorem rest_off {n : Nat} {w : Row} (h : w 1 = 0) : itF restF 0 n w = itF coolF 0 n w :=
  itF_as (P := fun w => w 1 = 0) (fun w i h => ⟨if_pos h, (coolF_off _ _ _ (by omega)).trans h⟩) n 0 w h
theorem rest_on {n : Nat} {w : Row} (h : w 1 ≠ 0) : itF restF 0 n w = itF unlockF 0 n (itF coolF 0 n w) := by
  rw [← itF_two cool_unlock n 0 w]
  exact itF_as (P := fun w => w 1 ≠ 0) (fun w i h => ⟨if_neg h, fun z => h (((unlockF_off _ _ 1 (by omega)).trans (coolF_off _ _ 1 (by omega))).symm.trans z)⟩) n 0 w h
/-- the row before the works, in the reference's order -/
theorem giv_ref {w w0 : Row} {n nl : Nat} : itF (fun w i => workF (getA w0 n nl).1 (heatF (getA w0 n nl).1 w i) i) 0 n w = itF (workF (getA w0 n nl).1) 0 n (itF (heatF (getA w0 n nl).1) 0 n w) := itF_two (work_heat _) n 0 w
