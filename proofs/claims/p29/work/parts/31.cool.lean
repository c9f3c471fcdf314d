/-! loops over the houses; cooling and doors -/
def itF (f : Row → Nat → Row) : Nat → Nat → Row → Row
  | _, 0, w => w
  | k, d + 1, w => itF f (k + 1) d (f w k)
theorem upd_ne (w : Row) {k j : Nat} (v : Int32) (h : j ≠ k) : upd w k v j = w j := by
  unfold upd
  rw [if_neg h]
theorem upd_eq (w : Row) (k : Nat) (v : Int32) : upd w k v k = v := by
  unfold upd
  rw [if_pos rfl]
theorem upd_comm (w : Row) {k j : Nat} (v x : Int32) (h : k ≠ j) : upd (upd w k v) j x = upd (upd w j x) k v := by
  funext q
  unfold upd
  by_cases a : q = j
  · subst a
    rw [if_pos rfl, if_neg (Ne.symm h), if_pos rfl]
  · rw [if_neg a]
    by_cases b : q = k
    · rw [if_pos b, if_pos b]
    · rw [if_neg b, if_neg b, if_neg a]
theorem upd_self (w : Row) (k : Nat) : upd w k (w k) = w := by
  funext q
  unfold upd
  by_cases a : q = k
  · rw [if_pos a, a]
  · rw [if_neg a]
theorem upd_upd (w : Row) (k : Nat) (v x : Int32) : upd (upd w k v) k x = upd w k x := by
  funext q
  unfold upd
  by_cases a : q = k
  · rw [if_pos a, if_pos a]
  · rw [if_neg a, if_neg a, if_neg a]
theorem pt_sp_ne (w : Row) {i j k k' : Nat} (v : Int32) (hij : i ≠ j) (hk : k < 42) (hk' : k' < 42) : pt (sp w i k v) j k' = pt w j k' := by
  unfold pt sp
  exact upd_ne _ _ (by omega)
theorem sp_comm (w : Row) {i j k k' : Nat} (v x : Int32) (hij : i ≠ j) (hk : k < 42) (hk' : k' < 42) : sp (sp w i k v) j k' x = sp (sp w j k' x) i k v := upd_comm w v x (by omega)
theorem sp_self (w : Row) (i k : Nat) : sp w i k (pt w i k) = w := upd_self w _
theorem sp_lo (w : Row) (i k j : Nat) (v : Int32) (hj : j < 15) : sp w i k v j = w j := upd_ne _ _ (by omega)
theorem sp_upd (w : Row) (i k j : Nat) (v x : Int32) (hj : j < 15) : sp (upd w j x) i k v = upd (sp w i k v) j x := upd_comm w x v (by omega)
/-- two loops one behind another, or one loop -/
theorem itF_push {f g : Row → Nat → Row} (hc : ∀ w i j, i < j → f (g w i) j = g (f w j) i) : ∀ (d k i : Nat) (w : Row), i < k → itF f k d (g w i) = g (itF f k d w) i
  | 0, _, _, _, _ => rfl
  | d + 1, k, i, w, h => by
    show itF f (k + 1) d (f (g w i) k) = g (itF f (k + 1) d (f w k)) i
    rw [hc w i k h]
    exact itF_push hc d (k + 1) i (f w k) (by omega)
theorem itF_two {f g : Row → Nat → Row} (hc : ∀ w i j, i < j → f (g w i) j = g (f w j) i) : ∀ (d k : Nat) (w : Row), itF (fun w i => g (f w i) i) k d w = itF g k d (itF f k d w)
  | 0, _, _ => rfl
  | d + 1, k, w => by
    show itF (fun w i => g (f w i) i) (k + 1) d (g (f w k) k) = itF g (k + 1) d (g (itF f (k + 1) d (f w k)) k)
    rw [itF_two hc d (k + 1), itF_push hc d (k + 1) k (f w k) (by omega)]
/-- what is kept in every step is kept -/
theorem itF_keep {f : Row → Nat → Row} {P : Row → Prop} (hf : ∀ w i, P w → P (f w i)) : ∀ (d k : Nat) (w : Row), P w → P (itF f k d w)
  | 0, _, _, h => h
  | d + 1, k, w, h => itF_keep hf d (k + 1) (f w k) (hf w k h)
def coolN (wt wm : Nat) : Nat := if wt = 0 ∨ tmpN wt wm ≤ 15 then wm else wm - (tmpN wt wm - 15) * wt / 30
theorem cool_le {wt wm : Nat} (h0 : wt ≠ 0) : (tmpN wt wm - 15) * wt / 30 ≤ wm := by
  have h1 : (tmpN wt wm - 15) * wt ≤ tmpN wt wm * (4 * wt) := Nat.mul_le_mul (by omega) (by omega)
  have h2 : tmpN wt wm * (4 * wt) ≤ wm := by
    unfold tmpN
    rw [if_neg h0]
    exact Nat.div_mul_le_self _ _
  exact Nat.le_trans (Nat.div_le_self _ _) (Nat.le_trans h1 h2)
def coolF (w : Row) (i : Nat) : Row := sp w i 12 (nI (coolN (wtN w i) (wmN w i)))
def unlockF (w : Row) (i : Nat) : Row := if pt w i 13 = 2 ∧ pt w i 9 ≠ 1 ∧ ¬ (w 6 < nI (tmpN (wtN w i) (wmN w i))) then sp w i 13 1 else w
theorem cool_unlock (w : Row) (i j : Nat) (h : i < j) : coolF (unlockF w i) j = unlockF (coolF w j) i := by
  have hij : i ≠ j := by omega
  have e1 : ∀ k, k < 42 → pt (unlockF w i) j k = pt w j k := fun k hk => by
    unfold unlockF
    split
    · exact pt_sp_ne _ _ hij (by omega) hk
    · rfl
  have e2 : ∀ k, k < 42 → pt (coolF w j) i k = pt w i k := fun k hk => pt_sp_ne _ _ (Ne.symm hij) (by omega) hk
  have e3 : (coolF w j) 6 = w 6 := sp_lo _ _ _ _ _ (by omega)
  have a1 : wtN (unlockF w i) j = wtN w j := by unfold wtN; rw [e1 11 (by omega)]
  have a2 : wmN (unlockF w i) j = wmN w j := by unfold wmN; rw [e1 12 (by omega)]
  have a3 : wtN (coolF w j) i = wtN w i := by unfold wtN; rw [e2 11 (by omega)]
  have a4 : wmN (coolF w j) i = wmN w i := by unfold wmN; rw [e2 12 (by omega)]
  unfold unlockF
  rw [e2 13 (by omega), e2 9 (by omega), e3, a3, a4]
  unfold coolF at *
  rw [show wtN (unlockF w i) j = wtN w j from a1] at *
  by_cases q : pt w i 13 = 2 ∧ pt w i 9 ≠ 1 ∧ ¬ (w 6 < nI (tmpN (wtN w i) (wmN w i)))
  · rw [if_pos q, if_pos q]
    have b1 : wtN (sp w i 13 1) j = wtN w j := by unfold wtN; rw [pt_sp_ne _ _ hij (by omega) (by omega)]
    have b2 : wmN (sp w i 13 1) j = wmN w j := by unfold wmN; rw [pt_sp_ne _ _ hij (by omega) (by omega)]
    rw [b1, b2]
    exact sp_comm _ _ _ hij (by omega) (by omega)
  · rw [if_neg q, if_neg q]
/-- numbers of a house's water -/
def HW (w : Row) (i wt wm : Nat) : Prop := pt w i 11 = nI wt ∧ pt w i 12 = nI wm ∧ wt < 2 ^ 20 ∧ wm < 2 ^ 28
theorem HW.n {w : Row} {i wt wm : Nat} (q : HW w i wt wm) : wtN w i = wt ∧ wmN w i = wm := by
  obtain ⟨a, b, c, d⟩ := q
  unfold wtN wmN
  rw [a, b, nI_clamp (by omega), nI_clamp (by omega)]
  exact ⟨rfl, rfl⟩
theorem nI_15 {x : Nat} (h : x < 2 ^ 31) : (nI x - 15 ≤ 0) = (x ≤ 15) := by
  have : (nI x - 15 ≤ 0) ↔ x ≤ 15 := by
    rw [show (15 : Int32) = nI 15 from rfl, Int32.le_iff_toInt_le, nI_subT h (by omega), show (0 : Int32).toInt = 0 from by decide]
    omega
  exact propext this
