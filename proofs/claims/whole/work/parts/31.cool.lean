/-! loops over the houses; cooling and doors -/
def itF (f : Row → Nat → Row) : Nat → Nat → Row → Row
  | _, 0, w => w
  | k, d + 1, w => itF f (k + 1) d (f w k)
theorem upd_ne (w : Row) {k j : Nat} (v : Int32) (h : j ≠ k) : upd w k v j = w j := by
  unfold upd
  rw [if_neg h]
theorem upd_eq (w : Row) (k : Nat) (v : Int32) : upd w k v k = v := by
  unfold upd
  rw [if_pos rfl]
theorem upd_comm (w : Row) {k j : Nat} (v x : Int32) (h : k ≠ j) : upd (upd w k v) j x = upd (upd w j x) k v := by
  funext q
  unfold upd
  by_cases a : q = j
  · subst a
    rw [if_pos rfl, if_neg (Ne.symm h), if_pos rfl]
  · rw [if_neg a]
    by_cases b : q = k
    · rw [if_pos b, if_pos b]
    · rw [if_neg b, if_neg b, if_neg a]
theorem upd_self (w : Row) (k : Nat) : upd w k (w k) = w := by
  funext q
  unfold upd
  by_cases a : q = k
  · rw [if_pos a, a]
  · rw [if_neg a]
theorem upd_upd (w : Row) (k : Nat) (v x : Int32) : upd (upd w k v) k x = upd w k x := by
  funext q
  unfold upd
  by_cases a : q = k
  · rw [if_pos a, if_pos a]
  · rw [if_neg a, if_neg a, if_neg a]
theorem pt_sp_ne (w : Row) {i j k k' : Nat} (v : Int32) (hij : i ≠ j) (hk : k < 42) (hk' : k' < 42) : pt (sp w i k v) j k' = pt w j k' := by
  unfold pt sp
  exact upd_ne _ _ (by omega)
theorem sp_comm (w : Row) {i j k k' : Nat} (v x : Int32) (hij : i ≠ j) (hk : k < 42) (hk' : k' < 42) : sp (sp w i k v) j k' x = sp (sp w j k' x) i k v := upd_comm w v x (by omega)
theorem sp_self (w : Row) (i k : Nat) : sp w i k (pt w i k) = w := upd_self w _
theorem sp_lo (w : Row) (i k j : Nat) (v : Int32) (hj : j < 15) : sp w i k v j = w j := upd_ne _ _ (by omega)
theorem sp_upd (w : Row) (i k j : Nat) (v x : Int32) (hj : j < 15) : sp (upd w j x) i k v = upd (sp w i k v) j x := upd_comm w x v (by omega)
/-- two loops one behind another, or one loop -/
theorem itF_push {f g : Row → Nat → Row} (hc : ∀ w i j, i < j → f (g w i) j = g (f w j) i) : ∀ (d k i : Nat) (w : Row), i < k → itF f k d (g w i) = g (itF f k d w) i
  | 0, _, _, _, _ => rfl
  | d + 1, k, i, w, h => by
    show itF f (k + 1) d (f (g w i) k) = g (itF f (k + 1) d (f w k)) i
    rw [hc w i k h]
    exact itF_push hc d (k + 1) i (f w k) (by omega)
theorem itF_two {f g : Row → Nat → Row} (hc : ∀ w i j, i < j → f (g w i) j = g (f w j) i) : ∀ (d k : Nat) (w : Row), itF (fun w i => g (f w i) i) k d w = itF g k d (itF f k d w)
  | 0, _, _ => rfl
  | d + 1, k, w => by
    show itF (fun w i => g (f w i) i) (k + 1) d (g (f w k) k) = itF g (k + 1) d (g (itF f (k + 1) d (f w k)) k)
    rw [itF_two hc d (k + 1), itF_push hc d (k + 1) k (f w k) (by omega)]
/-- what is kept in every step is kept -/
theorem itF_keep {f : Row → Nat → Row} {P : Row → Prop} (hf : ∀ w i, P w → P (f w i)) : ∀ (d k : Nat) (w : Row), P w → P (itF f k d w)
  | 0, _, _, h => h
  | d + 1, k, w, h => itF_keep hf d (k + 1) (f w k) (hf w k h)
def coolN (wt wm : Nat) : Nat := if wt = 0 ∨ tmpN wt wm ≤ 15 then wm else wm - (tmpN wt wm - 15) * wt / 30
theorem cool_le {wt wm : Nat} (h0 : wt ≠ 0) : (tmpN wt wm - 15) * wt / 30 ≤ wm := by
  have h1 : (tmpN wt wm - 15) * wt ≤ tmpN wt wm * (4 * wt) := Nat.mul_le_mul (by omega) (by omega)
  have h2 : tmpN wt wm * (4 * wt) ≤ wm := by
    unfold tmpN
    rw [if_neg h0]
    exact Nat.div_mul_le_self _ _
  exact Nat.le_trans (Nat.div_le_self _ _) (Nat.le_trans h1 h2)
def coolF (w : Row) (i : Nat) : Row := sp w i 12 (nI (coolN (wtN w i) (wmN w i)))
def unlockF (w : Row) (i : Nat) : Row := if pt w i 13 = 2 ∧ pt w i 9 ≠ 1 ∧ ¬ (w 6 < nI (tmpN (wtN w i) (wmN w i))) then sp w i 13 1 else w
theorem cool_unlock (w : Row) (i j : Nat) (h : i < j) : coolF (unlockF w i) j = unlockF (coolF w j) i := by
  have hij : i ≠ j := by omega
  have e1 : ∀ k, k < 42 → pt (unlockF w i) j k = pt w j k := fun k hk => by
    unfold unlockF
    split
    · exact pt_sp_ne _ _ hij (by omega) hk
    · rfl
  have e2 : ∀ k, k < 42 → pt (coolF w j) i k = pt w i k := fun k hk => pt_sp_ne _ _ (Ne.symm hij) (by omega) hk
  have e3 : (coolF w j) 6 = w 6 := sp_lo _ _ _ _ _ (by omega)
  have a1 : wtN (unlockF w i) j = wtN w j := by unfold wtN; rw [e1 11 (by omega)]
  have a2 : wmN (unlockF w i) j = wmN w j := by unfold wmN; rw [e1 12 (by omega)]
  have a3 : wtN (coolF w j) i = wtN w i := by unfold wtN; rw [e2 11 (by omega)]
  have a4 : wmN (coolF w j) i = wmN w i := by unfold wmN; rw [e2 12 (by omega)]
  unfold unlockF
  rw [e2 13 (by omega), e2 9 (by omega), e3, a3, a4]
  unfold coolF at *
  rw [show wtN (unlockF w i) j = wtN w j from a1] at *
  by_cases q : pt w i 13 = 2 ∧ pt w i 9 ≠ 1 ∧ ¬ (w 6 < nI (tmpN (wtN w i) (wmN w i)))
  · rw [if_pos q, if_pos q]
    have b1 : wtN (sp w i 13 1) j = wtN w j := by unfold wtN; rw [pt_sp_ne _ _ hij (by omega) (by omega)]
    have b2 : wmN (sp w i 13 1) j = wmN w j := by unfold wmN; rw [pt_sp_ne _ _ hij (by omega) (by omega)]
    rw [b1, b2]
    exact sp_comm _ _ _ hij (by omega) (by omega)
  · rw [if_neg q, if_neg q]
/-- numbers of a house's water -/
def HW (w : Row) (i wt wm : Nat) : Prop := pt w i 11 = nI wt ∧ pt w i 12 = nI wm ∧ wt < 2 ^ 20 ∧ wm < 2 ^ 28
theorem HW.n {w : Row} {i wt wm : Nat} (q : HW w i wt wm) : wtN w i = wt ∧ wmN w i = wm := by
  obtain ⟨a, b, c, d⟩ := q
  unfold wtN wmN
  rw [a, b, nI_clamp (by omega), nI_clamp (by omega)]
  exact ⟨rfl, rfl⟩
theorem nI_15 {x : Nat} (h : x < 2 ^ 31) : (nI x - 15 ≤ 0) = (x ≤ 15) := by
  have : (nI x - 15 ≤ 0) ↔ x ≤ 15 := by
    rw [show (15 : Int32) = nI 15 from rfl, Int32.le_iff_toInt_le, nI_subT h (by omega), show (0 : Int32).toInt = 0 from by decide]
    omega
  exact propext this
theorem r_cool_step {h : Hp} (S : Sh h) {i wt wm n m : Nat} (hi : i < n) (h8 : n ≤ 8) {w : Row} (hn : w 2 = nI n) (q : HW w i wt wm) (a b : Row) : s_X9_cool_L2 (m + 1) 241 (nI i) (sQ h w a b) = s_X9_cool_L2 m 241 (nI (i + 1)) (sQ h (coolF w i) a b) := by
  obtain ⟨n1, n2⟩ := q.n
  obtain ⟨q1, q2, q3, q4⟩ := q
  have hi8 : i < 8 := by omega
  have hlt := tmpN_lt (wt := wt) (wm := wm) (by omega)
  rw [s_X9_cool_L2]
  unfold coolF coolN
  rw [n1, n2]
  have hz : (nI wt ≤ 0) = (wt = 0) := by
    rw [show (0 : Int32) = nI 0 from rfl, nI_leE (by omega) (by omega)]
    exact propext Nat.le_zero
  simp only [getR, ldI, inv, bnd, hT_sQ, hR_sQ, S.m0, S.m1, S.m2, hI_sQ2, cl_2, hn, nI_leE (show n < 2 ^ 31 by omega) (show i < 2 ^ 31 by omega), show ¬ (n ≤ i) by omega, r_temperature S hi8 q1 q2 (show wt < 2 ^ 24 by omega) (show wm < 2 ^ 30 by omega), rp_11 S hi8, q1, hz, nI_15 hlt, true_and, show ((242 : Nat) = 0) = False from eq_false (by decide), ne_eq, not_false_eq_true, if_true, if_false, show ((0 : Int32) ≤ 2) = True from eq_true (by decide), show ((2 : Nat) < 401) = True from eq_true (by decide), nI_1]
  by_cases c1 : wt = 0
  · rw [if_pos c1, if_pos (Or.inl c1), ← q2, sp_self]
  · rw [if_neg c1]
    by_cases c2 : tmpN wt wm ≤ 15
    · rw [if_pos c2, if_pos (Or.inr c2), ← q2, sp_self]
    · have hb : (tmpN wt wm - 15) * wt < 2 ^ 31 := by
        have h2 : tmpN wt wm * (4 * wt) ≤ wm := by
          unfold tmpN
          rw [if_neg c1]
          exact Nat.div_mul_le_self _ _
        have h1 : (tmpN wt wm - 15) * wt ≤ tmpN wt wm * (4 * wt) := Nat.mul_le_mul (by omega) (by omega)
        omega
      rw [if_neg c2, if_neg (by rintro (z | z); exact c1 z; exact c2 z)]
      have e1 : nI (tmpN wt wm) - 15 = nI (tmpN wt wm - 15) := by rw [show (15 : Int32) = nI 15 from rfl, nI_sub (by omega)]
      simp only [divI, inv, bnd, hT_sQ, S.m0, ra_12 S hi8, e1, nI_mul, show ((30 : Int32) = 0) = False from eq_false (by decide), if_false, if_true, show (30 : Int32) = nI 30 from rfl, nI_div hb (show 30 < 2 ^ 31 by omega) (show (30 : Nat) ≠ 0 by omega), q2]
      have e2 : nI wm + -nI ((tmpN wt wm - 15) * wt / 30) = nI (wm - (tmpN wt wm - 15) * wt / 30) := by
        rw [← nI_sub (cool_le c1), Int32.sub_eq_add_neg]
      rw [e2, if_neg (by decide)]
theorem r_unlock_step {h : Hp} (S : Sh h) {i wt wm n m : Nat} (hi : i < n) (h8 : n ≤ 8) {w : Row} (hn : w 2 = nI n) (q : HW w i wt wm) (a b : Row) : s_X9_unlock_L2 (m + 1) 241 (nI i) (sQ h w a b) = s_X9_unlock_L2 m 241 (nI (i + 1)) (sQ h (unlockF w i) a b) := by
  obtain ⟨n1, n2⟩ := q.n
  obtain ⟨q1, q2, q3, q4⟩ := q
  have hi8 : i < 8 := by omega
  rw [s_X9_unlock_L2]
  unfold unlockF
  rw [n1, n2]
  simp only [getR, ldI, inv, bnd, hT_sQ, hR_sQ, S.m0, S.m1, S.m2, hI_sQ2, cl_2, cl_6, hn, nI_leE (show n < 2 ^ 31 by omega) (show i < 2 ^ 31 by omega), show ¬ (n ≤ i) by omega, r_temperature S hi8 q1 q2 (show wt < 2 ^ 24 by omega) (show wm < 2 ^ 30 by omega), rp_13 S hi8, rs_13 S hi8, r_runs S hi8, true_and, show ((242 : Nat) = 0) = False from eq_false (by decide), ne_eq, not_false_eq_true, if_true, if_false, show ((0 : Int32) ≤ 2) = True from eq_true (by decide), show ((2 : Nat) < 401) = True from eq_true (by decide), show ((0 : Int32) ≤ 6) = True from eq_true (by decide), show ((6 : Nat) < 401) = True from eq_true (by decide), nI_1]
  by_cases c1 : pt w i 13 = 2
  · rw [if_pos c1]
    by_cases c2 : pt w i 9 = 1
    · rw [if_pos c2, if_neg (by decide), if_neg (by rintro ⟨-, z, -⟩; exact z c2)]
    · rw [if_neg c2, if_pos rfl]
      by_cases c3 : w 6 < nI (tmpN wt wm)
      · rw [if_pos c3, if_neg (by rintro ⟨-, -, z⟩; exact z c3)]
      · rw [if_neg c3, if_pos ⟨c1, c2, c3⟩]
  · rw [if_neg c1, if_neg (by rintro ⟨z, -⟩; exact c1 z)]
