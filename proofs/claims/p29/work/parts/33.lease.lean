/-! the reference's cooling and doors, whole; leases that end -/
theorem WH.coolAll {n t : Nat} (ht : t ≤ 40000) : ∀ (d k : Nat) (w : Row), k + d = n → (∀ i, i < n → WH w i t) → ∀ i, i < n → WH (itF coolF k d w) i t
  | 0, _, _, _, H => H
  | d + 1, k, w, hk, H => WH.coolAll ht d (k + 1) (coolF w k) (by omega) (fun i hi => (H k (by omega)).cool ht (H i hi))
theorem WH.unlockAll {n t : Nat} : ∀ (d k : Nat) (w : Row), k + d = n → (∀ i, i < n → WH w i t) → ∀ i, i < n → WH (itF unlockF k d w) i t
  | 0, _, _, _, H => H
  | d + 1, k, w, hk, H => WH.unlockAll d (k + 1) (unlockF w k) (by omega) (fun i hi => (H i hi).unlock)
/-- one place of a lease copied, and a whole lease -/
def cpS (w : Row) (l m k : Nat) : Row := upd w (351 + 5 * m + k) (w (351 + 5 * l + k))
def cpL (w : Row) (l m : Nat) : Row := cpS (cpS (cpS (cpS (cpS w l m 0) l m 1) l m 2) l m 3) l m 4
theorem cpS_ne (w : Row) {l m k j : Nat} (hj : j ≠ 351 + 5 * m + k) : cpS w l m k j = w j := upd_ne _ _ hj
theorem cpS_eq (w : Row) (l m k : Nat) : cpS w l m k (351 + 5 * m + k) = w (351 + 5 * l + k) := upd_eq _ _ _
theorem cpL_off (w : Row) {l m j : Nat} (hj : j < 351 + 5 * m ∨ 351 + 5 * m + 5 ≤ j) : cpL w l m j = w j := by
  unfold cpL
  rw [cpS_ne _ (by omega), cpS_ne _ (by omega), cpS_ne _ (by omega), cpS_ne _ (by omega), cpS_ne _ (by omega)]
theorem cpL_at (w : Row) {l m k : Nat} (hm : m ≤ l) (hk : k < 5) : cpL w l m (351 + 5 * m + k) = w (351 + 5 * l + k) := by
  unfold cpL
  rcases (show k = 0 ∨ k = 1 ∨ k = 2 ∨ k = 3 ∨ k = 4 by omega) with rfl | rfl | rfl | rfl | rfl
  · rw [cpS_ne _ (by omega), cpS_ne _ (by omega), cpS_ne _ (by omega), cpS_ne _ (by omega), cpS_eq]
  · rw [cpS_ne _ (by omega), cpS_ne _ (by omega), cpS_ne _ (by omega), cpS_eq, cpS_ne _ (by omega)]
  · rw [cpS_ne _ (by omega), cpS_ne _ (by omega), cpS_eq, cpS_ne _ (by omega), cpS_ne _ (by omega)]
  · rw [cpS_ne _ (by omega), cpS_eq, cpS_ne _ (by omega), cpS_ne _ (by omega), cpS_ne _ (by omega)]
  · rw [cpS_eq, cpS_ne _ (by omega), cpS_ne _ (by omega), cpS_ne _ (by omega), cpS_ne _ (by omega)]
def decL (w : Row) (l : Nat) : Row := upd w (351 + 5 * l + 3) (w (351 + 5 * l + 3) - 1)
def lsF : Nat → Nat → Nat → Row → Row × Nat
  | 0, _, many, w => (w, many)
  | d + 1, l, many, w => if decL w l (351 + 5 * l + 3) ≤ 0 then lsF d (l + 1) many (decL w l) else lsF d (l + 1) (many + 1) (cpL (decL w l) l many)
theorem ix_lease (l k : Nat) : (351 : Int32) + 5 * nI l + nI k = nI (351 + 5 * l + k) := by
  rw [show (351 : Int32) = nI 351 from rfl, show (5 : Int32) = nI 5 from rfl, nI_mul, nI_add, nI_add]
theorem decL_ne (w : Row) {l j : Nat} (hj : j ≠ 351 + 5 * l + 3) : decL w l j = w j := upd_ne _ _ hj
/-- a change of leases alone -/
theorem SR.lease {h h' : Hp} {T n nl : Nat} {w w' : Row} (t : isSt T) (S : Sh h) (R : SR h T w n nl) (a : Ch (fun x => ∃ j, j < 10 ∧ x = T + 23 + j) h h') (hw : ∀ j, j < 351 → w' j = w j) (hl : ∀ j, j < nl → ∀ k, k < 5 → hI h' (T + 23 + j) k = w' (351 + 5 * j + k)) : SR h' T w' n nl := by
  obtain ⟨q1, q2, q3, q4, q5, q6⟩ := R
  have hN0 : 245 ≤ hN h := S.2.2.2.2.2.2.2.2
  have hp := t.pos
  have n8 := q1.2.1
  have hP : ∀ x, (fun x => ∃ j, j < 10 ∧ x = T + 23 + j) x → Mut x := fun x hx => by
    obtain ⟨j, hj, rfl⟩ := hx
    exact ST.mut t (ST.L hj)
  refine ⟨by rw [hw 2 (by omega), hw 8 (by omega)]; exact q1, ?_, fun k hk => ?_, fun i hi => ?_, fun i h1 h2 => ?_, hl⟩
  · rw [(a.2.2 T (by omega) (by rintro ⟨j, hj, e⟩; omega)).1, hw 2 (by omega), hw 8 (by omega), hw 0 (by omega), hw 11 (by omega), hw 1 (by omega), hw 7 (by omega), hw 13 (by omega), hw 14 (by omega)]
    exact q2
  · rw [(a.2.2 (T + 1) (by omega) (by rintro ⟨j, hj, e⟩; omega)).1, hw _ (by omega)]
    exact q3 k hk
  · exact (q4 i hi).ch a hP (by rintro ⟨j, hj, e⟩; omega) (by rintro ⟨j, hj, e⟩; omega) (by omega) (by omega) (fun k hk => hw _ (by omega))
  · exact (q5 i h1 h2).ch a hP (by rintro ⟨j, hj, e⟩; omega) (by rintro ⟨j, hj, e⟩; omega) (by omega) (by omega)
theorem c_leaseCopy {h : Hp} {A B : Nat} (eA : hT h A = (3, 0)) (eB : hT h B = (3, 0)) : ∃ h2, s_X3_copyFrom A B h = some ((), h2) ∧ Ch (fun x => x = A) h h2 ∧ hR h2 = hR h ∧ hT h2 = hT h ∧ ∀ k, k < 5 → hI h2 A k = hI h B k := by
  refine ⟨sI (sI (sI (sI (sI h A 0 (hI h B 0)) A 1 (hI h B 1)) A 2 (hI h B 2)) A 3 (hI h B 3)) A 4 (hI h B 4), ?_, (((((Ch.rfl' (P := fun x => x = A)).sI A 0 _ rfl).sI A 1 _ rfl).sI A 2 _ rfl).sI A 3 _ rfl).sI A 4 _ rfl, rfl, rfl, fun k hk => ?_⟩
  · unfold s_X3_copyFrom
    simp only [getI, getL, getR, putI, putZ, putL, putR, ldI, ldR, stI, stR, divI, divL, bnd, inv, retI, retZ, retC, retR, retU, hT_sI, hT_sL, hT_sR, hR_sI, hR_sL, hN_sI, hN_sL, hN_sR, hI_sL, hI_sR, hL_sI, hL_sR, ↓reduceIte, true_and, and_true, and_self, ne_eq, not_false_eq_true, not_true_eq_false, reduceCtorEq, if_true, if_false, eA, eB, hI_sI]
    simp
  · rcases (show k = 0 ∨ k = 1 ∨ k = 2 ∨ k = 3 ∨ k = 4 by omega) with rfl | rfl | rfl | rfl | rfl <;> simp [hI_sI]
theorem c_leaseL {T n nl : Nat} (st : isSt T) : ∀ (d l m f : Nat) (h : Hp) (w : Row), l + d = nl → m ≤ l → d < f → Sh h → SR h T w n nl →
    ∃ h', s_X6_shortenLeases_L4 f T (nI m) (nI l) h = (putI h' T 6 4 (nI (lsF d l m w).2) fun h => retU h) ∧ Ch (fun x => ∃ j, j < 10 ∧ x = T + 23 + j) h h' ∧ hR h' = hR h ∧ hT h' = hT h ∧ SR h' T (lsF d l m w).1 n nl
  | 0, l, m, f, h, w, hk, hm, hf, S, R => by
    obtain ⟨q, rfl, -⟩ := fuel_succ hf
    have hn : hI h T 4 = nI nl := by rw [R.2.1.2.1, R.1.2.2.1]
    have h10 := R.1.2.2.2
    refine ⟨h, ?_, Ch.rfl', rfl, rfl, R⟩
    rw [s_X6_shortenLeases_L4]
    simp only [getI, S.t0 st, hn, if_true, nI_leE (show nl < 2 ^ 31 by omega) (show l < 2 ^ 31 by omega), show nl ≤ l by omega]
    rfl
  | d + 1, l, m, f, h, w, hk, hm, hf, S, R => by
    obtain ⟨q, rfl, hq⟩ := fuel_succ hf
    have hn : hI h T 4 = nI nl := by rw [R.2.1.2.1, R.1.2.2.1]
    have h10 := R.1.2.2.2
    have hl : l < 10 := by omega
    have hm10 : m < 10 := by omega
    have tp := st.pos
    have hl3 : hI h (T + 23 + l) 3 = w (351 + 5 * l + 3) := R.2.2.2.2.2 l (by omega) 3 (by omega)
    have ch1 : Ch (fun x => ∃ j, j < 10 ∧ x = T + 23 + j) h (sI h (T + 23 + l) 3 (w (351 + 5 * l + 3) - 1)) := (Ch.rfl' (P := fun x => ∃ j, j < 10 ∧ x = T + 23 + j)).sI _ 3 _ ⟨l, hl, rfl⟩
    have R1 : SR (sI h (T + 23 + l) 3 (w (351 + 5 * l + 3) - 1)) T (decL w l) n nl := R.lease st S ch1 (fun j hj => decL_ne _ (by omega)) (fun j hj k hk2 => by
      rw [hI_sI]
      by_cases e : j = l ∧ k = 3
      · rw [if_pos (by omega), e.1, e.2]
        exact (upd_eq _ _ _).symm
      · rw [if_neg (by omega), decL_ne _ (by omega)]
        exact R.2.2.2.2.2 j hj k hk2)
    have hd : decL w l (351 + 5 * l + 3) = w (351 + 5 * l + 3) - 1 := upd_eq _ _ _
    have S1 : Sh (sI h (T + 23 + l) 3 (w (351 + 5 * l + 3) - 1)) := S
    obtain ⟨h2, hcp, g1, g2, g3, g4⟩ := c_leaseCopy (h := sI h (T + 23 + l) 3 (w (351 + 5 * l + 3) - 1)) (A := T + 23 + m) (B := T + 23 + l) (S.tL st hm10) (S.tL st hl)
    rw [s_X6_shortenLeases_L4]
    unfold lsF
    simp only [getI, getL, getR, putI, putZ, putL, putR, ldI, ldR, stI, stR, divI, divL, bnd, inv, retI, retZ, retC, retR, retU, hT_sI, hT_sL, hT_sR, hR_sI, hR_sL, hN_sI, hN_sL, hN_sR, hI_sL, hI_sR, hL_sI, hL_sR, ↓reduceIte, true_and, and_true, and_self, ne_eq, not_false_eq_true, not_true_eq_false, reduceCtorEq, if_true, if_false, S.t0 st, S.t3 st, hn, nI_leE (show nl < 2 ^ 31 by omega) (show l < 2 ^ 31 by omega), show ¬ (nl ≤ l) by omega, S.r2 st, S.rL st hl, S.rL st hm10, S.tL st hl, S.tL st hm10, nI_ge0 (show l < 2 ^ 31 by omega), nI_ge0 (show m < 2 ^ 31 by omega), nI_clamp (show l < 2 ^ 31 by omega), nI_clamp (show m < 2 ^ 31 by omega), hl, hm10, show ¬ (T + 3 = 0) by omega, show ¬ (T + 23 + l = 0) by omega, show ¬ (T + 23 + m = 0) by omega, hl3, hI_sI, and_self, hd, hcp, nI_1]
    by_cases c : w (351 + 5 * l + 3) - 1 ≤ 0
    · simp only [if_pos c]
      obtain ⟨h', d1, d2, d3, d4, d5⟩ := c_leaseL st d (l + 1) m q _ _ (by omega) (by omega) (by omega) S1 R1
      exact ⟨h', d1, ch1.trans d2, d3, d4, d5⟩
    · simp only [if_neg c]
      have ch2 : Ch (fun x => ∃ j, j < 10 ∧ x = T + 23 + j) (sI h (T + 23 + l) 3 (w (351 + 5 * l + 3) - 1)) h2 := g1.mono (fun x hx => ⟨m, hm10, hx⟩)
      have Rl := R1.2.2.2.2.2 l (by omega)
      have R2 := R1.lease (w' := cpL (decL w l) l m) st S1 ch2 (fun j hj => cpL_off _ (by omega)) (fun j hj k hk2 => by
        by_cases e : j = m
        · subst e
          rw [cpL_at _ hm hk2, ← Rl k hk2, g4 k hk2]
        · have hN0 : 245 ≤ hN h := S.2.2.2.2.2.2.2.2
          rw [cpL_off _ (by omega), ← R1.2.2.2.2.2 j hj k hk2, (g1.2.2 (T + 23 + j) (by show T + 23 + j ≤ hN h; omega) (by omega)).1])
      obtain ⟨h', d1, d2, d3, d4, d5⟩ := c_leaseL st d (l + 1) (m + 1) q h2 _ (by omega) (by omega) (by omega) (S1.of g2 g3 g1.1) R2
      exact ⟨h', d1, (ch1.trans ch2).trans d2, d3.trans g2, d4.trans g3, d5⟩
