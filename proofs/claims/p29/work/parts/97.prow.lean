/-! a program in a row -/
def prgR (w : Row) (i : Nat) (L : List (Int32 × Int32)) : Nat → Row
  | 0 => w
  | k + 1 => sp (sp (prgR w i L k) i (18 + k) (L.getD k (0, 0)).1) i (30 + k) (L.getD k (0, 0)).2
def prgW (w : Row) (i : Nat) (L : List (Int32 × Int32)) : Row := sp (prgR w i L L.length) i 15 (nI L.length)
theorem prgR_off (w : Row) (i : Nat) (L : List (Int32 × Int32)) {j : Nat} (hj : j < 15 + 42 * i ∨ 15 + 42 * i + 42 ≤ j) : ∀ k, k ≤ 12 → prgR w i L k j = w j
  | 0, _ => rfl
  | k + 1, hk => by
    unfold prgR
    rw [sp_off _ _ _ _ _ (by omega) hj, sp_off _ _ _ _ _ (by omega) hj]
    exact prgR_off w i L hj k (by omega)
theorem prgR_pt (w : Row) (i : Nat) (L : List (Int32 × Int32)) : ∀ (k q : Nat), k ≤ 12 → pt (prgR w i L k) i q = if 18 ≤ q ∧ q < 18 + k then (L.getD (q - 18) (0, 0)).1 else if 30 ≤ q ∧ q < 30 + k then (L.getD (q - 30) (0, 0)).2 else pt w i q
  | 0, q, _ => by
    rw [if_neg (by omega), if_neg (by omega)]
    rfl
  | k + 1, q, hk => by
    unfold prgR
    rw [pt_sp, pt_sp, prgR_pt w i L k q (by omega)]
    by_cases q1 : q = 30 + k
    · rw [if_pos q1, if_neg (by omega), if_pos (by omega), show q - 30 = k by omega]
    · rw [if_neg q1]
      by_cases q2 : q = 18 + k
      · rw [if_pos q2, if_pos (by omega), show q - 18 = k by omega]
      · rw [if_neg q2]
        by_cases q3 : 18 ≤ q ∧ q < 18 + k
        · rw [if_pos q3, if_pos (by omega)]
        · rw [if_neg q3, if_neg (show ¬ (18 ≤ q ∧ q < 18 + (k + 1)) by omega)]
          by_cases q4 : 30 ≤ q ∧ q < 30 + k
          · rw [if_pos q4, if_pos (by omega)]
          · rw [if_neg q4, if_neg (by omega)]
theorem prgW_off (w : Row) (i : Nat) {L : List (Int32 × Int32)} (hl : L.length ≤ 12) {j : Nat} (hj : j < 15 + 42 * i ∨ 15 + 42 * i + 42 ≤ j) : prgW w i L j = w j := by
  unfold prgW
  rw [sp_off _ _ _ _ _ (by omega) hj, prgR_off w i L hj _ hl]
theorem prgW_15 (w : Row) (i : Nat) (L : List (Int32 × Int32)) : pt (prgW w i L) i 15 = nI L.length := by
  unfold prgW
  rw [pt_sp, if_pos rfl]
theorem prgW_k (w : Row) (i : Nat) {L : List (Int32 × Int32)} (hl : L.length ≤ 12) {k : Nat} (hk : k < L.length) : pt (prgW w i L) i (18 + k) = (L.getD k (0, 0)).1 ∧ pt (prgW w i L) i (30 + k) = (L.getD k (0, 0)).2 := by
  unfold prgW
  rw [pt_sp, pt_sp, if_neg (by omega), if_neg (by omega), prgR_pt w i L _ _ hl, prgR_pt w i L _ _ hl, if_pos (by omega), if_neg (by omega), if_pos (by omega), show 18 + k - 18 = k by omega, show 30 + k - 30 = k by omega]
  exact ⟨rfl, rfl⟩
theorem prgW_lo (w : Row) (i : Nat) {L : List (Int32 × Int32)} (hl : L.length ≤ 12) {q : Nat} (hq : q < 18) (h15 : q ≠ 15) : pt (prgW w i L) i q = pt w i q := by
  unfold prgW
  rw [pt_sp, if_neg h15, prgR_pt w i L _ _ hl, if_neg (by omega), if_neg (by omega)]
theorem PV.ok {k v : Int32} (h : PV k v) : kOK k v := by
  rcases h with ⟨rfl, rfl⟩ | ⟨hk, x, rfl, x1, x2⟩
  · exact ⟨Or.inl rfl, 0, rfl, by omega, fun z => absurd z (by decide)⟩
  · refine ⟨?_, x, rfl, x2, fun _ => x1⟩
    rcases isK_is hk with z | z | z | z
    · exact Or.inr (Or.inl z)
    · exact Or.inr (Or.inr (Or.inl z))
    · exact Or.inr (Or.inr (Or.inr (Or.inr z)))
    · exact Or.inr (Or.inr (Or.inr (Or.inl z)))
theorem WH.prog {w : Row} {i t : Nat} {L : List (Int32 × Int32)} (hl : L.length ≤ 12) (V : ∀ j, j < L.length → PV (L.getD j (0, 0)).1 (L.getD j (0, 0)).2) (q : WH w i t) (h9 : pt w i 9 ≠ 1) : WH (prgW w i L) i t := by
  obtain ⟨q1, q2, ⟨wt, wm, w1, w2, w3, w4, w5⟩, -⟩ := q
  have f : ∀ k, k < 18 → k ≠ 15 → pt (prgW w i L) i k = pt w i k := fun k hk h15 => prgW_lo w i hl hk h15
  refine ⟨by rw [f 0 (by omega) (by omega)]; exact q1, by rw [f 9 (by omega) (by omega)]; exact q2, ⟨wt, wm, by rw [f 11 (by omega) (by omega)]; exact w1, by rw [f 12 (by omega) (by omega)]; exact w2, w3, w4, w5⟩, L.length, prgW_15 w i L, hl, fun k hk => ?_, fun z => ?_⟩
  · rw [(prgW_k w i hl hk).1, (prgW_k w i hl hk).2]
    exact (V k hk).ok
  · rw [f 9 (by omega) (by omega)] at z
    exact absurd z h9
