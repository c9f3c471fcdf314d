/-! the class's calls: what is told -/
theorem q_house0 {h : Hp} {t : Nat} {e : Ent} (C : CST h e) (W : WFe e t) {i : Nat} (hi : i < e.2.1) : s_X8_house 1 (nI i) 0 h = some (sharesF e.1 e.2.2 i, h) := by
  have S := C.sh
  have st2 : isSt 2 := Or.inl rfl
  have q := inH_is W.1.1 hi
  unfold s_X8_house
  simp only [S.x0, inv6 S, c_has S C.sr, hasI_1 q, bnd, if_true, if_false, show ((1 : Int32) = 0) = False from eq_false (by decide), c_sharesOf6 S st2 C.sr hi, retI]
theorem q_house {h : Hp} {t : Nat} {e : Ent} (C : CST h e) (W : WFe e t) {i : Nat} (hi : i < e.2.1) {k : Nat} (hk : k < 9) : s_X8_house 1 (nI i) (nI (k + 1)) h = some (pt e.1 i k, h) := by
  have S := C.sh
  have st2 : isSt 2 := Or.inl rfl
  have n8 := W.1.1
  have hi8 : i < 8 := by omega
  have q := inH_is n8 hi
  obtain ⟨v1, v2, v3, v4, v5, v6, v7, v8, v9⟩ := (C.sr.hr hi).c
  have n0 : ¬ nI (k + 1) = 0 := fun y => by have := (nI_0' (k + 1) (by omega)).mp y; omega
  have tell : s_X2_tell (2 + 7 + 2 * i) (nI (k + 1)) h = some (pt e.1 i k, h) := by
    unfold s_X2_tell
    simp only [S.getH hi8, v1, v2, v3, v4, v5, v6, v7, v8, v9, retI]
    rcases (show k = 0 ∨ k = 1 ∨ k = 2 ∨ k = 3 ∨ k = 4 ∨ k = 5 ∨ k = 6 ∨ k = 7 ∨ k = 8 by omega) with rfl | rfl | rfl | rfl | rfl | rfl | rfl | rfl | rfl <;> rfl
  unfold s_X8_house
  simp only [S.x0, inv6 S, c_has S C.sr, hasI_1 q, bnd, n0, if_false, show ((1 : Int32) = 0) = False from eq_false (by decide), c_house S st2 hi8, inv, S.tH st2 hi8, S.t0 st2, if_true, tell, retI]
theorem q_lease {h : Hp} {t : Nat} {e : Ent} (C : CST h e) (W : WFe e t) {j k : Nat} (hj : j < e.2.2) (hk : k < 5) : s_X8_lease 1 (nI j) (nI k) h = some (e.1 (351 + 5 * j + k), h) := by
  have S := C.sh
  have h10 : e.2.2 ≤ 10 := W.1.2.1
  have e8 : e.1 8 = nI e.2.2 := W.1.2.2.2
  have st2 : isSt 2 := Or.inl rfl
  have h4 : hI h 2 4 = nI e.2.2 := by rw [C.sr.2.1.2.1]; exact e8
  have hj10 : j < 10 := by omega
  have q : 0 ≤ nI j ∧ nI j ≤ nI e.2.2 - 1 := by
    refine ⟨nI_pos' (by omega), ?_⟩
    rw [Int32.le_iff_toInt_le, show (1 : Int32) = nI 1 from rfl, nI_subT (by omega) (by omega), nI_toInt (by omega)]
    omega
  have ll : ∀ k, k < 5 → hI h (2 + 23 + j) k = e.1 (351 + 5 * j + k) := fun k hk => C.sr.2.2.2.2.2 j hj k hk
  have tell : s_X3_tell (2 + 23 + j) (nI k) h = some (e.1 (351 + 5 * j + k), h) := by
    unfold s_X3_tell
    simp only [getI, S.tL st2 hj10, if_true, ll 0 (by omega), ll 1 (by omega), ll 2 (by omega), ll 3 (by omega), ll 4 (by omega), retI]
    rcases (show k = 0 ∨ k = 1 ∨ k = 2 ∨ k = 3 ∨ k = 4 by omega) with rfl | rfl | rfl | rfl | rfl <;> rfl
  unfold s_X8_lease
  simp only [S.x0, get6 S, h4, win8, q, and_self, bnd, if_true, show ((1 : Int32) = 0) = False from eq_false (by decide), if_false, getR, ldR, inv, S.t0 st2, S.t3 st2, S.r2 st2, S.rL st2 hj10, S.tL st2 hj10, nI_ge0 (show j < 2 ^ 31 by omega), nI_clamp (show j < 2 ^ 31 by omega), hj10, show ¬ (2 + 3 = 0) by omega, show ¬ (2 + 23 + j = 0) by omega, true_and, ne_eq, not_false_eq_true, S.2.2.1.1, S.2.2.1.2.1, show ((2 : Nat) = 0) = False from eq_false (by decide), tell, retI]
theorem q_lease_no {h : Hp} {t : Nat} {e : Ent} (C : CST h e) (W : WFe e t) (a2 : Int32) : s_X8_lease 1 (nI e.2.2) a2 h = some (-1, h) := by
  have S := C.sh
  have h10 : e.2.2 ≤ 10 := W.1.2.1
  have e8 : e.1 8 = nI e.2.2 := W.1.2.2.2
  have h4 : hI h 2 4 = nI e.2.2 := by rw [C.sr.2.1.2.1]; exact e8
  have q : ¬ (0 ≤ nI e.2.2 ∧ nI e.2.2 ≤ nI e.2.2 - 1) := fun z => by
    have := Int32.le_iff_toInt_le.mp z.2
    rw [show (1 : Int32) = nI 1 from rfl, nI_subT (by omega) (by omega), nI_toInt (by omega)] at this
    omega
  unfold s_X8_lease
  simp only [S.x0, get6 S, h4, win8, q, bnd, if_true, if_false]
  rfl
/-- what washer tells -/
def tellW (w : Row) (i : Nat) : Nat → Int32
  | 0 => pt w i 9
  | 1 => if pt w i 9 = 0 then -5 else pt w i 10
  | 2 => pt w i 11
  | 3 => nI (tmpN (wtN w i) (wmN w i))
  | 4 => pt w i 12
  | 5 => pt w i 13
  | 6 => if pt w i 9 = 0 then -5 else pt w i 14
  | _ => pt w i 17
theorem q_washer {h : Hp} {t : Nat} (ht : t ≤ 38000) {e : Ent} (C : CST h e) (W : WFe e t) {i : Nat} (hi : i < e.2.1) {k : Nat} (hk : k < 9) (h7 : k ≠ 7) : s_X8_washer 1 (nI i) (nI k) h = some (tellW e.1 i k, h) := by
  have S := C.sh
  have st2 : isSt 2 := Or.inl rfl
  have n8 := W.1.1
  have hi8 : i < 8 := by omega
  have q := inH_is n8 hi
  have WRi := (C.sr.hr hi).w
  obtain ⟨⟨b1, b2, b3, b4, b5, b6⟩, b7⟩ := id WRi
  have hw0 := W.2.2.2.2.1 i hi
  have ct := c_tmp S hi8 hw0 (by omega) WRi
  have tell : s_X7_tell (2 + 8 + 2 * i) (nI k) h = some (tellW e.1 i k, h) := by
    unfold s_X7_tell
    simp only [getW S hi8, invW S hi8, ct, b1, b3, b5, b6, bnd, retI, WRi.len S hi8]
    rcases (show k = 0 ∨ k = 1 ∨ k = 2 ∨ k = 3 ∨ k = 4 ∨ k = 5 ∨ k = 6 ∨ k = 8 by omega) with rfl | rfl | rfl | rfl | rfl | rfl | rfl | rfl
    · rfl
    · rw [if_neg (by decide), if_pos (show nI 1 = 1 from rfl)]
      unfold tellW
      by_cases z : pt e.1 i 9 = 0
      · simp only [if_pos z]
      · simp only [if_neg z, (b2 z).1]
    · rfl
    · rfl
    · rw [if_neg (by decide), if_neg (by decide), if_neg (by decide), if_neg (by decide), if_pos (show nI 4 = 4 from rfl)]
      simp only [getL, S.tW st2 hi8, if_true, b4, Int32.toInt32_toInt64]
      rfl
    · rfl
    · rw [if_neg (by decide), if_neg (by decide), if_neg (by decide), if_neg (by decide), if_neg (by decide), if_neg (by decide), if_pos (show nI 6 = 6 from rfl)]
      unfold tellW
      by_cases z : pt e.1 i 9 = 0
      · simp only [if_pos z]
      · simp only [if_neg z, (b2 z).2]
    · rfl
  unfold s_X8_washer
  simp only [S.x0, inv6 S, c_has S C.sr, hasI_1 q, bnd, if_true, if_false, show ((1 : Int32) = 0) = False from eq_false (by decide), c_washerOf S st2 hi8, invW S hi8, tell, retI]
theorem q_boiler {h : Hp} {t : Nat} (ht : t ≤ 38000) {e : Ent} (C : CST h e) (W : WFe e t) : s_X8_boiler 1 0 h = some (e.1 7, h) ∧ s_X8_boiler 1 4 h = some (e.1 13, h) ∧ s_X8_boiler 1 5 h = some (e.1 14, h) ∧ s_X8_boiler 1 6 h = some (nI (sumNN (wanN e.1) e.2.1 0), h) := by
  have S := C.sh
  obtain ⟨z1, z2, z3, z4, z5, z6, z7, z8⟩ := C.sr.2.1
  have cw : s_X6_wantedHeat 2 h = some (nI (0 + sumNN (wanN e.1) e.2.1 0), h) := c_wantL (by omega) S C.sr W e.2.1 0 100000 0 (by omega) (by have := W.1.1; omega)
  refine ⟨?_, ?_, ?_, ?_⟩
  · unfold s_X8_boiler
    rw [if_pos rfl, S.x0, get6 S, z6]
    rfl
  · unfold s_X8_boiler
    rw [if_neg (by decide), if_neg (by decide), if_neg (by decide), if_neg (by decide), if_pos rfl, S.x0, get6 S, z7]
    rfl
  · unfold s_X8_boiler
    rw [if_neg (by decide), if_neg (by decide), if_neg (by decide), if_neg (by decide), if_neg (by decide), if_pos rfl, S.x0, get6 S, z8]
    rfl
  · unfold s_X8_boiler
    rw [if_neg (by decide), if_neg (by decide), if_neg (by decide), if_neg (by decide), if_neg (by decide), if_neg (by decide), if_pos rfl, S.x0, inv6 S, cw, Nat.zero_add]
    rfl
theorem q_count {h : Hp} {t : Nat} {e : Ent} (C : CST h e) (W : WFe e t) : s_X8_count 1 0 h = some (e.1 0, h) ∧ s_X8_count 1 7 h = some (e.1 8, h) ∧ s_X8_count 1 8 h = some (e.1 9, h) ∧ s_X8_count 1 9 h = some (e.1 10, h) ∧ s_X8_count 1 10 h = some (e.1 11, h) := by
  have S := C.sh
  obtain ⟨⟨n8, h10, e2, e8⟩, hp, -, -, -, s4, s5, s6, N⟩ := W
  obtain ⟨g1, g2, g3, g4, g5, g6, g7, g8⟩ := C.sr.2.1
  have cs : ∀ p, p < 9 → s_X6_sumOf 2 (nI (p + 1)) h = some (sumP e.1 p e.2.1, h) := fun p hp => c_sumOfL S C.sr hp e.2.1 0 100000 0 (by omega) (by omega)
  have cs6 : s_X6_sumOf 2 6 h = some (e.1 9, h) := by rw [s5]; exact cs 5 (by omega)
  have cs7 : s_X6_sumOf 2 7 h = some (e.1 10, h) := by rw [s6]; exact cs 6 (by omega)
  refine ⟨?_, ?_, ?_, ?_, ?_⟩
  · unfold s_X8_count s_X6_tell
    rw [if_neg (by decide), if_neg (by decide), S.x0, inv6 S, if_pos rfl, get6 S, g3]
    rfl
  · unfold s_X8_count s_X6_tell
    rw [if_neg (by decide), if_neg (by decide), S.x0, inv6 S, if_neg (by decide), if_neg (by decide), if_neg (by decide), if_neg (by decide), if_neg (by decide), if_neg (by decide), if_neg (by decide), if_pos rfl, get6 S, g2]
    rfl
  · unfold s_X8_count s_X6_tell
    rw [if_neg (by decide), if_neg (by decide), S.x0, inv6 S, if_neg (by decide), if_neg (by decide), if_neg (by decide), if_neg (by decide), if_neg (by decide), if_neg (by decide), if_neg (by decide), if_neg (by decide), if_pos rfl, inv6 S, cs6]
    rfl
  · unfold s_X8_count s_X6_tell
    rw [if_neg (by decide), if_neg (by decide), S.x0, inv6 S, if_neg (by decide), if_neg (by decide), if_neg (by decide), if_neg (by decide), if_neg (by decide), if_neg (by decide), if_neg (by decide), if_neg (by decide), if_neg (by decide), if_pos rfl, inv6 S, cs7]
    rfl
  · unfold s_X8_count s_X6_tell
    rw [if_neg (by decide), if_neg (by decide), S.x0, inv6 S, if_neg (by decide), if_neg (by decide), if_neg (by decide), if_neg (by decide), if_neg (by decide), if_neg (by decide), if_neg (by decide), if_neg (by decide), if_neg (by decide), if_neg (by decide), if_pos rfl, get6 S, g4]
    rfl
