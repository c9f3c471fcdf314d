/-! readText of the reference -/
theorem T_v11 {h : Hp} (S : Sh h) {α : Type} (f : Nat → Option α) : getR h 241 9 11 f = f 249 := by
  simp only [getR, S.m0, S.2.2.2.2.2.2.1.2.2.2.2.2.2.2.2.1, true_and, show ((249 : Nat) = 0) = False from eq_false (by decide), ne_eq, not_false_eq_true, if_true]
theorem T_v12 {h : Hp} (S : Sh h) {α : Type} (f : Nat → Option α) : getR h 241 9 12 f = f 250 := by
  simp only [getR, S.m0, S.2.2.2.2.2.2.1.2.2.2.2.2.2.2.2.2, true_and, show ((250 : Nat) = 0) = False from eq_false (by decide), ne_eq, not_false_eq_true, if_true]
theorem T_l9 {h : Hp} (S : Sh h) {α : Type} {k : Nat} (hk : k < 30) (f : Int32 → Option α) : ldI h 249 20 (nI k) f = f (hI h 249 k) := by
  simp only [ldI, S.2.2.2.2.2.2.2.1.2.2.2.2.2.2.2.1, nI_ge0 (show k < 2 ^ 31 by omega), nI_clamp (show k < 2 ^ 31 by omega), hk, true_and, if_true]
theorem T_s9 {h : Hp} (S : Sh h) {α : Type} {k : Nat} (hk : k < 30) (v : Int32) (f : Hp → Option α) : stI h 249 20 (nI k) v f = f (sI h 249 k v) := by
  simp only [stI, S.2.2.2.2.2.2.2.1.2.2.2.2.2.2.2.1, nI_ge0 (show k < 2 ^ 31 by omega), nI_clamp (show k < 2 ^ 31 by omega), hk, true_and, if_true]
theorem T_l0 {h : Hp} (S : Sh h) {α : Type} {k : Nat} (hk : k < 30) (f : Int32 → Option α) : ldI h 250 20 (nI k) f = f (hI h 250 k) := by
  simp only [ldI, S.2.2.2.2.2.2.2.1.2.2.2.2.2.2.2.2, nI_ge0 (show k < 2 ^ 31 by omega), nI_clamp (show k < 2 ^ 31 by omega), hk, true_and, if_true]
theorem T_s0 {h : Hp} (S : Sh h) {α : Type} {k : Nat} (hk : k < 30) (v : Int32) (f : Hp → Option α) : stI h 250 20 (nI k) v f = f (sI h 250 k v) := by
  simp only [stI, S.2.2.2.2.2.2.2.1.2.2.2.2.2.2.2.2, nI_ge0 (show k < 2 ^ 31 by omega), nI_clamp (show k < 2 ^ 31 by omega), hk, true_and, if_true]
theorem r_char {g : Hp} (S : Sh g) {m p : Nat} (hm : hI g 241 7 = nI m) (m60 : m ≤ 60) (hp : p < 2 ^ 31) : s_X9_character 241 (nI p) g = some (if p < m then hI g 246 p else -1, g) := by
  unfold s_X9_character
  rw [T_vg S, hm]
  by_cases q : p < m
  · rw [if_neg (by rw [nI_leE (by omega) (by omega)]; omega), if_pos q, T_v6 S, T_vl S (by omega)]
    rfl
  · rw [if_pos (by rw [nI_leE (by omega) (by omega)]; omega), if_neg q]
    rfl
def rdS (g : Hp) (r : Nat) (k v : Int32) : Hp := sI (sI (sI g 249 r k) 250 r v) 241 10 (nI (r + 1))
theorem r_J129 {g : Hp} (S : Sh g) {m q r : Nat} (hm : hI g 241 7 = nI m) (m60 : m ≤ 60) (hr : hI g 241 10 = nI r) (r30 : r < 30) (hq : q ≤ m) (k9 : Nat → Int32 → Int32 → Hp → Rv Int32) (v2 k v : Int32) :
    s_X9_readText_J129 k9 241 (nI q) v2 k v g = if q = m then some (-5, rdS g r k v) else if hI g 246 q = 59 then k9 241 (nI (q + 1)) (v2 + 1) (rdS g r k v) else some (nI q, rdS g r k v) := by
  have S1 : Sh (sI g 249 r k) := S.sI _ _ _
  have S2 : Sh (sI (sI g 249 r k) 250 r v) := S1.sI _ _ _
  have S3 : Sh (rdS g r k v) := S2.sI _ _ _
  have e7 : hI (rdS g r k v) 241 7 = nI m := by
    unfold rdS
    rw [hI_sI, if_neg (by omega), hI_sIn _ _ _ _ _ (by omega), hI_sIn _ _ _ _ _ (by omega)]
    exact hm
  have e6 : hI (rdS g r k v) 246 = hI g 246 := by
    unfold rdS
    rw [hI_sIn _ _ _ _ _ (by omega), hI_sIn _ _ _ _ _ (by omega), hI_sIn _ _ _ _ _ (by omega)]
  unfold s_X9_readText_J129
  rw [T_v11 S, T_vg S, hr, T_s9 S r30, T_v12 S1, T_vg S1, hI_sIn _ _ _ _ _ (by omega), hr, T_s0 S1 r30, T_vg S2, hI_sIn _ _ _ _ _ (by omega), hI_sIn _ _ _ _ _ (by omega), hr, T_vp S2, nI_1]
  show (getI (rdS g r k v) 241 9 7 fun x7 => if nI q = x7 then retI (-5) (rdS g r k v) else inv (rdS g r k v) 241 9 (s_X9_character 241 (nI q) (rdS g r k v)) fun x8 h => if x8 = 59 then k9 241 (nI q + 1) (v2 + 1) h else retI (nI q) h) = _
  rw [T_vg S3, e7]
  by_cases y : q = m
  · rw [if_pos (by rw [y]), if_pos y]
    rfl
  · rw [if_neg (fun z => y ((nI_eq (by omega) (by omega)).mp z)), if_neg y, inv9 S3, r_char S3 e7 m60 (by omega), if_pos (by omega), e6]
    simp only [bnd, nI_1, retI]
theorem rwin {g : Hp} (x lo hi : Int32) : s_X9_within x lo hi g = some (if lo ≤ x ∧ x ≤ hi then 1 else 0, g) := win9 x lo hi g
theorem r_J53 {g : Hp} (S : Sh g) {m p : Nat} (hm : hI g 241 7 = nI m) (m60 : m ≤ 60) (hp : p < m) (hk : hI g 246 p = 100 ∨ isK (hI g 246 p) = true) (k9 : Nat → Int32 → Int32 → Hp → Rv Int32) (v2 : Int32) :
    s_X9_readText_J53 k9 241 (nI p) v2 (hI g 246 p) g = match phR (hI g 246) m p with
      | (q, none) => some (nI q, g)
      | (q, some (k, v)) => s_X9_readText_J129 k9 241 (nI q) v2 k v g := by
  unfold s_X9_readText_J53 phR
  rw [if_pos hp]
  by_cases h2 : hI g 246 p = 100
  · rw [if_pos h2, if_pos h2, nI_1, h2]
  · have h3 : isK (hI g 246 p) = true := hk.resolve_left h2
    rw [if_neg h2, if_neg h2, if_pos h3]
    simp only [nI_1, inv9 S, r_char S hm m60 (show p + 1 < 2 ^ 31 by omega), r_char S hm m60 (show p + 1 + 1 < 2 ^ 31 by omega), bnd, rwin]
    by_cases h4 : p + 1 < m
    · simp only [if_pos h4]
      by_cases h5 : dgB (hI g 246 (p + 1)) = true
      · have h5' : 49 ≤ hI g 246 (p + 1) ∧ hI g 246 (p + 1) ≤ 57 := by
          unfold dgB at h5
          simpa using h5
        simp only [if_pos h5, if_pos h5', show ((1 : Int32) = 0) = False from eq_false (by decide), if_false]
        by_cases h6 : p + 2 < m
        · have h6' : p + 1 + 1 < m := h6
          simp only [if_pos h6, if_pos h6']
          by_cases h7 : dgA (hI g 246 (p + 2)) = true
          · have h7' : 48 ≤ hI g 246 (p + 1 + 1) ∧ hI g 246 (p + 1 + 1) ≤ 57 := by
              unfold dgA at h7
              simpa using h7
            simp only [if_pos h7, if_pos h7', show ((1 : Int32) = 0) = False from eq_false (by decide), if_false]
          · have h7' : ¬ (48 ≤ hI g 246 (p + 1 + 1) ∧ hI g 246 (p + 1 + 1) ≤ 57) := fun z => h7 (by
              unfold dgA
              simpa using z)
            simp only [if_neg h7, if_neg h7', if_true]
        · have h6' : ¬ (p + 1 + 1 < m) := h6
          simp only [if_neg h6, if_neg h6', show ((48 : Int32) ≤ -1) = False from eq_false (by decide), false_and, if_false, if_true]
      · have h5' : ¬ (49 ≤ hI g 246 (p + 1) ∧ hI g 246 (p + 1) ≤ 57) := fun z => h5 (by
          unfold dgB
          simpa using z)
        simp only [if_neg h5, if_neg h5', if_true]
        rfl
    · simp only [if_neg h4, show ((49 : Int32) ≤ -1) = False from eq_false (by decide), false_and, if_false, if_true]
      rfl
theorem r_phase {g : Hp} (S : Sh g) {m p it n : Nat} (hm : hI g 241 7 = nI m) (m60 : m ≤ 60) (hp : p ≤ m) (hit : it ≤ 60) :
    s_X9_readText_L9 (n + 1) 241 (nI p) (nI it) g = match phR (hI g 246) m p with
      | (q, none) => some (nI q, g)
      | (q, some (k, v)) => s_X9_readText_J129 (fun y0 y1 y2 h => s_X9_readText_L9 n y0 y1 y2 h) 241 (nI q) (nI it) k v g := by
  rw [s_X9_readText_L9, if_neg (by rw [show (60 : Int32) = nI 60 from rfl, nI_ltE (by omega) (by omega)]; omega), inv9 S, r_char S hm m60 (by omega)]
  by_cases h1 : p < m
  · simp only [bnd, if_pos h1]
    by_cases h2 : hI g 246 p = 100 ∨ isK (hI g 246 p) = true
    · rw [← r_J53 S hm m60 h1 h2]
      by_cases q1 : hI g 246 p = 102
      · rw [if_pos q1]
      · by_cases q2 : hI g 246 p = 104
        · rw [if_neg q1, if_pos q2]
        · by_cases q3 : hI g 246 p = 119
          · rw [if_neg q1, if_neg q2, if_pos q3]
          · by_cases q4 : hI g 246 p = 100
            · rw [if_neg q1, if_neg q2, if_neg q3, if_pos q4]
            · have q5 : hI g 246 p = 115 := by
                rcases h2 with z | z
                · exact absurd z q4
                · rcases isK_is z with z | z | z | z
                  · exact absurd z q1
                  · exact absurd z q2
                  · exact absurd z q3
                  · exact z
              rw [if_neg q1, if_neg q2, if_neg q3, if_neg q4, if_pos q5]
    · have n1 : ¬ hI g 246 p = 100 := fun z => h2 (Or.inl z)
      have n2 : ¬ isK (hI g 246 p) = true := fun z => h2 (Or.inr z)
      have nk : ∀ x : Int32, isK x = true → ¬ hI g 246 p = x := fun x hx z => n2 (by rw [z]; exact hx)
      rw [if_neg (nk 102 rfl), if_neg (nk 104 rfl), if_neg (nk 119 rfl), if_neg n1, if_neg (nk 115 rfl)]
      unfold phR
      rw [if_pos h1, if_neg n1, if_neg n2]
      rfl
  · simp only [bnd, if_neg h1]
    unfold phR
    rw [if_neg h1]
    rfl
