/-! firstFault -/
def ffK (y0 : Nat) (y1 : Int32) (h : Hp) : Rv Int32 := if y1 = 0 then getI h y0 5 1 fun x5 => retI x5 h else if y1 = 1 then getI h y0 5 1 fun x6 => retI x6 h else retI (-5) h
theorem ff_step {h : Hp} (S : Sh h) {m i n : Nat} (hm : hI h 239 1 = nI m) (m60 : m ≤ 60) (hi : i < m) (pl : Int32) : s_X5_firstFault_L4 ffK (n + 1) 239 pl (nI i) h = if plF pl (hI h 240 i) = -5 then retI (nI i) h else s_X5_firstFault_L4 ffK n 239 (plF pl (hI h 240 i)) (nI (i + 1)) h := by
  rw [s_X5_firstFault_L4, T_u1 S, hm, if_neg (by rw [nI_leE (by omega) (by omega)]; omega), T_u0 S, T_ul S (by omega), c_placeBehind, nI_1]
  rfl
theorem ff_end {h : Hp} (S : Sh h) {m i n : Nat} (hm : hI h 239 1 = nI m) (m60 : m ≤ 60) (hi : i = m) (pl : Int32) : s_X5_firstFault_L4 ffK (n + 1) 239 pl (nI i) h = ffK 239 pl h := by
  rw [s_X5_firstFault_L4, T_u1 S, hm, if_pos (by rw [nI_leE (by omega) (by omega)]; omega)]
theorem ffK_0 {h : Hp} (S : Sh h) {m : Nat} (hm : hI h 239 1 = nI m) : ffK 239 0 h = some (nI m, h) := by
  unfold ffK
  rw [if_pos rfl, T_u1 S, hm]
  rfl
theorem ffK_1 {h : Hp} (S : Sh h) {m : Nat} (hm : hI h 239 1 = nI m) : ffK 239 1 h = some (nI m, h) := by
  unfold ffK
  rw [if_neg (by decide), if_pos rfl, T_u1 S, hm]
  rfl
theorem plF_03 {c : Int32} (q : c = 100) : plF 0 c = 3 := by unfold plF; rw [if_pos rfl, if_pos q]
theorem plF_0 {c : Int32} (q : c ≠ 100) : plF 0 c = if isK c then 1 else -5 := by unfold plF; rw [if_pos rfl, if_neg q]
theorem plF_1 (c : Int32) : plF 1 c = if dgB c then 2 else -5 := by unfold plF; rw [if_neg (by decide), if_pos rfl]
theorem plF_2 (c : Int32) : plF 2 c = if dgA c then 3 else if c = 59 then 0 else -5 := by unfold plF; rw [if_neg (by decide), if_neg (by decide), if_pos rfl]
theorem plF_3 (c : Int32) : plF 3 c = if c = 59 then 0 else -5 := by unfold plF; rw [if_neg (by decide), if_neg (by decide), if_neg (by decide)]
/-- behind a phase: what comes at its end -/
def behF (C : Nat → Int32) (m q n : Nat) (h : Hp) : Rv Int32 := if q = m then some (-5, h) else if C q = 59 then s_X5_firstFault_L4 ffK n 239 0 (nI (q + 1)) h else some (nI q, h)
theorem ff_beh3 {h : Hp} (S : Sh h) {m q n : Nat} (hm : hI h 239 1 = nI m) (m60 : m ≤ 60) (hq : q ≤ m) : s_X5_firstFault_L4 ffK (n + 1) 239 3 (nI q) h = behF (hI h 240) m q n h := by
  unfold behF
  by_cases q1 : q = m
  · rw [ff_end S hm m60 q1, if_pos q1]
    rfl
  · rw [ff_step S hm m60 (by omega), if_neg q1, plF_3]
    by_cases q2 : hI h 240 q = 59
    · rw [if_pos q2, if_neg (by decide), if_pos q2]
    · rw [if_neg q2, if_pos rfl, if_neg q2]
      rfl
theorem ff_beh2 {h : Hp} (S : Sh h) {m q n : Nat} (hm : hI h 239 1 = nI m) (m60 : m ≤ 60) (hq : q ≤ m) (hd : q < m → ¬ dgA (hI h 240 q) = true) : s_X5_firstFault_L4 ffK (n + 1) 239 2 (nI q) h = behF (hI h 240) m q n h := by
  unfold behF
  by_cases q1 : q = m
  · rw [ff_end S hm m60 q1, if_pos q1]
    rfl
  · rw [ff_step S hm m60 (by omega), if_neg q1, plF_2, if_neg (hd (by omega))]
    by_cases q2 : hI h 240 q = 59
    · rw [if_pos q2, if_neg (by decide), if_pos q2]
    · rw [if_neg q2, if_pos rfl, if_neg q2]
      rfl
theorem ff_phase {h : Hp} (S : Sh h) {m : Nat} (hm : hI h 239 1 = nI m) (m60 : m ≤ 60) {p n : Nat} (hp : p ≤ m) : ∃ n', n ≤ n' ∧ s_X5_firstFault_L4 ffK (n + 1 + 1 + 1 + 1) 239 0 (nI p) h = match phR (hI h 240) m p with
    | (q, none) => some (nI q, h)
    | (q, some _) => behF (hI h 240) m q n' h := by
  unfold phR
  by_cases h1 : p < m
  · rw [if_pos h1, ff_step S hm m60 h1]
    by_cases h2 : hI h 240 p = 100
    · refine ⟨n + 1 + 1, by omega, ?_⟩
      rw [if_pos h2, plF_03 h2, if_neg (by decide), ff_beh3 S hm m60 (by omega)]
    · rw [if_neg h2, plF_0 h2]
      by_cases h3 : isK (hI h 240 p) = true
      · rw [if_pos h3, if_neg (by decide), if_pos h3]
        by_cases h4 : p + 1 < m
        · rw [if_pos h4, ff_step S hm m60 h4, plF_1]
          by_cases h5 : dgB (hI h 240 (p + 1)) = true
          · rw [if_pos h5, if_neg (by decide), if_pos h5]
            by_cases h6 : p + 2 < m
            · rw [if_pos h6]
              by_cases h7 : dgA (hI h 240 (p + 2)) = true
              · refine ⟨n, by omega, ?_⟩
                rw [if_pos h7, ff_step S hm m60 h6, plF_2, if_pos h7, if_neg (by decide), ff_beh3 S hm m60 (by omega)]
              · refine ⟨n + 1, by omega, ?_⟩
                rw [if_neg h7, ff_beh2 S hm m60 (by omega) (fun _ => h7)]
            · refine ⟨n + 1, by omega, ?_⟩
              rw [if_neg h6, ff_beh2 S hm m60 (by omega) (fun z => absurd z h6)]
          · refine ⟨n, by omega, ?_⟩
            rw [if_neg h5, if_pos rfl, if_neg h5]
            rfl
        · refine ⟨n, by omega, ?_⟩
          rw [if_neg h4, ff_end S hm m60 (by omega), ffK_1 S hm, show p + 1 = m by omega]
      · refine ⟨n, by omega, ?_⟩
        rw [if_neg h3, if_pos rfl, if_neg h3]
        rfl
  · refine ⟨n, by omega, ?_⟩
    rw [if_neg h1, ff_end S hm m60 (by omega), ffK_0 S hm, show p = m by omega]
theorem c_ffL {h : Hp} (S : Sh h) {m : Nat} (hm : hI h 239 1 = nI m) (m60 : m ≤ 60) : ∀ (d p n : Nat), p ≤ m → m < p + d → 4 * d ≤ n → s_X5_firstFault_L4 ffK n 239 0 (nI p) h = match prs (hI h 240) m d p with
    | (q, none) => some (nI q, h)
    | (_, some _) => some (-5, h)
  | 0, p, n, hp, hd, hn => by omega
  | d + 1, p, n, hp, hd, hn => by
    obtain ⟨k, rfl⟩ : ∃ k, n = k + 1 + 1 + 1 + 1 := ⟨n - 4, by omega⟩
    obtain ⟨n', hn', e⟩ := ff_phase S hm m60 (p := p) (n := k) hp
    rw [e]
    unfold prs
    cases ph : phR (hI h 240) m p with
    | mk q o =>
      cases o with
      | none => rfl
      | some kv =>
        obtain ⟨k1, v1⟩ := kv
        obtain ⟨s1, s2, -, -⟩ := phR_some ph
        show behF (hI h 240) m q n' h = _
        unfold behF
        by_cases q1 : q = m
        · simp only [if_pos q1]
        · rw [if_neg q1]
          simp only [if_neg q1]
          by_cases q2 : hI h 240 q = 59
          · rw [if_pos q2]
            simp only [if_pos q2]
            rw [c_ffL S hm m60 d (q + 1) n' (by omega) (by omega) (by omega)]
            cases prs (hI h 240) m d (q + 1) with
            | mk f o2 => cases o2 <;> rfl
          · rw [if_neg q2]
            simp only [if_neg q2]
theorem c_firstFault {h : Hp} (S : Sh h) {m : Nat} (hm : hI h 239 1 = nI m) (m60 : m ≤ 60) : s_X5_firstFault 239 h = match prs (hI h 240) m 61 0 with
    | (q, none) => some (nI q, h)
    | (_, some _) => some (-5, h) := by
  have := c_ffL S hm m60 61 0 100000 (by omega) (by omega) (by omega)
  exact this
