/-! the text of a program, read in one's mind -/
def isK (c : Int32) : Bool := c = 102 ∨ c = 104 ∨ c = 119 ∨ c = 115
def dgA (c : Int32) : Bool := 48 ≤ c ∧ c ≤ 57
def dgB (c : Int32) : Bool := 49 ≤ c ∧ c ≤ 57
/-- one phase at p: where it ends (or the fault's place), and what it is -/
def phR (C : Nat → Int32) (m p : Nat) : Nat × Option (Int32 × Int32) :=
  if p < m then
    if C p = 100 then (p + 1, some (100, 0))
    else if isK (C p) then
      if p + 1 < m then
        if dgB (C (p + 1)) then
          if p + 2 < m then
            if dgA (C (p + 2)) then (p + 3, some (C p, 10 * (C (p + 1) - 48) + C (p + 2) - 48)) else (p + 2, some (C p, C (p + 1) - 48))
          else (p + 2, some (C p, C (p + 1) - 48))
        else (p + 1, none)
      else (p + 1, none)
    else (p, none)
  else (p, none)
def prs (C : Nat → Int32) (m : Nat) : Nat → Nat → Nat × Option (List (Int32 × Int32))
  | 0, p => (p, none)
  | d + 1, p => match phR C m p with
    | (q, none) => (q, none)
    | (q, some kv) => if q = m then (q, some [kv]) else if C q = 59 then (match prs C m d (q + 1) with
      | (f, none) => (f, none)
      | (f, some L) => (f, some (kv :: L))) else (q, none)
/-- what kind and number of a phase may be -/
def PV (k v : Int32) : Prop := (k = 100 ∧ v = 0) ∨ (isK k = true ∧ ∃ x, v = nI x ∧ 1 ≤ x ∧ x ≤ 99)
theorem dgA_n {c : Int32} (h : dgA c = true) : ∃ x, c = nI x ∧ 48 ≤ x ∧ x ≤ 57 := by
  unfold dgA at h
  simp only [Bool.decide_and, Bool.and_eq_true, decide_eq_true_eq] at h
  exact win_of (lo := 48) (hi := 57) (by omega) (by omega) h
theorem dgB_n {c : Int32} (h : dgB c = true) : ∃ x, c = nI x ∧ 49 ≤ x ∧ x ≤ 57 := by
  unfold dgB at h
  simp only [Bool.decide_and, Bool.and_eq_true, decide_eq_true_eq] at h
  exact win_of (lo := 49) (hi := 57) (by omega) (by omega) h
theorem dgB_A {c : Int32} (h : dgB c = true) : dgA c = true := by
  obtain ⟨x, rfl, x1, x2⟩ := dgB_n h
  unfold dgA
  simp only [Bool.decide_and, Bool.and_eq_true, decide_eq_true_eq]
  rw [show (48 : Int32) = nI 48 from rfl, show (57 : Int32) = nI 57 from rfl, nI_leE (by omega) (by omega), nI_leE (by omega) (by omega)]
  omega
theorem isK_is {c : Int32} (h : isK c = true) : c = 102 ∨ c = 104 ∨ c = 119 ∨ c = 115 := by
  unfold isK at h
  simpa using h
theorem phR_some {C : Nat → Int32} {m p q : Nat} {k v : Int32} (h : phR C m p = (q, some (k, v))) : p < q ∧ q ≤ m ∧ PV k v ∧ C p = k := by
  unfold phR at h
  by_cases h1 : p < m
  · rw [if_pos h1] at h
    by_cases h2 : C p = 100
    · rw [if_pos h2] at h
      injection h with a b
      injection b with b
      injection b with b1 b2
      subst a b1 b2
      exact ⟨by omega, by omega, Or.inl ⟨rfl, rfl⟩, h2⟩
    · rw [if_neg h2] at h
      by_cases h3 : isK (C p) = true
      · rw [if_pos h3] at h
        by_cases h4 : p + 1 < m
        · rw [if_pos h4] at h
          by_cases h5 : dgB (C (p + 1)) = true
          · rw [if_pos h5] at h
            obtain ⟨x, ex, x1, x2⟩ := dgB_n h5
            have e1 : C (p + 1) - 48 = nI (x - 48) := by rw [ex, show (48 : Int32) = nI 48 from rfl, nI_sub (by omega)]
            by_cases h6 : p + 2 < m
            · rw [if_pos h6] at h
              by_cases h7 : dgA (C (p + 2)) = true
              · rw [if_pos h7] at h
                obtain ⟨y, ey, y1, y2⟩ := dgA_n h7
                injection h with a b
                injection b with b
                injection b with b1 b2
                subst a b1 b2
                refine ⟨by omega, by omega, Or.inr ⟨h3, 10 * (x - 48) + (y - 48), ?_, by omega, by omega⟩, rfl⟩
                rw [e1, ey, show (10 : Int32) = nI 10 from rfl, nI_mul, nI_add, show (48 : Int32) = nI 48 from rfl, nI_sub (by omega), Nat.add_sub_assoc (by omega)]
              · rw [if_neg h7] at h
                injection h with a b
                injection b with b
                injection b with b1 b2
                subst a b1 b2
                exact ⟨by omega, by omega, Or.inr ⟨h3, x - 48, e1, by omega, by omega⟩, rfl⟩
            · rw [if_neg h6] at h
              injection h with a b
              injection b with b
              injection b with b1 b2
              subst a b1 b2
              exact ⟨by omega, by omega, Or.inr ⟨h3, x - 48, e1, by omega, by omega⟩, rfl⟩
          · rw [if_neg h5] at h
            injection h with a b
            cases b
        · rw [if_neg h4] at h
          injection h with a b
          cases b
      · rw [if_neg h3] at h
        injection h with a b
        cases b
  · rw [if_neg h1] at h
    injection h with a b
    cases b
/-! the class's automaton -/
def plF (pl c : Int32) : Int32 := if pl = 0 then if c = 100 then 3 else if isK c then 1 else -5 else if pl = 1 then if dgB c then 2 else -5 else if pl = 2 then if dgA c then 3 else if c = 59 then 0 else -5 else if c = 59 then 0 else -5
theorem c_isDigit (c : Int32) (h : Hp) : s_X5_isDigit c h = some (if dgA c then 1 else 0, h) := by
  unfold s_X5_isDigit dgA
  by_cases q : c < 48
  · rw [if_pos q, if_neg (by simp only [decide_eq_true_eq]; exact fun z => Int32.not_lt.mpr z.1 q)]
    rfl
  · rw [if_neg q]
    by_cases q2 : 57 < c
    · rw [if_pos q2, if_neg (by simp only [decide_eq_true_eq]; exact fun z => Int32.not_lt.mpr z.2 q2)]
      rfl
    · rw [if_neg q2, if_pos (by simp only [decide_eq_true_eq]; exact ⟨Int32.not_lt.mp q, Int32.not_lt.mp q2⟩)]
      rfl
theorem c_isKind (c : Int32) (h : Hp) : s_X5_isKindWithNumber c h = some (if isK c then 1 else 0, h) := by
  unfold s_X5_isKindWithNumber isK
  by_cases q1 : c = 102
  · simp only [q1, if_true, true_or, decide_true]; rfl
  · by_cases q2 : c = 104
    · rw [if_neg q1, if_pos q2, if_pos (by simp only [decide_eq_true_eq]; exact Or.inr (Or.inl q2))]; rfl
    · by_cases q3 : c = 119
      · rw [if_neg q1, if_neg q2, if_pos q3, if_pos (by simp only [decide_eq_true_eq]; exact Or.inr (Or.inr (Or.inl q3)))]; rfl
      · by_cases q4 : c = 115
        · rw [if_neg q1, if_neg q2, if_neg q3, if_pos q4, if_pos (by simp only [decide_eq_true_eq]; exact Or.inr (Or.inr (Or.inr q4)))]; rfl
        · rw [if_neg q1, if_neg q2, if_neg q3, if_neg q4, if_neg (by simp only [decide_eq_true_eq]; exact fun z => z.elim q1 (fun z => z.elim q2 (fun z => z.elim q3 q4)))]; rfl
theorem dgB_iff (c : Int32) : dgB c = true ↔ (dgA c = true ∧ c ≠ 48) := by
  constructor
  · intro h
    refine ⟨dgB_A h, fun z => ?_⟩
    rw [z] at h
    exact absurd h (by decide)
  · rintro ⟨h, n⟩
    obtain ⟨x, rfl, x1, x2⟩ := dgA_n h
    have : x ≠ 48 := fun z => n (by rw [z]; rfl)
    unfold dgB
    simp only [Bool.decide_and, Bool.and_eq_true, decide_eq_true_eq]
    rw [show (49 : Int32) = nI 49 from rfl, show (57 : Int32) = nI 57 from rfl, nI_leE (by omega) (by omega), nI_leE (by omega) (by omega)]
    omega
theorem c_placeBehind (pl c : Int32) (h : Hp) : s_X5_placeBehind pl c h = some (plF pl c, h) := by
  unfold s_X5_placeBehind plF
  by_cases p0 : pl = 0
  · rw [if_pos p0, if_pos p0]
    by_cases q : c = 100
    · rw [if_pos q, if_pos q]; rfl
    · rw [if_neg q, if_neg q, c_isKind]
      cases isK c <;> rfl
  · rw [if_neg p0, if_neg p0]
    by_cases p1 : pl = 1
    · rw [if_pos p1, if_pos p1, c_isDigit]
      by_cases q : dgB c = true
      · obtain ⟨a, b⟩ := (dgB_iff c).mp q
        rw [if_pos q, if_pos a]
        simp only [bnd, show ((1 : Int32) = 0) = False from eq_false (by decide), if_false, if_neg b]
        rfl
      · rw [if_neg q]
        by_cases a : dgA c = true
        · have b : c = 48 := Classical.byContradiction (fun b => q ((dgB_iff c).mpr ⟨a, b⟩))
          rw [if_pos a]
          simp only [bnd, show ((1 : Int32) = 0) = False from eq_false (by decide), if_false, if_pos b]
          rfl
        · rw [if_neg a]
          rfl
    · rw [if_neg p1, if_neg p1]
      by_cases p2 : pl = 2
      · rw [if_pos p2, if_pos p2, c_isDigit]
        by_cases a : dgA c = true
        · rw [if_pos a, if_pos a]; rfl
        · rw [if_neg a, if_neg a]
          simp only [bnd, if_true]
          split <;> rfl
      · rw [if_neg p2, if_neg p2]
        split <;> rfl
