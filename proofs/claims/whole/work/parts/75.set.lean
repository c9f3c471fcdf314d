/-! set, both sides -/
theorem r_isSetting {k : Nat} (hk : k < 4) (x : Int32) (h : Hp) : s_X9_isSetting (nI k) x h = some (if leastS k ≤ x ∧ x ≤ mostS k then 1 else 0, h) := by
  have fin : ∀ lo hi : Int32, (bnd (s_X9_within x lo hi h) fun x1 h => retZ x1 h) = some (if lo ≤ x ∧ x ≤ hi then 1 else 0, h) := fun lo hi => by
    rw [win9]
    simp only [bnd, retZ]
    split <;> rfl
  rcases (show k = 0 ∨ k = 1 ∨ k = 2 ∨ k = 3 by omega) with rfl | rfl | rfl | rfl
  · exact fin 1000 60000
  · exact fin 0 900
  · exact fin 10 2000
  · exact fin 20 60
theorem r_noSetting {a : Int32} (q : ¬ (0 ≤ a ∧ a ≤ 3)) (x : Int32) (h : Hp) : s_X9_isSetting a x h = some (0, h) := by
  unfold s_X9_isSetting
  rw [if_neg (fun z => q (by rw [z]; decide)), if_neg (fun z => q (by rw [z]; decide)), if_neg (fun z => q (by rw [z]; decide)), if_neg (fun z => q (by rw [z]; decide))]
  rfl
theorem ldS_nI {α : Type} (tb : Nat → Int32) {k : Nat} (hk : k < 4) (f : Int32 → Option α) : ldS tb (nI k) f = f (tb k) := by
  unfold ldS
  rw [nI_clamp (by omega), if_pos ⟨nI_pos' (by omega), hk⟩]
theorem p_set (t : Nat) (ht : t ≤ 38000) (a1 a2 : Int32) : Pair (s_X8_set 1 a1 a2) (s_X9_set 241 a1 a2) t := by
  intro h R
  have R' := R
  obtain ⟨e, c, u, sn, v, C, Q, W, X⟩ := R
  have S := C.1
  have h8 : hI h 2 8 = e.1 7 := C.2.1.2.1.2.2.2.2.2.1
  by_cases q : 0 ≤ a1 ∧ a1 ≤ 3
  · obtain ⟨k, rfl, k0, k3⟩ := win_of (lo := 0) (hi := 3) (by omega) (by omega) q
    have hk : k < 4 := by omega
    by_cases hb : leastS k ≤ a2 ∧ a2 ≤ mostS k
    · obtain ⟨r, h1, h2, p1, p2, p3, S1, Q1⟩ := setJ R' C Q W X hk hb
      have cx : s_X8_set 1 (nI k) a2 = fun h => if nI k = 0 then getR h 1 8 0 fun x14 => getI h x14 6 8 fun x15 => if a2 < x15 then retI (-4) h else s_X8_set_J44 1 (nI k) a2 h else s_X8_set_J44 1 (nI k) a2 h := by
        funext h
        unfold s_X8_set
        simp only [win8, q, and_self, if_true, bnd, show ((1 : Int32) = 0) = False from eq_false (by decide), if_false, ldS_nI _ hk, hb]
      have mx : s_X9_set 241 (nI k) a2 = fun h => if nI k = 0 then getR h 241 9 0 fun x6 => ldI h x6 20 7 fun x7 => if a2 < x7 then retI (-4) h else s_X9_set_J26 241 (nI k) a2 h else s_X9_set_J26 241 (nI k) a2 h := by
        funext h
        unfold s_X9_set
        simp only [r_isSetting hk, hb, and_self, if_true, bnd, show ((1 : Int32) = 0) = False from eq_false (by decide), if_false]
      have l7 : ∀ (g : Hp), Sh g → hI g 242 = e.1 → ∀ {α : Type} (f : Int32 → Option α), (getR g 241 9 0 fun x2 => ldI g x2 20 7 f) = f (e.1 7) := fun g Sg eg α f => by
        rw [sQ_of eg, qg Sg, ql_7 Sg]
      rw [cx, mx]
      rcases (show k = 0 ∨ k = 3 ∨ (k ≠ 0 ∧ k ≠ 3) by omega) with rfl | rfl | ⟨n0, n3⟩
      · by_cases y : a2 < e.1 7
        · refine Pair.same (x := fun h => _) (m := fun h => _) R' (-4) ?_ ?_
          · try dsimp only
            rw [if_pos (show nI 0 = 0 from rfl), S.x0, get6 S, h8, if_pos y]
            rfl
          · try dsimp only
            rw [if_pos (show nI 0 = 0 from rfl), l7 h S Q.1, if_pos y]
            rfl
        · refine ⟨r, h1, h2, ?_, ?_, p3, S1⟩
          · try dsimp only
            rw [if_pos (show nI 0 = 0 from rfl), S.x0, get6 S, h8, if_neg y]
            unfold s_X8_set_J44
            rw [if_neg (by decide)]
            exact p1
          · try dsimp only
            rw [if_pos (show nI 0 = 0 from rfl), l7 h1 S1 Q1.1, if_neg y]
            unfold s_X9_set_J26
            rw [if_neg (by decide)]
            exact p2
      · have ch : s_X6_hasUnlockedAbove 2 a2 h = some (b2I (hotF e.1 a2 e.2.1 0), h) := c_hotL (by omega) S C.2.1 W.1 a2 e.2.1 0 100000 (by omega) (by have := W.1.1.1; omega)
        have rh : ∀ g, Sh g → hI g 242 = e.1 → s_X9_isTooHot 241 a2 g = some (b2I (hotF e.1 a2 e.2.1 0), g) := fun g Sg eg => by
          have z : s_X9_isTooHot 241 a2 (sQ g e.1 (hI g 247) (hI g 248)) = some (b2I (false || hotF e.1 a2 e.2.1 0), sQ g e.1 (hI g 247) (hI g 248)) := r_hotL (by omega) Sg W.1 a2 e.2.1 0 100000 false (by omega) (by have := W.1.1.1; omega)
          rw [← sQ_of eg] at z
          exact z
        cases y : hotF e.1 a2 e.2.1 0 with
        | true =>
          refine Pair.same (x := fun h => _) (m := fun h => _) R' (-4) ?_ ?_
          · try dsimp only
            rw [if_neg (show ¬ nI 3 = 0 by decide)]
            unfold s_X8_set_J44
            rw [if_pos (show nI 3 = 3 from rfl), S.x0, inv6 S, ch, y]
            rfl
          · try dsimp only
            rw [if_neg (show ¬ nI 3 = 0 by decide)]
            unfold s_X9_set_J26
            rw [if_pos (show nI 3 = 3 from rfl), inv9 S, rh h S Q.1, y]
            rfl
        | false =>
          refine ⟨r, h1, h2, ?_, ?_, p3, S1⟩
          · try dsimp only
            rw [if_neg (show ¬ nI 3 = 0 by decide)]
            unfold s_X8_set_J44
            rw [if_pos (show nI 3 = 3 from rfl), S.x0, inv6 S, ch, y]
            exact p1
          · try dsimp only
            rw [if_neg (show ¬ nI 3 = 0 by decide)]
            unfold s_X9_set_J26
            rw [if_pos (show nI 3 = 3 from rfl), inv9 S1, rh h1 S1 Q1.1, y]
            exact p2
      · have z0 : ¬ nI k = 0 := fun z => n0 ((nI_0' k (by omega)).mp z)
        have z3 : ¬ nI k = 3 := fun z => n3 ((nI_eq (by omega) (by omega)).mp z)
        refine ⟨r, h1, h2, ?_, ?_, p3, S1⟩
        · try dsimp only
          rw [if_neg z0]
          unfold s_X8_set_J44
          rw [if_neg z3]
          exact p1
        · try dsimp only
          rw [if_neg z0]
          unfold s_X9_set_J26
          rw [if_neg z3]
          exact p2
    · refine Pair.same (x := fun h => _) (m := fun h => _) R' (-2) ?_ ?_
      · unfold s_X8_set
        simp only [win8, q, and_self, if_true, bnd, show ((1 : Int32) = 0) = False from eq_false (by decide), if_false, ldS_nI _ hk, hb]
        rfl
      · unfold s_X9_set
        simp only [r_isSetting hk, hb, if_true, bnd, if_false]
        rfl
  · refine Pair.same (x := fun h => _) (m := fun h => _) R' (-2) ?_ ?_
    · unfold s_X8_set
      rw [win8, if_neg q]
      rfl
    · unfold s_X9_set
      rw [r_noSetting q]
      rfl
