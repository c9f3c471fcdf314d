/-! heatNext -/
theorem T_x4 {h : Hp} (S : Sh h) {α : Type} (f : Nat → Option α) : getR h 1 8 4 f = f 235 := by
  simp only [getR, S.2.2.1.1, S.2.2.1.2.2.2.2.2.1, true_and, show ((235 : Nat) = 0) = False from eq_false (by decide), ne_eq, not_false_eq_true, if_true]
theorem T_g8 {h : Hp} (S : Sh h) {α : Type} {i : Nat} (hi : i < 8) (f : Int32 → Option α) : (getR h 235 0 2 fun x => ldI h x 20 (nI i) f) = f (hI h 238 i) := by
  simp only [getR, ldI, S.2.2.2.2.1.1, S.2.2.2.2.1.2.2.2.1, S.2.2.2.2.1.2.2.2.2.2.2, true_and, show ((238 : Nat) = 0) = False from eq_false (by decide), ne_eq, not_false_eq_true, if_true, nI_ge0 (show i < 2 ^ 31 by omega), nI_clamp (show i < 2 ^ 31 by omega), hi]
