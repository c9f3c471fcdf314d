/-! a washer's minute in the reference -/
def kOK (k m : Int32) : Prop := (k = 100 ∨ k = 102 ∨ k = 104 ∨ k = 115 ∨ k = 119) ∧ ∃ x, m = nI x ∧ x ≤ 99 ∧ (k = 102 → 1 ≤ x)
theorem kOK.nar {k m : Int32} (h : kOK k m) : vp_nar .char k = k := by
  rcases h.1 with q | q | q | q | q <;> (subst q; decide)
/-- what a running washer's row says: its phase, its water and warmth -/
def RW (w : Row) (i ph wt wm : Nat) : Prop := pt w i 10 = nI ph ∧ ph < 12 ∧ pt w i 11 = nI wt ∧ pt w i 12 = nI wm ∧ wt < 2 ^ 20 ∧ wm < 2 ^ 28 ∧ (wt = 0 → wm = 0)
