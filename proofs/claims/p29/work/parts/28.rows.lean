/-! the reference's rows: what its methods on houses do, as functions of a row -/
theorem pt_sp (w : Row) (i k j : Nat) (v : Int32) : pt (sp w i k v) i j = if j = k then v else pt w i j := by
  unfold pt sp upd
  by_cases q : j = k
  · simp [q]
  · rw [if_neg (by omega), if_neg q]
theorem ix_part (i k : Nat) : (15 : Int32) + 42 * nI i + nI k = nI (15 + 42 * i + k) := by
  rw [show (15 : Int32) = nI 15 from rfl, show (42 : Int32) = nI 42 from rfl, nI_mul, nI_add, nI_add]
def phN (w : Row) (i : Nat) : Nat := min (pt w i 10).toNatClampNeg 11
def wtN (w : Row) (i : Nat) : Nat := (pt w i 11).toNatClampNeg
def wmN (w : Row) (i : Nat) : Nat := (pt w i 12).toNatClampNeg
def fillsF (w : Row) (i : Nat) (m : Int32) : Row :=
  let l := if 6 ≤ m - pt w i 16 then 6 else m - pt w i 16
  sp (sp (sp (sp w i 16 (pt w i 16 + l)) i 17 (pt w i 17 + l)) i 11 (pt w i 11 + l)) i 12 (pt w i 12 + 60 * l)
def drainsF (w : Row) (i : Nat) : Row := sp (sp w i 11 (nI (wtN w i - 12))) i 12 (nI (wmN w i * (wtN w i - 12) / wtN w i))
def chgF (w : Row) (i : Nat) (k m g : Int32) : Row := if k = 102 then fillsF w i m else if k = 100 then drainsF w i else if k = 104 then sp w i 12 (pt w i 12 + g) else w
def overF (w : Row) (i : Nat) (k m : Int32) : Int32 := if k = 100 then (if pt w i 11 = 0 then 1 else 0) else if k = 102 then (if pt w i 16 = m then 1 else 0) else if k = 104 then (if nI (tmpN (wtN w i) (wmN w i)) < m then 0 else 1) else (if pt w i 14 < m then 0 else 1)
def endF (w : Row) (i : Nat) : Row := if pt w i 15 ≤ pt w i 10 + 1 then upd (sp (sp w i 9 0) i 4 (pt w i 4 + 1)) 12 (w 12 + 1) else sp (sp (sp w i 10 (pt w i 10 + 1)) i 14 0) i 16 0
def incF (w : Row) (i : Nat) : Row := sp w i 14 (pt w i 14 + 1)
def goF (w : Row) (i : Nat) (k m g : Int32) : Row := if overF (incF (chgF w i k m g) i) i k m = 0 then incF (chgF w i k m g) i else endF (incF (chgF w i k m g) i) i
def worksF (w : Row) (i : Nat) (g : Int32) : Row :=
  if (pt w i (18 + phN w i) = 104 ∧ pt w i 11 = 0) ∨ (pt w i (18 + phN w i) = 115 ∧ pt w i 11 ≠ 0) then sp w i 9 2
  else goF w i (pt w i (18 + phN w i)) (pt w i (30 + phN w i)) g
def clampW (x : Int32) : Int32 := if 0 ≤ x then (if x ≤ 250 then x else 250) else 0
def wantF (w : Row) (i : Nat) : Int32 := if pt w i 9 = 1 ∧ pt w i (18 + phN w i) = 104 then clampW (4 * pt w i 11 * pt w i (30 + phN w i) - pt w i 12) else 0
