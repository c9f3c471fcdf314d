def h00 : Hp := (fun _ _ => 0, fun _ _ => 0, fun _ _ => 0, fun _ => (99, 0), 0)
def initRun : Option Hp := newO h00 8 fun x h => bnd (s_X8_init x h) fun _ h => newO h 9 fun m h => bnd (s_X9_init m h) fun _ h => some h
def chk (f : Hp → Bool) : Bool := match initRun with | some h => f h | none => false
/-- the kinds of the cells of a street, by their places in its block of 33 -/
def stTag (d : Nat) : Nat × Nat := if d = 0 then (6, 0) else if d = 1 then (20, 4) else if d = 2 then (22, 8) else if d = 3 then (23, 10) else if d = 4 then (4, 0) else if d = 5 then (21, 0) else if d = 6 then (20, 0) else if d < 23 then (if d % 2 = 1 then (2, 0) else (7, 0)) else (3, 0)
def stB (T : Nat) : Bool := T == 2 || T == 35 || T == 68 || T == 103 || T == 136 || T == 169 || T == 202
theorem init_tags : chk (fun h => [2, 35, 68, 103, 136, 169, 202].all fun T => (List.range 33).all fun d => hT h (T + d) == stTag d) = true := by decide +kernel
theorem init_refs : chk (fun h => [2, 35, 68, 103, 136, 169, 202].all fun T => hR h T 0 == T + 1 && hR h T 1 == T + 2 && hR h T 2 == T + 3 && hR h (T + 4) 1 == T + 5 && hR h (T + 4) 2 == T + 6 && (List.range 8).all fun i => hR h (T + 2) i == T + 7 + 2 * i && hR h (T + 7 + 2 * i) 0 == T + 8 + 2 * i && hR h (T + 8 + 2 * i) 0 == T + 4) = true := by decide +kernel
