def h00 : Hp := (fun _ _ => 0, fun _ _ => 0, fun _ _ => 0, fun _ => (99, 0), 0)
/-- the start: the object, the law's five arrays -/
def initRun : Option Hp := newO h00 8 fun x h => bnd (s_X8_init x h) fun _ h => newA h 20 16 16 fun _ h => newA h 20 48 48 fun _ h => newA h 20 32 32 fun _ h => newA h 20 20 20 fun _ h => newA h 20 4 4 fun _ h => some h
def chk (f : Hp → Bool) : Bool := match initRun with | some h => f h | none => false
/-- the kinds of the cells of a street, by their places in its block of 33 -/
def stTag (d : Nat) : Nat × Nat := if d = 0 then (6, 0) else if d = 1 then (20, 4) else if d = 2 then (22, 8) else if d = 3 then (23, 10) else if d = 4 then (4, 0) else if d = 5 then (21, 0) else if d = 6 then (20, 0) else if d < 23 then (if d % 2 = 1 then (2, 0) else (7, 0)) else (3, 0)
