/-! THE JUDGEMENT OVER THE MODEL'S HEAP: GW .. h cells slots pc lv st: from the instruction pc, with locals lv and operand stack st, over any machine's heap that holds h, the machine comes to Q -/
def GC (base : Nat) (D : va_G) (cA : Nat → ClassId) (p : Program) (s : State) (m : MethodId) (args : Array Value) (meth : Method) (c : Code) (cc : ByteArray) (nL : Nat) (own : String) : Prop :=
  p.tables.exec = Jvm.exec ∧ c.code = cc ∧ c.maxLocals = nL ∧ s.vm.findClass own = some m.cls ∧ (∀ w ∈ wsA, w.before args s = true) ∧ va_K D vwCl (tyL cA) s ∧ meth.locks = false ∧ base + 1 ≤ s.heap.size ∧ LowS base s s.heap
def GW (base : Nat) (D : va_G) (cA : Nat → ClassId) (p : Program) (l : Launch) (e : Env) (R : Room) (s : State) (m : MethodId) (args : Array Value) (below : List Frame) (meth : Method) (c : Code) (Q : State → Prop) (nL : Nat) (h : Hp) (cells slots pc : Nat) (lv : List (Nat × Value)) (st : List Value) : Prop :=
  ∀ (H : Heap) (locs : List Loc) (ls : Array Slot), Rp base D cA h H → va_S (AA base) s.heap H locs → lv_has ls nL lv → W p l e R s m args below meth c H locs cells slots Q (F0 m pc ls st)
/-- a store's new list of locals -/
def lS (i : Nat) (v : Value) (lv : List (Nat × Value)) : List (Nat × Value) := (i, v) :: lv.filter (fun q => !(q.1 == i) && !(q.1 + 1 == i && q.2.category == 2))
/-- a field's link: own class, its constant's place, the class's number, the field's place, its kind -/
def FL (own : String) (idx ci k : Nat) (ty : FieldType) : Prop :=
  ∃ (C : String) (T : u_T) (N : Nat), vwCl[ci]? = some (C, T, N) ∧ ci < 20 ∧ N = nf ci ∧ k < N ∧ (∀ w ∈ u_ws C T N, w ∈ lw_tbl) ∧ Cond.fieldLink own idx (T k).1 (T k).2.1 (T k).2.2.1 ∈ wsA ∧ parseFieldDescriptor (T k).2.2.1 = some ty
/-- what a store into a field wants besides: its class's names are apart, and the field isn't final (fin = false), or final and of the own class -/
def FP (own : String) (ci k : Nat) (fin : Bool) : Prop :=
  ∃ (C : String) (T : u_T) (N : Nat) (ty0 : Nat → FieldType), vwCl[ci]? = some (C, T, N) ∧ (∀ j, j < N → parseFieldDescriptor (T j).2.2.1 = some (ty0 j)) ∧ (∀ a, a < N → ∀ b, b < N → a ≠ b → (T a).2.1 ≠ (T b).2.1) ∧ (T k).2.2.2 = fin ∧ (fin = true → (T k).1 = own)
theorem wsA_lays {C : String} {T : u_T} {N : Nat} (h : ∀ w ∈ u_ws C T N, w ∈ lw_tbl) : ∀ w ∈ u_ws C T N, w ∈ wsA := by
  intro w hw
  refine List.mem_filter.mpr ⟨h w hw, ?_⟩
  obtain ⟨k, -, rfl⟩ := List.mem_map.mp hw
  unfold u_lay
  split <;> rfl
abbrev Rv (α : Type) : Type := Option (α × Hp)
def getI {α : Type} (h : Hp) (a c k : Nat) (f : Int32 → Option α) : Option α := if (hT h a).1 = c then f (hI h a k) else none
def getL {α : Type} (h : Hp) (a c k : Nat) (f : Int64 → Option α) : Option α := if (hT h a).1 = c then f (hL h a k) else none
def getR {α : Type} (h : Hp) (a c k : Nat) (f : Nat → Option α) : Option α := if (hT h a).1 = c ∧ hR h a k ≠ 0 then f (hR h a k) else none
def putI {α : Type} (h : Hp) (a c k : Nat) (v : Int32) (f : Hp → Option α) : Option α := if (hT h a).1 = c then f (sI h a k v) else none
def putZ {α : Type} (h : Hp) (a c k : Nat) (v : Int32) (f : Hp → Option α) : Option α := if (hT h a).1 = c ∧ (v = 0 ∨ v = 1) then f (sI h a k v) else none
def putL {α : Type} (h : Hp) (a c k : Nat) (v : Int64) (f : Hp → Option α) : Option α := if (hT h a).1 = c then f (sL h a k v) else none
def putR {α : Type} (h : Hp) (a c k : Nat) (v : Nat) (f : Hp → Option α) : Option α := if (hT h a).1 = c ∧ v ≠ 0 then f (sR h a k v) else none
def ldI {α : Type} (h : Hp) (a c : Nat) (i : Int32) (f : Int32 → Option α) : Option α := if (hT h a).1 = c ∧ (0 ≤ i ∧ i.toNatClampNeg < (hT h a).2) then f (hI h a i.toNatClampNeg) else none
def ldR {α : Type} (h : Hp) (a c : Nat) (i : Int32) (f : Nat → Option α) : Option α := if (hT h a).1 = c ∧ (0 ≤ i ∧ i.toNatClampNeg < (hT h a).2) ∧ hR h a i.toNatClampNeg ≠ 0 then f (hR h a i.toNatClampNeg) else none
def stI {α : Type} (h : Hp) (a c : Nat) (i v : Int32) (f : Hp → Option α) : Option α := if (hT h a).1 = c ∧ (0 ≤ i ∧ i.toNatClampNeg < (hT h a).2) then f (sI h a i.toNatClampNeg v) else none
def stR {α : Type} (h : Hp) (a c cv : Nat) (i : Int32) (v : Nat) (f : Hp → Option α) : Option α := if (hT h a).1 = c ∧ (0 ≤ i ∧ i.toNatClampNeg < (hT h a).2) ∧ (hT h v).1 = cv then f (sR h a i.toNatClampNeg v) else none
def divI {α : Type} (x y : Int32) (f : Int32 → Option α) : Option α := if y = 0 then none else f (x / y)
def divL {α : Type} (x y : Int64) (f : Int64 → Option α) : Option α := if y = 0 then none else f (x / y)
def newO {α : Type} (h : Hp) (c : Nat) (f : Nat → Hp → Option α) : Option α := f (hN h + 1) (nO h c 0)
def newA {α : Type} (h : Hp) (c : Nat) (n : Int32) (cap : Nat) (f : Nat → Hp → Option α) : Option α := if 0 ≤ n ∧ n.toNatClampNeg ≤ cap then f (hN h + 1) (nO h c n.toNatClampNeg) else none
def bnd {α β : Type} (o : Rv α) (f : α → Hp → Option β) : Option β := match o with
  | none => none
  | some (r, h) => f r h
/-- a call of a method of an object: its kind is looked at -/
def inv {α β : Type} (h : Hp) (a c : Nat) (o : Rv α) (f : α → Hp → Option β) : Option β := if (hT h a).1 = c then bnd o f else none
def retI (v : Int32) (h : Hp) : Rv Int32 := some (v, h)
def retZ (v : Int32) (h : Hp) : Rv Int32 := if v = 0 ∨ v = 1 then some (v, h) else none
def retC (v : Int32) (h : Hp) : Rv Int32 := if vp_nar .char v = v then some (v, h) else none
def retR (v : Nat) (h : Hp) : Rv Nat := some (v, h)
def retU (h : Hp) : Rv Unit := some ((), h)
theorem bnd_some {α β : Type} {o : Rv α} {f : α → Hp → Option β} {x : β} (E : bnd o f = some x) : ∃ (r : α) (h : Hp), o = some (r, h) ∧ f r h = some x := by
  cases o with
  | none => cases E
  | some q => exact ⟨q.1, q.2, rfl, E⟩
theorem ite_some {α : Type} {P : Prop} [Decidable P] {a : Option α} {x : α} (E : (if P then a else none) = some x) : P ∧ a = some x := by
  by_cases h : P
  · rw [if_pos h] at E
    exact ⟨h, E⟩
  · rw [if_neg h] at E
    cases E
theorem ite_some2 {α : Type} {P : Prop} [Decidable P] {a : Option α} {x : α} (E : (if P then none else a) = some x) : ¬ P ∧ a = some x := by
  by_cases h : P
  · rw [if_pos h] at E
    cases E
  · rw [if_neg h] at E
    exact ⟨h, E⟩
theorem vpin_of {i : Int32} {n : Nat} (h : 0 ≤ i ∧ i.toNatClampNeg < n) : vp_in i n := fun q => q.elim (fun z => absurd z (Int32.not_lt.mpr h.1)) (fun z => absurd z (Nat.not_le.mpr h.2))
section GROWS
variable {base : Nat} {D : va_G} {cA : Nat → ClassId} {p : Program} {l : Launch} {e : Env} {R : Room} {s : State} {m : MethodId} {args : Array Value} {below : List Frame} {meth : Method} {c : Code} {Q : State → Prop} {nL : Nat} {h : Hp} {cells slots pc : Nat} {lv : List (Nat × Value)} {st : List Value} {cc : ByteArray} {own : String}
theorem g_iconst (C : GC base D cA p s m args meth c cc nL own) {n : Int} (v : Int32) (d : decode cc pc = .ok (.iconst n, 1)) (hv : Int32.ofInt n = v) (kk : GW base D cA p l e R s m args below meth c Q nL h cells slots (pc + 1) lv (.int v :: st)) : GW base D cA p l e R s m args below meth c Q nL h cells slots pc lv st :=
  fun H locs ls hR hS hl => lv_iconst C.1 C.2.1 d hv (kk H locs ls hR hS hl)
theorem g_bipush (C : GC base D cA p s m args meth c cc nL own) {n : Int} (v : Int32) (d : decode cc pc = .ok (.bipush n, 2)) (hv : (Int8.ofInt n).toInt32 = v) (kk : GW base D cA p l e R s m args below meth c Q nL h cells slots (pc + 2) lv (.int v :: st)) : GW base D cA p l e R s m args below meth c Q nL h cells slots pc lv st :=
  fun H locs ls hR hS hl => lv_bipush C.1 C.2.1 d hv (kk H locs ls hR hS hl)
theorem g_sipush (C : GC base D cA p s m args meth c cc nL own) {n : Int} (v : Int32) (d : decode cc pc = .ok (.sipush n, 3)) (hv : (Int16.ofInt n).toInt32 = v) (kk : GW base D cA p l e R s m args below meth c Q nL h cells slots (pc + 3) lv (.int v :: st)) : GW base D cA p l e R s m args below meth c Q nL h cells slots pc lv st :=
  fun H locs ls hR hS hl => lv_sipush C.1 C.2.1 d hv (kk H locs ls hR hS hl)
theorem g_lconst (C : GC base D cA p s m args meth c cc nL own) {n : Fin 2} (v : Int64) (d : decode cc pc = .ok (.lconst n, 1)) (hv : Int64.ofNat (n : Nat) = v) (kk : GW base D cA p l e R s m args below meth c Q nL h cells slots (pc + 1) lv (.long v :: st)) : GW base D cA p l e R s m args below meth c Q nL h cells slots pc lv st :=
  fun H locs ls hR hS hl => lv_lconst C.1 C.2.1 d hv (kk H locs ls hR hS hl)
theorem g_ldc (C : GC base D cA p s m args meth c cc nL own) {idx : Nat} (v : Int32) (d : decode cc pc = .ok (.ldc idx, 2)) (hw : Jvm.Cond.constant own idx v ∈ wsA) (kk : GW base D cA p l e R s m args below meth c Q nL h cells slots (pc + 2) lv (.int v :: st)) : GW base D cA p l e R s m args below meth c Q nL h cells slots pc lv st :=
  fun H locs ls hR hS hl => lv_ldc C.1 C.2.1 C.2.2.2.1 (C.2.2.2.2.1 _ hw) d (kk H locs ls hR hS hl)
theorem g_ldc2 (C : GC base D cA p s m args meth c cc nL own) {idx : Nat} (v : Int64) (d : decode cc pc = .ok (.ldc2_w idx, 3)) (hw : Jvm.Cond.constantLong own idx v ∈ wsA) (kk : GW base D cA p l e R s m args below meth c Q nL h cells slots (pc + 3) lv (.long v :: st)) : GW base D cA p l e R s m args below meth c Q nL h cells slots pc lv st :=
  fun H locs ls hR hS hl => lv_ldc2 C.1 C.2.1 C.2.2.2.1 (C.2.2.2.2.1 _ hw) d (kk H locs ls hR hS hl)
theorem g_iload_n (C : GC base D cA p s m args meth c cc nL own) {k : Fin 4} {i : Nat} {x : Int32} (q : Nat) (d : decode cc pc = .ok (.iload_n k, 1)) (hq : lv[q]? = some (i, .int x)) (hi : (k : Nat) = i) (kk : GW base D cA p l e R s m args below meth c Q nL h cells slots (pc + 1) lv (.int x :: st)) : GW base D cA p l e R s m args below meth c Q nL h cells slots pc lv st :=
  fun H locs ls hR hS hl => lv_iload_n C.1 C.2.1 d hi (lv_at hl q hq) (kk H locs ls hR hS hl)
theorem g_iload (C : GC base D cA p s m args meth c cc nL own) {i : Nat} {x : Int32} (q : Nat) (d : decode cc pc = .ok (.iload i, 2)) (hq : lv[q]? = some (i, .int x)) (kk : GW base D cA p l e R s m args below meth c Q nL h cells slots (pc + 2) lv (.int x :: st)) : GW base D cA p l e R s m args below meth c Q nL h cells slots pc lv st :=
  fun H locs ls hR hS hl => lv_iload C.1 C.2.1 d (lv_at hl q hq) (kk H locs ls hR hS hl)
theorem g_lload_n (C : GC base D cA p s m args meth c cc nL own) {k : Fin 4} {i : Nat} {x : Int64} (q : Nat) (d : decode cc pc = .ok (.lload_n k, 1)) (hq : lv[q]? = some (i, .long x)) (hi : (k : Nat) = i) (kk : GW base D cA p l e R s m args below meth c Q nL h cells slots (pc + 1) lv (.long x :: st)) : GW base D cA p l e R s m args below meth c Q nL h cells slots pc lv st :=
  fun H locs ls hR hS hl => lv_lload_n C.1 C.2.1 d hi (lv_at hl q hq) (kk H locs ls hR hS hl)
theorem g_aload_n (C : GC base D cA p s m args meth c cc nL own) {k : Fin 4} {i x : Nat} (q : Nat) (d : decode cc pc = .ok (.aload_n k, 1)) (hq : lv[q]? = some (i, .ref x)) (hi : (k : Nat) = i) (kk : GW base D cA p l e R s m args below meth c Q nL h cells slots (pc + 1) lv (.ref x :: st)) : GW base D cA p l e R s m args below meth c Q nL h cells slots pc lv st :=
  fun H locs ls hR hS hl => lv_aload_n C.1 C.2.1 d hi (lv_at hl q hq) (kk H locs ls hR hS hl)
theorem g_aload (C : GC base D cA p s m args meth c cc nL own) {i x : Nat} (q : Nat) (d : decode cc pc = .ok (.aload i, 2)) (hq : lv[q]? = some (i, .ref x)) (kk : GW base D cA p l e R s m args below meth c Q nL h cells slots (pc + 2) lv (.ref x :: st)) : GW base D cA p l e R s m args below meth c Q nL h cells slots pc lv st :=
  fun H locs ls hR hS hl => lv_aload C.1 C.2.1 d (lv_at hl q hq) (kk H locs ls hR hS hl)
theorem g_istore_n (C : GC base D cA p s m args meth c cc nL own) {k : Fin 4} {i : Nat} {x : Int32} {lv' : List (Nat × Value)} (d : decode cc pc = .ok (.istore_n k, 1)) (hi : (k : Nat) = i) (hn : i < nL) (hl' : lS i (.int x) lv = lv') (kk : GW base D cA p l e R s m args below meth c Q nL h cells slots (pc + 1) lv' st) : GW base D cA p l e R s m args below meth c Q nL h cells slots pc lv (.int x :: st) :=
  fun H locs ls hR hS hl => lv_istore_n C.1 C.2.1 d hi hl hn hl' (fun ls' hl2 => kk H locs ls' hR hS hl2)
theorem g_istore (C : GC base D cA p s m args meth c cc nL own) {i : Nat} {x : Int32} {lv' : List (Nat × Value)} (d : decode cc pc = .ok (.istore i, 2)) (hn : i < nL) (hl' : lS i (.int x) lv = lv') (kk : GW base D cA p l e R s m args below meth c Q nL h cells slots (pc + 2) lv' st) : GW base D cA p l e R s m args below meth c Q nL h cells slots pc lv (.int x :: st) :=
  fun H locs ls hR hS hl => lv_istore C.1 C.2.1 d hl hn hl' (fun ls' hl2 => kk H locs ls' hR hS hl2)
theorem g_astore_n (C : GC base D cA p s m args meth c cc nL own) {k : Fin 4} {i x : Nat} {lv' : List (Nat × Value)} (d : decode cc pc = .ok (.astore_n k, 1)) (hi : (k : Nat) = i) (hn : i < nL) (hl' : lS i (.ref x) lv = lv') (kk : GW base D cA p l e R s m args below meth c Q nL h cells slots (pc + 1) lv' st) : GW base D cA p l e R s m args below meth c Q nL h cells slots pc lv (.ref x :: st) :=
  fun H locs ls hR hS hl => lv_astore_n C.1 C.2.1 d hi hl hn hl' (fun ls' hl2 => kk H locs ls' hR hS hl2)
theorem g_astore (C : GC base D cA p s m args meth c cc nL own) {i x : Nat} {lv' : List (Nat × Value)} (d : decode cc pc = .ok (.astore i, 2)) (hn : i < nL) (hl' : lS i (.ref x) lv = lv') (kk : GW base D cA p l e R s m args below meth c Q nL h cells slots (pc + 2) lv' st) : GW base D cA p l e R s m args below meth c Q nL h cells slots pc lv (.ref x :: st) :=
  fun H locs ls hR hS hl => lv_astore C.1 C.2.1 d hl hn hl' (fun ls' hl2 => kk H locs ls' hR hS hl2)
theorem g_lstore_n (C : GC base D cA p s m args meth c cc nL own) {k : Fin 4} {i : Nat} {x : Int64} {lv' : List (Nat × Value)} (d : decode cc pc = .ok (.lstore_n k, 1)) (hi : (k : Nat) = i) (hn : i + 1 < nL) (hl' : (i, Value.long x) :: lv.filter (fun q => !(q.1 == i) && (!(q.1 == i + 1) && !(q.1 + 1 == i && q.2.category == 2))) = lv') (kk : GW base D cA p l e R s m args below meth c Q nL h cells slots (pc + 1) lv' st) : GW base D cA p l e R s m args below meth c Q nL h cells slots pc lv (.long x :: st) :=
  fun H locs ls hR hS hl => lv_lstore_n C.1 C.2.1 d hi hl hn hl' (fun ls' hl2 => kk H locs ls' hR hS hl2)
theorem g_iinc (C : GC base D cA p s m args meth c cc nL own) {i : Nat} {n : Int} {x : Int32} {lv' : List (Nat × Value)} (q : Nat) (v : Int32) (d : decode cc pc = .ok (.iinc i n, 3)) (hq : lv[q]? = some (i, .int x)) (hv : Int32.ofInt n = v) (hn : i < nL) (hl' : lS i (.int (x + v)) lv = lv') (kk : GW base D cA p l e R s m args below meth c Q nL h cells slots (pc + 3) lv' st) : GW base D cA p l e R s m args below meth c Q nL h cells slots pc lv st :=
  fun H locs ls hR hS hl => lv_iinc (v := x + v) C.1 C.2.1 d hl hq (by rw [hv]) hn hl' (fun ls' hl2 => kk H locs ls' hR hS hl2)
theorem g_iadd (C : GC base D cA p s m args meth c cc nL own) {x y : Int32} (d : decode cc pc = .ok (.iadd, 1)) (kk : GW base D cA p l e R s m args below meth c Q nL h cells slots (pc + 1) lv (.int (x + y) :: st)) : GW base D cA p l e R s m args below meth c Q nL h cells slots pc lv (.int y :: .int x :: st) :=
  fun H locs ls hR hS hl => lv_iadd C.1 C.2.1 d (kk H locs ls hR hS hl)
theorem g_isub (C : GC base D cA p s m args meth c cc nL own) {x y : Int32} (d : decode cc pc = .ok (.isub, 1)) (kk : GW base D cA p l e R s m args below meth c Q nL h cells slots (pc + 1) lv (.int (x - y) :: st)) : GW base D cA p l e R s m args below meth c Q nL h cells slots pc lv (.int y :: .int x :: st) :=
  fun H locs ls hR hS hl => lv_isub C.1 C.2.1 d (kk H locs ls hR hS hl)
theorem g_imul (C : GC base D cA p s m args meth c cc nL own) {x y : Int32} (d : decode cc pc = .ok (.imul, 1)) (kk : GW base D cA p l e R s m args below meth c Q nL h cells slots (pc + 1) lv (.int (x * y) :: st)) : GW base D cA p l e R s m args below meth c Q nL h cells slots pc lv (.int y :: .int x :: st) :=
  fun H locs ls hR hS hl => lv_imul C.1 C.2.1 d (kk H locs ls hR hS hl)
theorem g_iand (C : GC base D cA p s m args meth c cc nL own) {x y : Int32} (d : decode cc pc = .ok (.iand, 1)) (kk : GW base D cA p l e R s m args below meth c Q nL h cells slots (pc + 1) lv (.int (x &&& y) :: st)) : GW base D cA p l e R s m args below meth c Q nL h cells slots pc lv (.int y :: .int x :: st) :=
  fun H locs ls hR hS hl => lv_iand C.1 C.2.1 d (kk H locs ls hR hS hl)
theorem g_ineg (C : GC base D cA p s m args meth c cc nL own) {x : Int32} (d : decode cc pc = .ok (.ineg, 1)) (kk : GW base D cA p l e R s m args below meth c Q nL h cells slots (pc + 1) lv (.int (-x) :: st)) : GW base D cA p l e R s m args below meth c Q nL h cells slots pc lv (.int x :: st) :=
  fun H locs ls hR hS hl => lv_ineg C.1 C.2.1 d (kk H locs ls hR hS hl)
theorem g_idiv (C : GC base D cA p s m args meth c cc nL own) {x y : Int32} {α : Type} {f : Int32 → Option α} {X : α} (d : decode cc pc = .ok (.idiv, 1)) (E : divI x y f = some X) (kk : ∀ z : Int32, f z = some X → GW base D cA p l e R s m args below meth c Q nL h cells slots (pc + 1) lv (.int z :: st)) : GW base D cA p l e R s m args below meth c Q nL h cells slots pc lv (.int y :: .int x :: st) :=
  fun H locs ls hR hS hl => lv_idiv C.1 C.2.1 d (ite_some2 E).1 (kk _ (ite_some2 E).2 H locs ls hR hS hl)
theorem g_ldiv (C : GC base D cA p s m args meth c cc nL own) {x y : Int64} {α : Type} {f : Int64 → Option α} {X : α} (d : decode cc pc = .ok (.ldiv, 1)) (E : divL x y f = some X) (kk : ∀ z : Int64, f z = some X → GW base D cA p l e R s m args below meth c Q nL h cells slots (pc + 1) lv (.long z :: st)) : GW base D cA p l e R s m args below meth c Q nL h cells slots pc lv (.long y :: .long x :: st) :=
  fun H locs ls hR hS hl => lv_ldiv C.1 C.2.1 d (ite_some2 E).1 (kk _ (ite_some2 E).2 H locs ls hR hS hl)
theorem g_ladd (C : GC base D cA p s m args meth c cc nL own) {x y : Int64} (d : decode cc pc = .ok (.ladd, 1)) (kk : GW base D cA p l e R s m args below meth c Q nL h cells slots (pc + 1) lv (.long (x + y) :: st)) : GW base D cA p l e R s m args below meth c Q nL h cells slots pc lv (.long y :: .long x :: st) :=
  fun H locs ls hR hS hl => lv_ladd C.1 C.2.1 d (kk H locs ls hR hS hl)
theorem g_lsub (C : GC base D cA p s m args meth c cc nL own) {x y : Int64} (d : decode cc pc = .ok (.lsub, 1)) (kk : GW base D cA p l e R s m args below meth c Q nL h cells slots (pc + 1) lv (.long (x - y) :: st)) : GW base D cA p l e R s m args below meth c Q nL h cells slots pc lv (.long y :: .long x :: st) :=
  fun H locs ls hR hS hl => lv_lsub C.1 C.2.1 d (kk H locs ls hR hS hl)
theorem g_lmul (C : GC base D cA p s m args meth c cc nL own) {x y : Int64} (d : decode cc pc = .ok (.lmul, 1)) (kk : GW base D cA p l e R s m args below meth c Q nL h cells slots (pc + 1) lv (.long (x * y) :: st)) : GW base D cA p l e R s m args below meth c Q nL h cells slots pc lv (.long y :: .long x :: st) :=
  fun H locs ls hR hS hl => lv_lmul C.1 C.2.1 d (kk H locs ls hR hS hl)
theorem g_i2l (C : GC base D cA p s m args meth c cc nL own) {x : Int32} (d : decode cc pc = .ok (.i2l, 1)) (kk : GW base D cA p l e R s m args below meth c Q nL h cells slots (pc + 1) lv (.long x.toInt64 :: st)) : GW base D cA p l e R s m args below meth c Q nL h cells slots pc lv (.int x :: st) :=
  fun H locs ls hR hS hl => lv_i2l C.1 C.2.1 d rfl (kk H locs ls hR hS hl)
theorem g_l2i (C : GC base D cA p s m args meth c cc nL own) {x : Int64} (d : decode cc pc = .ok (.l2i, 1)) (kk : GW base D cA p l e R s m args below meth c Q nL h cells slots (pc + 1) lv (.int x.toInt32 :: st)) : GW base D cA p l e R s m args below meth c Q nL h cells slots pc lv (.long x :: st) :=
  fun H locs ls hR hS hl => lv_l2i C.1 C.2.1 d rfl (kk H locs ls hR hS hl)
theorem g_i2c (C : GC base D cA p s m args meth c cc nL own) {x : Int32} (d : decode cc pc = .ok (.i2c, 1)) (kk : GW base D cA p l e R s m args below meth c Q nL h cells slots (pc + 1) lv (.int (x.toUInt32 % 65536).toInt32 :: st)) : GW base D cA p l e R s m args below meth c Q nL h cells slots pc lv (.int x :: st) :=
  fun H locs ls hR hS hl => lv_i2c C.1 C.2.1 d rfl (kk H locs ls hR hS hl)
theorem g_dup (C : GC base D cA p s m args meth c cc nL own) {v : Value} (d : decode cc pc = .ok (.dup, 1)) (hv : v.category = 1) (kk : GW base D cA p l e R s m args below meth c Q nL h cells slots (pc + 1) lv (v :: v :: st)) : GW base D cA p l e R s m args below meth c Q nL h cells slots pc lv (v :: st) :=
  fun H locs ls hR hS hl => lv_dup C.1 C.2.1 d hv (kk H locs ls hR hS hl)
theorem g_dup2 (C : GC base D cA p s m args meth c cc nL own) {v w : Value} (d : decode cc pc = .ok (.dup2, 1)) (hv : v.category = 1) (hw : w.category = 1) (kk : GW base D cA p l e R s m args below meth c Q nL h cells slots (pc + 1) lv (v :: w :: v :: w :: st)) : GW base D cA p l e R s m args below meth c Q nL h cells slots pc lv (v :: w :: st) :=
  fun H locs ls hR hS hl => lv_dup2_11 C.1 C.2.1 d hv hw (kk H locs ls hR hS hl)
theorem g_pop (C : GC base D cA p s m args meth c cc nL own) {v : Value} (d : decode cc pc = .ok (.pop, 1)) (hv : v.category = 1) (kk : GW base D cA p l e R s m args below meth c Q nL h cells slots (pc + 1) lv st) : GW base D cA p l e R s m args below meth c Q nL h cells slots pc lv (v :: st) :=
  fun H locs ls hR hS hl => lv_pop C.1 C.2.1 d hv (kk H locs ls hR hS hl)
theorem g_goto (C : GC base D cA p s m args meth c cc nL own) {off : Int} (tgt : Nat) (d : decode cc pc = .ok (.goto off, 3)) (ht : (pc : Int) + off = (tgt : Int)) (kk : GW base D cA p l e R s m args below meth c Q nL h cells slots tgt lv st) : GW base D cA p l e R s m args below meth c Q nL h cells slots pc lv st :=
  fun H locs ls hR hS hl => lv_goto C.1 C.2.1 d ht (kk H locs ls hR hS hl)
theorem g_if_eq (C : GC base D cA p s m args meth c cc nL own) {x : Int32} {off : Int} {α : Type} {a b : Option α} {X : α} (tgt : Nat) (d : decode cc pc = .ok (.ifCond .eq off, 3)) (ht : (pc : Int) + off = (tgt : Int)) (E : (if x = 0 then a else b) = some X) (kt : a = some X → GW base D cA p l e R s m args below meth c Q nL h cells slots tgt lv st) (kf : b = some X → GW base D cA p l e R s m args below meth c Q nL h cells slots (pc + 3) lv st) : GW base D cA p l e R s m args below meth c Q nL h cells slots pc lv (.int x :: st) :=
  fun H locs ls hR hS hl => lv_if_eq C.1 C.2.1 d ht (fun q => kt (by rw [if_pos (q)] at E; exact E) H locs ls hR hS hl) (fun q => kf (by rw [if_neg (q)] at E; exact E) H locs ls hR hS hl)
theorem g_if_ne (C : GC base D cA p s m args meth c cc nL own) {x : Int32} {off : Int} {α : Type} {a b : Option α} {X : α} (tgt : Nat) (d : decode cc pc = .ok (.ifCond .ne off, 3)) (ht : (pc : Int) + off = (tgt : Int)) (E : (if x = 0 then a else b) = some X) (kt : b = some X → GW base D cA p l e R s m args below meth c Q nL h cells slots tgt lv st) (kf : a = some X → GW base D cA p l e R s m args below meth c Q nL h cells slots (pc + 3) lv st) : GW base D cA p l e R s m args below meth c Q nL h cells slots pc lv (.int x :: st) :=
  fun H locs ls hR hS hl => lv_if_ne C.1 C.2.1 d ht (fun q => kt (by rw [if_neg q] at E; exact E) H locs ls hR hS hl) (fun q => kf (by rw [if_pos q] at E; exact E) H locs ls hR hS hl)
theorem g_if_lt (C : GC base D cA p s m args meth c cc nL own) {x : Int32} {off : Int} {α : Type} {a b : Option α} {X : α} (tgt : Nat) (d : decode cc pc = .ok (.ifCond .lt off, 3)) (ht : (pc : Int) + off = (tgt : Int)) (E : (if x < 0 then a else b) = some X) (kt : a = some X → GW base D cA p l e R s m args below meth c Q nL h cells slots tgt lv st) (kf : b = some X → GW base D cA p l e R s m args below meth c Q nL h cells slots (pc + 3) lv st) : GW base D cA p l e R s m args below meth c Q nL h cells slots pc lv (.int x :: st) :=
  fun H locs ls hR hS hl => lv_if_lt C.1 C.2.1 d ht (fun q => kt (by rw [if_pos (q)] at E; exact E) H locs ls hR hS hl) (fun q => kf (by rw [if_neg (q)] at E; exact E) H locs ls hR hS hl)
theorem g_if_ge (C : GC base D cA p s m args meth c cc nL own) {x : Int32} {off : Int} {α : Type} {a b : Option α} {X : α} (tgt : Nat) (d : decode cc pc = .ok (.ifCond .ge off, 3)) (ht : (pc : Int) + off = (tgt : Int)) (E : (if 0 ≤ x then a else b) = some X) (kt : a = some X → GW base D cA p l e R s m args below meth c Q nL h cells slots tgt lv st) (kf : b = some X → GW base D cA p l e R s m args below meth c Q nL h cells slots (pc + 3) lv st) : GW base D cA p l e R s m args below meth c Q nL h cells slots pc lv (.int x :: st) :=
  fun H locs ls hR hS hl => lv_if_ge C.1 C.2.1 d ht (fun q => kt (by rw [if_pos (q)] at E; exact E) H locs ls hR hS hl) (fun q => kf (by rw [if_neg (q)] at E; exact E) H locs ls hR hS hl)
theorem g_if_gt (C : GC base D cA p s m args meth c cc nL own) {x : Int32} {off : Int} {α : Type} {a b : Option α} {X : α} (tgt : Nat) (d : decode cc pc = .ok (.ifCond .gt off, 3)) (ht : (pc : Int) + off = (tgt : Int)) (E : (if 0 < x then a else b) = some X) (kt : a = some X → GW base D cA p l e R s m args below meth c Q nL h cells slots tgt lv st) (kf : b = some X → GW base D cA p l e R s m args below meth c Q nL h cells slots (pc + 3) lv st) : GW base D cA p l e R s m args below meth c Q nL h cells slots pc lv (.int x :: st) :=
  fun H locs ls hR hS hl => lv_if_gt C.1 C.2.1 d ht (fun q => kt (by rw [if_pos (q)] at E; exact E) H locs ls hR hS hl) (fun q => kf (by rw [if_neg (q)] at E; exact E) H locs ls hR hS hl)
theorem g_if_le (C : GC base D cA p s m args meth c cc nL own) {x : Int32} {off : Int} {α : Type} {a b : Option α} {X : α} (tgt : Nat) (d : decode cc pc = .ok (.ifCond .le off, 3)) (ht : (pc : Int) + off = (tgt : Int)) (E : (if x ≤ 0 then a else b) = some X) (kt : a = some X → GW base D cA p l e R s m args below meth c Q nL h cells slots tgt lv st) (kf : b = some X → GW base D cA p l e R s m args below meth c Q nL h cells slots (pc + 3) lv st) : GW base D cA p l e R s m args below meth c Q nL h cells slots pc lv (.int x :: st) :=
  fun H locs ls hR hS hl => lv_if_le C.1 C.2.1 d ht (fun q => kt (by rw [if_pos (q)] at E; exact E) H locs ls hR hS hl) (fun q => kf (by rw [if_neg (q)] at E; exact E) H locs ls hR hS hl)
theorem g_icmp_eq (C : GC base D cA p s m args meth c cc nL own) {x y : Int32} {off : Int} {α : Type} {a b : Option α} {X : α} (tgt : Nat) (d : decode cc pc = .ok (.if_icmp .eq off, 3)) (ht : (pc : Int) + off = (tgt : Int)) (E : (if x = y then a else b) = some X) (kt : a = some X → GW base D cA p l e R s m args below meth c Q nL h cells slots tgt lv st) (kf : b = some X → GW base D cA p l e R s m args below meth c Q nL h cells slots (pc + 3) lv st) : GW base D cA p l e R s m args below meth c Q nL h cells slots pc lv (.int y :: .int x :: st) :=
  fun H locs ls hR hS hl => lv_icmp_eq C.1 C.2.1 d ht (fun q => kt (by rw [if_pos (q)] at E; exact E) H locs ls hR hS hl) (fun q => kf (by rw [if_neg (q)] at E; exact E) H locs ls hR hS hl)
theorem g_icmp_ne (C : GC base D cA p s m args meth c cc nL own) {x y : Int32} {off : Int} {α : Type} {a b : Option α} {X : α} (tgt : Nat) (d : decode cc pc = .ok (.if_icmp .ne off, 3)) (ht : (pc : Int) + off = (tgt : Int)) (E : (if x = y then a else b) = some X) (kt : b = some X → GW base D cA p l e R s m args below meth c Q nL h cells slots tgt lv st) (kf : a = some X → GW base D cA p l e R s m args below meth c Q nL h cells slots (pc + 3) lv st) : GW base D cA p l e R s m args below meth c Q nL h cells slots pc lv (.int y :: .int x :: st) :=
  fun H locs ls hR hS hl => lv_icmp_ne C.1 C.2.1 d ht (fun q => kt (by rw [if_neg q] at E; exact E) H locs ls hR hS hl) (fun q => kf (by rw [if_pos q] at E; exact E) H locs ls hR hS hl)
theorem g_icmp_lt (C : GC base D cA p s m args meth c cc nL own) {x y : Int32} {off : Int} {α : Type} {a b : Option α} {X : α} (tgt : Nat) (d : decode cc pc = .ok (.if_icmp .lt off, 3)) (ht : (pc : Int) + off = (tgt : Int)) (E : (if x < y then a else b) = some X) (kt : a = some X → GW base D cA p l e R s m args below meth c Q nL h cells slots tgt lv st) (kf : b = some X → GW base D cA p l e R s m args below meth c Q nL h cells slots (pc + 3) lv st) : GW base D cA p l e R s m args below meth c Q nL h cells slots pc lv (.int y :: .int x :: st) :=
  fun H locs ls hR hS hl => lv_icmp_lt C.1 C.2.1 d ht (fun q => kt (by rw [if_pos (q)] at E; exact E) H locs ls hR hS hl) (fun q => kf (by rw [if_neg (q)] at E; exact E) H locs ls hR hS hl)
theorem g_icmp_ge (C : GC base D cA p s m args meth c cc nL own) {x y : Int32} {off : Int} {α : Type} {a b : Option α} {X : α} (tgt : Nat) (d : decode cc pc = .ok (.if_icmp .ge off, 3)) (ht : (pc : Int) + off = (tgt : Int)) (E : (if y ≤ x then a else b) = some X) (kt : a = some X → GW base D cA p l e R s m args below meth c Q nL h cells slots tgt lv st) (kf : b = some X → GW base D cA p l e R s m args below meth c Q nL h cells slots (pc + 3) lv st) : GW base D cA p l e R s m args below meth c Q nL h cells slots pc lv (.int y :: .int x :: st) :=
  fun H locs ls hR hS hl => lv_icmp_ge C.1 C.2.1 d ht (fun q => kt (by rw [if_pos (q)] at E; exact E) H locs ls hR hS hl) (fun q => kf (by rw [if_neg (q)] at E; exact E) H locs ls hR hS hl)
theorem g_icmp_gt (C : GC base D cA p s m args meth c cc nL own) {x y : Int32} {off : Int} {α : Type} {a b : Option α} {X : α} (tgt : Nat) (d : decode cc pc = .ok (.if_icmp .gt off, 3)) (ht : (pc : Int) + off = (tgt : Int)) (E : (if y < x then a else b) = some X) (kt : a = some X → GW base D cA p l e R s m args below meth c Q nL h cells slots tgt lv st) (kf : b = some X → GW base D cA p l e R s m args below meth c Q nL h cells slots (pc + 3) lv st) : GW base D cA p l e R s m args below meth c Q nL h cells slots pc lv (.int y :: .int x :: st) :=
  fun H locs ls hR hS hl => lv_icmp_gt C.1 C.2.1 d ht (fun q => kt (by rw [if_pos (q)] at E; exact E) H locs ls hR hS hl) (fun q => kf (by rw [if_neg (q)] at E; exact E) H locs ls hR hS hl)
theorem g_icmp_le (C : GC base D cA p s m args meth c cc nL own) {x y : Int32} {off : Int} {α : Type} {a b : Option α} {X : α} (tgt : Nat) (d : decode cc pc = .ok (.if_icmp .le off, 3)) (ht : (pc : Int) + off = (tgt : Int)) (E : (if x ≤ y then a else b) = some X) (kt : a = some X → GW base D cA p l e R s m args below meth c Q nL h cells slots tgt lv st) (kf : b = some X → GW base D cA p l e R s m args below meth c Q nL h cells slots (pc + 3) lv st) : GW base D cA p l e R s m args below meth c Q nL h cells slots pc lv (.int y :: .int x :: st) :=
  fun H locs ls hR hS hl => lv_icmp_le C.1 C.2.1 d ht (fun q => kt (by rw [if_pos (q)] at E; exact E) H locs ls hR hS hl) (fun q => kf (by rw [if_neg (q)] at E; exact E) H locs ls hR hS hl)

theorem Rp.set {h' : Hp} {H H1 : Heap} {a : Nat} (hR : Rp base D cA h H) (hn : hN h' = hN h) (ht : hT h' = hT h) (h1 : 1 ≤ a) (h2 : a ≤ hN h) (ho : ∀ b : Nat, b ≠ a → hE base cA h' b = hE base cA h b) (hat : va_at D vwCl (base + a, hE base cA h' a) H1) (z : H1.size = H.size) (oq : ∀ q : Nat, q ≠ base + a → H1[q]? = H[q]?) : Rp base D cA h' H1 := by
  refine ⟨by rw [z, hn]; exact hR.1, ?_, by rw [ht, hn]; exact hR.2.2⟩
  rw [← wld_set hn h1 h2 rfl ho]
  exact hR.2.1.set (wld_D h) (wld_get h h1 h2) hat oq
theorem Rp.push {h' : Hp} {H H1 : Heap} (hR : Rp base D cA h H) (hn : hN h' = hN h + 1) (ht : ∀ a : Nat, (hT h' a).1 < 99 → 1 ≤ a ∧ a ≤ hN h + 1) (ho : ∀ b : Nat, b ≠ hN h + 1 → hE base cA h' b = hE base cA h b) (hat : va_at D vwCl (base + 1 + hN h, hE base cA h' (hN h + 1)) H1) (z : H1.size = H.size + 1) (oq : ∀ q : Nat, q < H.size → H1[q]? = H[q]?) : Rp base D cA h' H1 := by
  refine ⟨by rw [z, hn, hR.1]; omega, ?_, by rw [hn]; exact ht⟩
  rw [← wld_push hn rfl ho]
  refine (hR.2.1.kept (fun k x hx => oq x.1 (hR.2.1 k x hx).lt)).app (fun k q hk => ?_)
  have hz : k < 1 := (List.getElem?_eq_some_iff.mp hk).1
  rw [show k = 0 by omega] at hk
  cases hk
  exact hat
theorem Rp.at {H : Heap} {a : Nat} (hR : Rp base D cA h H) (ha : (hT h a).1 < 99) : 1 ≤ a ∧ a ≤ hN h ∧ (wld base cA h)[a - 1]? = some (base + a, hE base cA h a) :=
  ⟨(hR.2.2 a ha).1, (hR.2.2 a ha).2, wld_get h (hR.2.2 a ha).1 (hR.2.2 a ha).2⟩
theorem g_getI (C : GC base D cA p s m args meth c cc nL own) {α : Type} {f : Int32 → Option α} {X : α} {a idx ci k : Nat} {ty : FieldType} (d : decode cc pc = .ok (.getfield idx, 3)) (F : FL own idx ci k ty) (k1 : fk ci k ≠ 1) (k2 : fk ci k ≠ 2) (E : getI h a ci k f = some X) (kk : ∀ x : Int32, f x = some X → GW base D cA p l e R s m args below meth c Q nL h cells slots (pc + 3) lv (.int x :: st)) : GW base D cA p l e R s m args below meth c Q nL h cells slots pc lv (.ref (base + a) :: st) := by
  intro H locs ls hR hS hl
  obtain ⟨hc, E⟩ := ite_some E
  obtain ⟨Cn, T, N, hcl, h20, hN, hkN, hin, hlk, -⟩ := F
  obtain ⟨h1, h2, he⟩ := hR.at (a := a) (by omega)
  rw [hE_obj hc h20] at he
  refine va_get C.1 C.2.1 C.2.2.2.2.1 (wsA_lays hin) C.2.2.2.1 C.2.2.2.2.2.1 hR.2.1 (a - 1) he hcl k hkN (C.2.2.2.2.1 _ hlk) (fun _ q => q) (v := .int (hI h a k)) ?_ d (kk _ E H locs ls hR hS hl)
  rw [fv_at (by omega)]
  simp only [fv, if_neg k1, if_neg k2]
theorem g_getL (C : GC base D cA p s m args meth c cc nL own) {α : Type} {f : Int64 → Option α} {X : α} {a idx ci k : Nat} {ty : FieldType} (d : decode cc pc = .ok (.getfield idx, 3)) (F : FL own idx ci k ty) (k1 : fk ci k = 1) (E : getL h a ci k f = some X) (kk : ∀ x : Int64, f x = some X → GW base D cA p l e R s m args below meth c Q nL h cells slots (pc + 3) lv (.long x :: st)) : GW base D cA p l e R s m args below meth c Q nL h cells slots pc lv (.ref (base + a) :: st) := by
  intro H locs ls hR hS hl
  obtain ⟨hc, E⟩ := ite_some E
  obtain ⟨Cn, T, N, hcl, h20, hN, hkN, hin, hlk, -⟩ := F
  obtain ⟨h1, h2, he⟩ := hR.at (a := a) (by omega)
  rw [hE_obj hc h20] at he
  refine va_get C.1 C.2.1 C.2.2.2.2.1 (wsA_lays hin) C.2.2.2.1 C.2.2.2.2.2.1 hR.2.1 (a - 1) he hcl k hkN (C.2.2.2.2.1 _ hlk) (fun _ q => q) (v := .long (hL h a k)) ?_ d (kk _ E H locs ls hR hS hl)
  rw [fv_at (by omega)]
  simp only [fv, if_pos k1]
theorem g_getR (C : GC base D cA p s m args meth c cc nL own) {α : Type} {f : Nat → Option α} {X : α} {a idx ci k : Nat} {ty : FieldType} (d : decode cc pc = .ok (.getfield idx, 3)) (F : FL own idx ci k ty) (k2 : fk ci k = 2) (E : getR h a ci k f = some X) (kk : ∀ x : Nat, f x = some X → GW base D cA p l e R s m args below meth c Q nL h cells slots (pc + 3) lv (.ref (base + x) :: st)) : GW base D cA p l e R s m args below meth c Q nL h cells slots pc lv (.ref (base + a) :: st) := by
  intro H locs ls hRp hS hl
  obtain ⟨⟨hc, hnz⟩, E⟩ := ite_some E
  obtain ⟨Cn, T, N, hcl, h20, hN, hkN, hin, hlk, -⟩ := F
  obtain ⟨h1, h2, he⟩ := hRp.at (a := a) (by omega)
  rw [hE_obj hc h20] at he
  refine va_get C.1 C.2.1 C.2.2.2.2.1 (wsA_lays hin) C.2.2.2.1 C.2.2.2.2.2.1 hRp.2.1 (a - 1) he hcl k hkN (C.2.2.2.2.1 _ hlk) (fun _ q => q) (v := .ref (base + hR h a k)) ?_ d (kk _ E H locs ls hRp hS hl)
  rw [fv_at (by omega)]
  simp only [fv, if_neg (show ¬ fk ci k = 1 by omega), if_pos k2, rA, if_neg hnz, va_rf]
/-- a store into a field, of any kind: the model's new heap h' -/
theorem g_put (C : GC base D cA p s m args meth c cc nL own) {a idx ci k : Nat} {ty : FieldType} {v : Value} {h' : Hp} (d : decode cc pc = .ok (.putfield idx, 3)) (F : FL own idx ci k ty) (fin : Bool) (P : FP own ci k fin) (hfi : fin = true → meth.name = "<init>") (hc : (hT h a).1 = ci) (hn : narrow ty v = v) (hf : fits ty v = true)
    (hN' : hN h' = hN h) (hT' : hT h' = hT h) (ho : ∀ b : Nat, b ≠ a → hE base cA h' b = hE base cA h b) (hv : fv base (hI h' a) (hL h' a) (hR h' a) ci k = v) (hj : ∀ j, j ≠ k → fv base (hI h' a) (hL h' a) (hR h' a) ci j = fv base (hI h a) (hL h a) (hR h a) ci j)
    (kk : GW base D cA p l e R s m args below meth c Q nL h' cells slots (pc + 3) lv st) : GW base D cA p l e R s m args below meth c Q nL h cells slots pc lv (v :: .ref (base + a) :: st) := by
  intro H locs ls hRp hS hl
  obtain ⟨Cn, T, N, hcl, h20, hNf, hkN, hin, hlk, hd⟩ := F
  obtain ⟨Cn2, T2, N2, ty0, hcl2, hty, hnm, hfin, hdecl⟩ := P
  cases hcl.symm.trans hcl2
  obtain ⟨h1, h2, he⟩ := hRp.at (a := a) (by omega)
  rw [hE_obj hc h20] at he
  have hts := C.2.2.2.2.1
  have hin' := wsA_lays hin
  have hap := va_apart (own := own) hts hin' ty0 hty hnm C.2.2.2.2.2.1 hcl
  obtain ⟨r, g1, cell, q1, q2, q3, q4⟩ := hRp.2.1 _ _ he
  cases g1.symm.trans hcl
  obtain ⟨hSl, hfc, kC, hkC, hkind⟩ := C.2.2.2.2.2.1.1 ci _ hcl
  obtain ⟨cf, kf, fi, f, hi, hsl⟩ := hSl k hkN
  have hst := (u_facts hfc hkC (u_lays hts hin' hkN) hi).1
  have hlt : f.slot < cell.slots.size := by rw [hsl]; exact k2_hasslot (q4 k hkN)
  have key : ∀ (H1 : Heap) (locs1 : List Loc), H1[base + a]? = some (cell.setSlot f.slot v) → H1.size = H.size → (∀ q, q ≠ base + a → H1[q]? = H[q]?) → va_S (AA base) s.heap H1 locs1 → W p l e R s m args below meth c H1 locs1 cells slots Q (F0 m (pc + 3) ls st) := by
    intro H1 locs1 e1 e2 e3 e4
    refine kk H1 locs1 ls (hRp.set hN' hT' h1 h2 ho ?_ e2 e3) e4 hl
    rw [hE_obj (show (hT h' a).1 = ci by rw [hT']; exact hc) h20, ← fv_set hv hj]
    rw [hsl] at e1
    refine ⟨_, hcl, t_OB.to (V := updV (vp_V ((List.range (nf ci)).map (fv base (hI h a) (hL h a) (hR h a) ci))) k v) ⟨_, e1, q2, q3, t_set q4 hap hkN v⟩ (fun j _ => vp_updV_set ?_ v j)⟩
    rw [List.length_map, List.length_range]
    omega
  cases fin with
  | false =>
    have hlay := hts _ (hin' _ (u_in_lay hkN))
    unfold u_lay at hlay
    rw [if_neg (by rw [hfin]; decide)] at hlay
    have h6 := u_store hfc hkC hkind hlay hi hd hn hf
    exact W.putK C.1 C.2.1 (f := f) ⟨C.2.2.2.1, hts _ hlk, ⟨_, _, _, hi⟩, hst⟩ (by rw [q2]; exact h6) q1 q3 hlt rfl rfl d fun H1 e1 e2 e3 => key H1 _ e1 e2 e3 (hS.put e2 e3 (by show base + 1 ≤ base + a; omega))
  | true =>
    have hlay := hts _ (hin' _ (u_in_lay hkN))
    unfold u_lay at hlay
    rw [if_pos hfin] at hlay
    have hcf : m.cls = cf := by
      obtain ⟨_, _, c', _, _, _, -, -, hf', -, -, -, hown2, -⟩ := Cond.laysFinal_spec hlay
      have e1 : c' = cf := by have := hi.symm.trans hf'; simp at this; exact this.1.symm
      rw [hdecl rfl] at hown2
      rw [← e1]
      exact Option.some.inj (C.2.2.2.1.symm.trans hown2)
    have h6 := u_fits hfc hkC hkind (Or.inr hlay) hi hd hn hf
    exact W.putFinK C.1 C.2.1 C.2.2.2.1 (hts _ hlk) hi hst hcf (hfi rfl) (by rw [q2]; exact h6) q1 q3 hlt rfl rfl d fun H1 e1 e2 e3 => key H1 _ e1 e2 e3 (hS.put e2 e3 (by show base + 1 ≤ base + a; omega))
theorem fv_I {i i' : Nat → Int32} {g : Nat → Int64} {r : Nat → Nat} {ci j : Nat} (h : i' j = i j) : fv base i' g r ci j = fv base i g r ci j := by simp only [fv, h]
theorem g_putI (C : GC base D cA p s m args meth c cc nL own) {α : Type} {f : Hp → Option α} {X : α} {a idx ci k : Nat} {v : Int32} (fin : Bool) (d : decode cc pc = .ok (.putfield idx, 3)) (F : FL own idx ci k .int) (P : FP own ci k fin) (hfi : fin = true → meth.name = "<init>") (k0 : fk ci k = 0) (E : putI h a ci k v f = some X) (kk : ∀ h2 : Hp, f h2 = some X → GW base D cA p l e R s m args below meth c Q nL h2 cells slots (pc + 3) lv st) : GW base D cA p l e R s m args below meth c Q nL h cells slots pc lv (.int v :: .ref (base + a) :: st) := by
  obtain ⟨hc, E⟩ := ite_some E
  refine g_put (h' := sI h a k v) C d F fin P hfi hc rfl rfl rfl rfl (fun b hb => hE_sI hb) ?_ (fun j hj => ?_) (kk _ E)
  · show fv base (up2 (hI h) a k v a) (hL h a) (hR h a) ci k = _
    simp [fv, k0, up2]
  · show fv base (up2 (hI h) a k v a) (hL h a) (hR h a) ci j = _
    exact fv_I (by simp [up2, hj])
theorem g_putZ (C : GC base D cA p s m args meth c cc nL own) {α : Type} {f : Hp → Option α} {X : α} {a idx ci k : Nat} {v : Int32} (fin : Bool) (d : decode cc pc = .ok (.putfield idx, 3)) (F : FL own idx ci k .boolean) (P : FP own ci k fin) (hfi : fin = true → meth.name = "<init>") (k0 : fk ci k = 3) (E : putZ h a ci k v f = some X) (kk : ∀ h2 : Hp, f h2 = some X → GW base D cA p l e R s m args below meth c Q nL h2 cells slots (pc + 3) lv st) : GW base D cA p l e R s m args below meth c Q nL h cells slots pc lv (.int v :: .ref (base + a) :: st) := by
  obtain ⟨⟨hc, hv⟩, E⟩ := ite_some E
  refine g_put (h' := sI h a k v) C d F fin P hfi hc (by rcases hv with rfl | rfl <;> rfl) (by rcases hv with rfl | rfl <;> rfl) rfl rfl (fun b hb => hE_sI hb) ?_ (fun j hj => ?_) (kk _ E)
  · show fv base (up2 (hI h) a k v a) (hL h a) (hR h a) ci k = _
    simp [fv, k0, up2]
  · show fv base (up2 (hI h) a k v a) (hL h a) (hR h a) ci j = _
    exact fv_I (by simp [up2, hj])
theorem g_putL (C : GC base D cA p s m args meth c cc nL own) {α : Type} {f : Hp → Option α} {X : α} {a idx ci k : Nat} {v : Int64} (fin : Bool) (d : decode cc pc = .ok (.putfield idx, 3)) (F : FL own idx ci k .long) (P : FP own ci k fin) (hfi : fin = true → meth.name = "<init>") (k0 : fk ci k = 1) (E : putL h a ci k v f = some X) (kk : ∀ h2 : Hp, f h2 = some X → GW base D cA p l e R s m args below meth c Q nL h2 cells slots (pc + 3) lv st) : GW base D cA p l e R s m args below meth c Q nL h cells slots pc lv (.long v :: .ref (base + a) :: st) := by
  obtain ⟨hc, E⟩ := ite_some E
  refine g_put (h' := sL h a k v) C d F fin P hfi hc rfl rfl rfl rfl (fun b hb => hE_sL hb) ?_ (fun j hj => ?_) (kk _ E)
  · show fv base (hI h a) (up2 (hL h) a k v a) (hR h a) ci k = _
    simp [fv, k0, up2]
  · show fv base (hI h a) (up2 (hL h) a k v a) (hR h a) ci j = _
    simp [fv, up2, hj]
theorem g_putR (C : GC base D cA p s m args meth c cc nL own) {α : Type} {f : Hp → Option α} {X : α} {a idx ci k v : Nat} {ty : FieldType} (fin : Bool) (d : decode cc pc = .ok (.putfield idx, 3)) (F : FL own idx ci k ty) (hty : narrow ty (.ref (base + v)) = .ref (base + v) ∧ fits ty (.ref (base + v)) = true) (P : FP own ci k fin) (hfi : fin = true → meth.name = "<init>") (k0 : fk ci k = 2) (E : putR h a ci k v f = some X) (kk : ∀ h2 : Hp, f h2 = some X → GW base D cA p l e R s m args below meth c Q nL h2 cells slots (pc + 3) lv st) : GW base D cA p l e R s m args below meth c Q nL h cells slots pc lv (.ref (base + v) :: .ref (base + a) :: st) := by
  obtain ⟨⟨hc, hv⟩, E⟩ := ite_some E
  refine g_put (h' := sR h a k v) C d F fin P hfi hc hty.1 hty.2 rfl rfl (fun b hb => hE_sR hb) ?_ (fun j hj => ?_) (kk _ E)
  · show fv base (hI h a) (hL h a) (up2 (hR h) a k v a) ci k = _
    simp [fv, k0, up2, rA, hv, va_rf]
  · show fv base (hI h a) (hL h a) (up2 (hR h) a k v a) ci j = _
    simp [fv, up2, hj]
theorem g_iald (C : GC base D cA p s m args meth c cc nL own) {α : Type} {f : Int32 → Option α} {X : α} {a : Nat} {i : Int32} (d : decode cc pc = .ok (.iaload, 1)) (E : ldI h a 20 i f = some X) (kk : ∀ x : Int32, f x = some X → GW base D cA p l e R s m args below meth c Q nL h cells slots (pc + 1) lv (.int x :: st)) : GW base D cA p l e R s m args below meth c Q nL h cells slots pc lv (.int i :: .ref (base + a) :: st) := by
  intro H locs ls hRp hS hl
  obtain ⟨⟨hc, hi⟩, E⟩ := ite_some E
  obtain ⟨h1, h2, he⟩ := hRp.at (a := a) (by omega)
  rw [hE_int hc (by omega) (by omega)] at he
  exact va_iald C.1 C.2.1 C.2.2.2.2.2.1 hRp.2.1 (a - 1) 0 he rfl (vpin_of hi) d (kk _ E H locs ls hRp hS hl)
theorem g_cald (C : GC base D cA p s m args meth c cc nL own) {α : Type} {f : Int32 → Option α} {X : α} {a : Nat} {i : Int32} (d : decode cc pc = .ok (.caload, 1)) (E : ldI h a 21 i f = some X) (kk : ∀ x : Int32, f x = some X → GW base D cA p l e R s m args below meth c Q nL h cells slots (pc + 1) lv (.int x :: st)) : GW base D cA p l e R s m args below meth c Q nL h cells slots pc lv (.int i :: .ref (base + a) :: st) := by
  intro H locs ls hRp hS hl
  obtain ⟨⟨hc, hi⟩, E⟩ := ite_some E
  obtain ⟨h1, h2, he⟩ := hRp.at (a := a) (by omega)
  rw [hE_int hc (by omega) (by omega)] at he
  exact va_cald C.1 C.2.1 C.2.2.2.2.2.1 hRp.2.1 (a - 1) 1 he rfl (vpin_of hi) d (kk _ E H locs ls hRp hS hl)
theorem g_aald (C : GC base D cA p s m args meth c cc nL own) {α : Type} {f : Nat → Option α} {X : α} {a ak : Nat} {i : Int32} {Cn : String} (t0 : Nat) (h22 : 22 ≤ ak) (h99 : ak < 99) (ht : (tyL cA)[t0]? = some (cA ak, .object Cn)) (d : decode cc pc = .ok (.aaload, 1)) (E : ldR h a ak i f = some X) (kk : ∀ x : Nat, f x = some X → GW base D cA p l e R s m args below meth c Q nL h cells slots (pc + 1) lv (.ref (base + x) :: st)) : GW base D cA p l e R s m args below meth c Q nL h cells slots pc lv (.int i :: .ref (base + a) :: st) := by
  intro H locs ls hRp hS hl
  obtain ⟨⟨hc, hi, hnz⟩, E⟩ := ite_some E
  obtain ⟨h1, h2, he⟩ := hRp.at (a := a) (by omega)
  rw [hE_ref hc h22] at he
  refine va_aldq C.1 C.2.1 C.2.2.2.2.2.1 hRp.2.1 (a - 1) t0 he ht (vpin_of hi) d ?_
  simp only [rA, if_neg hnz, va_rf]
  exact kk _ E H locs ls hRp hS hl
theorem g_iast (C : GC base D cA p s m args meth c cc nL own) {α : Type} {f : Hp → Option α} {X : α} {a : Nat} {i v : Int32} (d : decode cc pc = .ok (.iastore, 1)) (E : stI h a 20 i v f = some X) (kk : ∀ h2 : Hp, f h2 = some X → GW base D cA p l e R s m args below meth c Q nL h2 cells slots (pc + 1) lv st) : GW base D cA p l e R s m args below meth c Q nL h cells slots pc lv (.int v :: .int i :: .ref (base + a) :: st) := by
  intro H locs ls hRp hS hl
  obtain ⟨⟨hc, hi⟩, E⟩ := ite_some E
  obtain ⟨h1, h2, he⟩ := hRp.at (a := a) (by omega)
  rw [hE_int hc (by omega) (by omega)] at he
  refine W.iast C.1 C.2.1 (hRp.2.1 _ _ he) ((C.2.2.2.2.2.1.2 0 _ rfl).1 (hT h a).2 (fun j => .int (hI h a j))) (fun q => by cases q) (by show ¬ (i < 0 ∨ (arrV _ _ _).slots.size ≤ _); rw [arrV_size]; exact vpin_of hi) rfl rfl d fun H1 e z oq => ?_
  refine kk _ E H1 _ ls (hRp.set rfl rfl h1 h2 (fun b hb => hE_sI hb) ?_ z oq) (hS.put z oq (by show base + 1 ≤ base + a; omega)) hl
  rw [hE_int (show (hT (sI h a i.toNatClampNeg v) a).1 = 20 from hc) (by omega) (by omega)]
  show H1[base + a]? = some (vp_cell _ _)
  rw [e, vp_cell_i, vp_cell_i, arrV_store]
  show some (arrV _ _ _) = some (arrV _ _ (fun j => Value.int (up2 (hI h) a i.toNatClampNeg v a j)))
  congr 2
  funext q
  by_cases hq : q = i.toNatClampNeg <;> simp [updV, up2, hq]
theorem g_cast (C : GC base D cA p s m args meth c cc nL own) {α : Type} {f : Hp → Option α} {X : α} {a : Nat} {i v : Int32} (d : decode cc pc = .ok (.castore, 1)) (E : stI h a 21 i (vp_nar .char v) f = some X) (kk : ∀ h2 : Hp, f h2 = some X → GW base D cA p l e R s m args below meth c Q nL h2 cells slots (pc + 1) lv st) : GW base D cA p l e R s m args below meth c Q nL h cells slots pc lv (.int v :: .int i :: .ref (base + a) :: st) := by
  intro H locs ls hRp hS hl
  obtain ⟨⟨hc, hi⟩, E⟩ := ite_some E
  obtain ⟨h1, h2, he⟩ := hRp.at (a := a) (by omega)
  rw [hE_int hc (by omega) (by omega)] at he
  refine W.cast C.1 C.2.1 (hRp.2.1 _ _ he) ((C.2.2.2.2.2.1.2 1 _ rfl).1 (hT h a).2 (fun j => .int (hI h a j))) (fun q => by cases q) (by show ¬ (i < 0 ∨ (arrV _ _ _).slots.size ≤ _); rw [arrV_size]; exact vpin_of hi) rfl rfl d fun H1 e z oq => ?_
  refine kk _ E H1 _ ls (hRp.set rfl rfl h1 h2 (fun b hb => hE_sI hb) ?_ z oq) (hS.put z oq (by show base + 1 ≤ base + a; omega)) hl
  rw [hE_int (show (hT (sI h a i.toNatClampNeg (vp_nar .char v)) a).1 = 21 from hc) (by omega) (by omega)]
  show H1[base + a]? = some (vp_cell _ _)
  rw [e, vp_cell_i, vp_cell_i, arrV_store]
  show some (arrV _ _ _) = some (arrV _ _ (fun j => Value.int (up2 (hI h) a i.toNatClampNeg (vp_nar .char v) a j)))
  congr 2
  funext q
  by_cases hq : q = i.toNatClampNeg <;> simp [updV, up2, hq, vp_nar, narrow]
theorem g_aast (C : GC base D cA p s m args meth c cc nL own) {α : Type} {f : Hp → Option α} {X : α} {a ak cv v : Nat} {i : Int32} {r : vw_C} (t0 : Nat) (h22 : 22 ≤ ak) (h99 : ak < 99) (hcv : cv < 20) (ht : (tyL cA)[t0]? = some (cA ak, .object r.1)) (hcl : vwCl[cv]? = some r) (d : decode cc pc = .ok (.aastore, 1)) (E : stR h a ak cv i v f = some X) (kk : ∀ h2 : Hp, f h2 = some X → GW base D cA p l e R s m args below meth c Q nL h2 cells slots (pc + 1) lv st) : GW base D cA p l e R s m args below meth c Q nL h cells slots pc lv (.ref (base + v) :: .int i :: .ref (base + a) :: st) := by
  intro H locs ls hRp hS hl
  obtain ⟨⟨hc, hi, hkv⟩, E⟩ := ite_some E
  obtain ⟨h1, h2, he⟩ := hRp.at (a := a) (by omega)
  obtain ⟨g1, g2, hev⟩ := hRp.at (a := v) (by omega)
  rw [hE_ref hc h22] at he
  rw [hE_obj hkv hcv] at hev
  obtain ⟨r', hr', cellV, q1, q2, q3, -⟩ := hRp.2.1 _ _ hev
  have hcls := (C.2.2.2.2.2.1.1 cv r hcl).2
  obtain ⟨kA, comp, k1, k2, k3, -⟩ := (C.2.2.2.2.2.1.2 t0 _ ht).2
  have hcomp : comp = D.1 cv := Option.some.inj (k3.symm.trans hcls.1)
  subst hcomp
  obtain ⟨kC, hkC, -⟩ := hcls.2
  refine W.aast C.1 C.2.1 (hRp.2.1 _ _ he) (fun q h => by cases h) (fun h => by cases h) k1 k2 rfl hkC ⟨Int32.not_lt.mpr hi.1, by show _ < (arrV _ _ _).slots.size; rw [arrV_size]; exact hi.2⟩ q1 (fun q h => by rw [q3] at h; cases h) (by rw [q2]; exact hkC) (by rw [q2]; exact va_assign hcls) rfl rfl d fun H1 e z oq => ?_
  refine kk _ E H1 _ ls (hRp.set rfl rfl h1 h2 (fun b hb => hE_sR hb) ?_ z oq) (hS.put z oq (by show base + 1 ≤ base + a; omega)) hl
  rw [hE_ref (show (hT (sR h a i.toNatClampNeg v) a).1 = ak from hc) h22]
  show H1[base + a]? = some (vp_cell _ _)
  rw [e, vp_cell_q, vp_cell_q, arrV_store]
  show some (arrV _ _ _) = some (arrV _ _ (fun j => va_rf (rA base (up2 (hR h) a i.toNatClampNeg v a j))))
  congr 2
  funext q
  have hv0 : v ≠ 0 := by omega
  by_cases hq : q = i.toNatClampNeg <;> simp [updV, up2, hq, rA, hv0, va_rf]
theorem g_new (C : GC base D cA p s m args meth c cc nL own) {α : Type} {f : Nat → Hp → Option α} {X : α} {idx ci N : Nat} {Cn : String} {T : u_T} (ty : Nat → FieldType) (hty : ∀ k, k < N → parseFieldDescriptor (T k).2.2.1 = some (ty k)) (hcl : vwCl[ci]? = some (Cn, T, N)) (h20 : ci < 20) (hNf : N = nf ci) (hin : ∀ w ∈ u_ws Cn T N, w ∈ lw_tbl) (hl1 : Cond.classLink own idx Cn ∈ wsA) (hl2 : Cond.instantiable Cn N ∈ wsA) (hl3 : Cond.initialized Cn ∈ wsA) (hdf : ∀ j, j < N → defaultValue (ty j) = fv base (fun _ => 0) (fun _ => 0) (fun _ => 0) ci j) (hcells : cells + 1 ≤ R.cells) (hslots : slots + N ≤ R.slots) (d : decode cc pc = .ok (.new idx, 3)) (E : newO h ci f = some X)
    (kk : ∀ (x : Nat) (h2 : Hp), f x h2 = some X → GW base D cA p l e R s m args below meth c Q nL h2 (cells + 1) (slots + N) (pc + 3) lv (.ref (base + x) :: st)) : GW base D cA p l e R s m args below meth c Q nL h cells slots pc lv st := by
  intro H locs ls hRp hS hl
  have hts := C.2.2.2.2.1
  have hKn := C.2.2.2.2.2.1.1 ci _ hcl
  refine W.newcK C.1 C.2.1 C.2.2.2.1 (hts _ hl1) (hts _ hl2) (hts _ hl3) rfl d hcells hslots hKn.2.1 hRp.1 fun H1 kC hkC e1 z1 o1 => ?_
  have o2 : ∀ q : Nat, q < H.size → H1[q]? = H[q]? := fun q hq => o1 q (by rw [← hRp.1]; exact hq)
  have hsz := hRp.1
  have hs : va_S (AA base) s.heap H1 locs := ⟨Nat.le_trans hS.1 (by omega), fun x g1 g2 => (o2 x (Nat.lt_of_lt_of_le g1 hS.1)).trans (hS.2.1 x g1 g2), hS.2.2⟩
  refine W.eq (by rw [show base + 1 + hN h = base + (hN h + 1) by omega]) (kk _ _ E H1 locs ls (hRp.push rfl (fun a ha => ?_) (fun b hb => hE_nO hb) ?_ (by omega) o2) hs hl)
  · by_cases q : a = hN h + 1
    · omega
    · have ha' : (hT h a).1 < 99 := by
        have : hT (nO h ci 0) a = hT h a := if_neg q
        rw [this] at ha
        exact ha
      have := hRp.2.2 a ha'
      omega
  · rw [hE_nO_self]
    unfold cE
    rw [if_pos h20]
    refine ⟨_, hcl, (u_born ty hts (wsA_lays hin) hKn hkC e1 hty).to (fun j hj => ?_)⟩
    rw [hdf j hj]
    show _ = ((List.range (nf ci)).map (fv base (fun _ => 0) (fun _ => 0) (fun _ => 0) ci)).getD j .null
    rw [List.getD_eq_getElem?_getD, fv_at (by omega)]
    rfl
end GROWS
