/-! THE MODEL'S HEAP: ints, longs, references (0: null), what each cell is (kind, length), how many cells; the cell a of the model is the machine's cell base + a -/
abbrev Hp : Type := (Nat → Nat → Int32) × (Nat → Nat → Int64) × (Nat → Nat → Nat) × (Nat → Nat × Nat) × Nat
def hI (h : Hp) : Nat → Nat → Int32 := h.1
def hL (h : Hp) : Nat → Nat → Int64 := h.2.1
def hR (h : Hp) : Nat → Nat → Nat := h.2.2.1
def hT (h : Hp) : Nat → Nat × Nat := h.2.2.2.1
def hN (h : Hp) : Nat := h.2.2.2.2
def up2 {α : Type} (f : Nat → Nat → α) (a k : Nat) (v : α) : Nat → Nat → α := fun b j => if b = a ∧ j = k then v else f b j
def zr2 {α : Type} (f : Nat → Nat → α) (a : Nat) (v : α) : Nat → Nat → α := fun b j => if b = a then v else f b j
def sI (h : Hp) (a k : Nat) (v : Int32) : Hp := (up2 (hI h) a k v, hL h, hR h, hT h, hN h)
def sL (h : Hp) (a k : Nat) (v : Int64) : Hp := (hI h, up2 (hL h) a k v, hR h, hT h, hN h)
def sR (h : Hp) (a k : Nat) (v : Nat) : Hp := (hI h, hL h, up2 (hR h) a k v, hT h, hN h)
def nO (h : Hp) (c n : Nat) : Hp := (zr2 (hI h) (hN h + 1) 0, zr2 (hL h) (hN h + 1) 0, zr2 (hR h) (hN h + 1) 0, fun b => if b = hN h + 1 then (c, n) else hT h b, hN h + 1)
theorem up2_ne {α : Type} (f : Nat → Nat → α) {a b : Nat} (k : Nat) (v : α) (h : b ≠ a) : up2 f a k v b = f b := by
  funext j
  simp [up2, h]
theorem up2_eq {α : Type} (f : Nat → Nat → α) (a k : Nat) (v : α) : up2 f a k v a = fun j => if j = k then v else f a j := by
  funext j
  simp [up2]
theorem zr2_ne {α : Type} (f : Nat → Nat → α) {a b : Nat} (v : α) (h : b ≠ a) : zr2 f a v b = f b := by
  funext j
  simp [zr2, h]
theorem zr2_eq {α : Type} (f : Nat → Nat → α) (a : Nat) (v : α) : zr2 f a v a = fun _ => v := by
  funext j
  simp [zr2]
/-- the kind of a field: 0 int, 1 long, 2 a reference, 3 boolean; the number of a class's fields -/
def fk (c k : Nat) : Nat := match c with
  | 0 => 2
  | 1 => if k = 0 then 2 else 0
  | 2 => if k = 0 then 2 else 0
  | 4 => if k = 0 then 0 else 2
  | 5 => if k = 0 then 2 else 0
  | 6 => if k < 3 then 2 else if k = 7 then 3 else 0
  | 7 => if k = 0 then 2 else if k = 6 then 1 else 0
  | 8 => if k = 6 then 3 else 2
  | 9 => if k = 3 ∨ k = 5 ∨ k = 7 ∨ k = 10 then 0 else 2
  | _ => 0
def nf (c : Nat) : Nat := match c with
  | 0 => 3 | 1 => 2 | 2 => 10 | 3 => 5 | 4 => 3 | 5 => 2 | 6 => 11 | 7 => 8 | 8 => 7 | 9 => 13 | _ => 0
def rA (base r : Nat) : Option Nat := if r = 0 then none else some (base + r)
def fv (base : Nat) (i : Nat → Int32) (g : Nat → Int64) (r : Nat → Nat) (c k : Nat) : Value :=
  if fk c k = 1 then .long (g k) else if fk c k = 2 then va_rf (rA base (r k)) else .int (i k)
/-- the kinds of cells: 0 to 9 objects of the classes of vwCl; 20 ints, 21 chars, 22 Houses, 23 Leases, 24 Streets -/
def cE (base : Nat) (cA : Nat → ClassId) (t : Nat × Nat) (i : Nat → Int32) (g : Nat → Int64) (r : Nat → Nat) : va_E :=
  if t.1 < 20 then .inr (t.1, (List.range (nf t.1)).map (fv base i g r t.1)) else if t.1 < 22 then .inl (cA t.1, t.2, .inl i) else .inl (cA t.1, t.2, .inr (.inr (.inr (.inr (fun j => rA base (r j))))))
def hE (base : Nat) (cA : Nat → ClassId) (h : Hp) (a : Nat) : va_E := cE base cA (hT h a) (hI h a) (hL h a) (hR h a)
def wld (base : Nat) (cA : Nat → ClassId) (h : Hp) : va_W := (List.range' (base + 1) (hN h)).map (fun q => (q, hE base cA h (q - base)))
def AA (base : Nat) : Nat → Prop := fun q => base + 1 ≤ q
def Rp (base : Nat) (D : va_G) (cA : Nat → ClassId) (h : Hp) (H : Heap) : Prop := H.size = base + 1 + hN h ∧ va_P D vwCl (wld base cA h) H ∧ ∀ a : Nat, (hT h a).1 < 99 → 1 ≤ a ∧ a ≤ hN h
theorem wld_at {base : Nat} {cA : Nat → ClassId} (h : Hp) (j : Nat) : (wld base cA h)[j]? = if j < hN h then some (base + 1 + j, hE base cA h (j + 1)) else none := by
  unfold wld
  rw [List.getElem?_map]
  by_cases hj : j < hN h
  · rw [List.getElem?_range' hj, if_pos hj]
    simp only [Option.map_some, Nat.one_mul]
    rw [show base + 1 + j - base = j + 1 by omega]
  · rw [List.getElem?_eq_none (by rw [List.length_range']; omega), if_neg hj]
    rfl
theorem wld_get {base : Nat} {cA : Nat → ClassId} (h : Hp) {a : Nat} (h1 : 1 ≤ a) (h2 : a ≤ hN h) : (wld base cA h)[a - 1]? = some (base + a, hE base cA h a) := by
  rw [wld_at, if_pos (by omega), show base + 1 + (a - 1) = base + a by omega, show a - 1 + 1 = a by omega]
theorem wld_D {base : Nat} {cA : Nat → ClassId} (h : Hp) : va_D (AA base) (wld base cA h) := by
  refine ⟨fun i j p q hi hj e => ?_, fun k q hk => ?_⟩
  · rw [wld_at] at hi hj
    split at hi <;> cases hi
    split at hj <;> cases hj
    dsimp only at e
    omega
  · rw [wld_at] at hk
    split at hk <;> cases hk
    show base + 1 ≤ base + 1 + k
    omega
theorem wld_set {base : Nat} {cA : Nat → ClassId} {h h' : Hp} {a : Nat} {e : va_E} (hn : hN h' = hN h) (h1 : 1 ≤ a) (h2 : a ≤ hN h) (he : hE base cA h' a = e) (ho : ∀ b : Nat, b ≠ a → hE base cA h' b = hE base cA h b) : (wld base cA h).set (a - 1) (base + a, e) = wld base cA h' := by
  apply List.ext_getElem?
  intro j
  by_cases hj : j = a - 1
  · subst hj
    have hl : a - 1 < (wld base cA h).length := by
      unfold wld
      rw [List.length_map, List.length_range']
      omega
    rw [List.getElem?_set_self hl, wld_at, if_pos (by omega), ← he, show base + 1 + (a - 1) = base + a by omega, show a - 1 + 1 = a by omega]
  · rw [List.getElem?_set_ne (Ne.symm hj), wld_at, wld_at, hn]
    split
    · rw [ho (j + 1) (by omega)]
    · rfl
theorem wld_push {base : Nat} {cA : Nat → ClassId} {h h' : Hp} {e : va_E} (hn : hN h' = hN h + 1) (he : hE base cA h' (hN h + 1) = e) (ho : ∀ b : Nat, b ≠ hN h + 1 → hE base cA h' b = hE base cA h b) : wld base cA h ++ [(base + 1 + hN h, e)] = wld base cA h' := by
  have hl : (wld base cA h).length = hN h := by
    unfold wld
    rw [List.length_map, List.length_range']
  apply List.ext_getElem?
  intro j
  rcases Nat.lt_trichotomy j (hN h) with hj | hj | hj
  · rw [List.getElem?_append_left (by omega), wld_at, wld_at, if_pos hj, if_pos (by omega), ho (j + 1) (by omega)]
  · subst hj
    rw [List.getElem?_append_right (by omega), hl, Nat.sub_self, wld_at, if_pos (by omega), he]
    rfl
  · rw [List.getElem?_append_right (by omega), hl, wld_at, if_neg (by omega)]
    exact List.getElem?_eq_none (by simp only [List.length_singleton]; omega)
theorem hE_obj {base : Nat} {cA : Nat → ClassId} {h : Hp} {a c : Nat} (hc : (hT h a).1 = c) (h10 : c < 20) : hE base cA h a = .inr (c, (List.range (nf c)).map (fv base (hI h a) (hL h a) (hR h a) c)) := by
  subst hc
  unfold hE cE
  rw [if_pos h10]
theorem hE_int {base : Nat} {cA : Nat → ClassId} {h : Hp} {a c : Nat} (hc : (hT h a).1 = c) (h1 : 20 ≤ c) (h2 : c < 22) : hE base cA h a = .inl (cA c, (hT h a).2, .inl (hI h a)) := by
  subst hc
  unfold hE cE
  rw [if_neg (by omega), if_pos h2]
theorem hE_ref {base : Nat} {cA : Nat → ClassId} {h : Hp} {a c : Nat} (hc : (hT h a).1 = c) (h1 : 22 ≤ c) : hE base cA h a = .inl (cA c, (hT h a).2, .inr (.inr (.inr (.inr (fun j => rA base (hR h a j)))))) := by
  subst hc
  unfold hE cE
  rw [if_neg (by omega), if_neg (by omega)]
theorem fv_set {base : Nat} {i i' : Nat → Int32} {g g' : Nat → Int64} {r r' : Nat → Nat} {c k : Nat} {v : Value} (hk : fv base i' g' r' c k = v) (ho : ∀ j, j ≠ k → fv base i' g' r' c j = fv base i g r c j) : ((List.range (nf c)).map (fv base i g r c)).set k v = (List.range (nf c)).map (fv base i' g' r' c) := by
  apply List.ext_getElem?
  intro j
  by_cases hj : j = k
  · subst hj
    by_cases hl : j < nf c
    · rw [List.getElem?_set_self (by rw [List.length_map, List.length_range]; exact hl), List.getElem?_map, List.getElem?_range hl, ← hk]
      rfl
    · rw [List.getElem?_eq_none (by rw [List.length_set, List.length_map, List.length_range]; omega), List.getElem?_eq_none (by rw [List.length_map, List.length_range]; omega)]
  · rw [List.getElem?_set_ne (Ne.symm hj), List.getElem?_map, List.getElem?_map]
    by_cases hl : j < nf c
    · rw [List.getElem?_range hl]
      simp only [Option.map_some]
      rw [ho j hj]
    · rw [List.getElem?_eq_none (by rw [List.length_range]; omega)]
      rfl
theorem fv_at {base : Nat} {i : Nat → Int32} {g : Nat → Int64} {r : Nat → Nat} {c k : Nat} (hk : k < nf c) : ((List.range (nf c)).map (fv base i g r c))[k]? = some (fv base i g r c k) := by
  rw [List.getElem?_map, List.getElem?_range hk]
  rfl
theorem hE_sI {base : Nat} {cA : Nat → ClassId} {h : Hp} {a k : Nat} {v : Int32} {b : Nat} (hb : b ≠ a) : hE base cA (sI h a k v) b = hE base cA h b := by
  show cE base cA (hT h b) (up2 (hI h) a k v b) (hL h b) (hR h b) = _
  rw [up2_ne _ _ _ hb]
  rfl
theorem hE_sL {base : Nat} {cA : Nat → ClassId} {h : Hp} {a k : Nat} {v : Int64} {b : Nat} (hb : b ≠ a) : hE base cA (sL h a k v) b = hE base cA h b := by
  show cE base cA (hT h b) (hI h b) (up2 (hL h) a k v b) (hR h b) = _
  rw [up2_ne _ _ _ hb]
  rfl
theorem hE_sR {base : Nat} {cA : Nat → ClassId} {h : Hp} {a k : Nat} {v : Nat} {b : Nat} (hb : b ≠ a) : hE base cA (sR h a k v) b = hE base cA h b := by
  show cE base cA (hT h b) (hI h b) (hL h b) (up2 (hR h) a k v b) = _
  rw [up2_ne _ _ _ hb]
  rfl
theorem hE_nO {base : Nat} {cA : Nat → ClassId} {h : Hp} {c n : Nat} {b : Nat} (hb : b ≠ hN h + 1) : hE base cA (nO h c n) b = hE base cA h b := by
  show cE base cA (if b = hN h + 1 then (c, n) else hT h b) (zr2 (hI h) (hN h + 1) 0 b) (zr2 (hL h) (hN h + 1) 0 b) (zr2 (hR h) (hN h + 1) 0 b) = _
  rw [zr2_ne _ _ hb, zr2_ne _ _ hb, zr2_ne _ _ hb, if_neg hb]
  rfl
theorem hE_nO_self {base : Nat} {cA : Nat → ClassId} {h : Hp} {c n : Nat} : hE base cA (nO h c n) (hN h + 1) = cE base cA (c, n) (fun _ => 0) (fun _ => 0) (fun _ => 0) := by
  show cE base cA (if hN h + 1 = hN h + 1 then (c, n) else hT h (hN h + 1)) (zr2 (hI h) (hN h + 1) 0 (hN h + 1)) (zr2 (hL h) (hN h + 1) 0 (hN h + 1)) (zr2 (hR h) (hN h + 1) 0 (hN h + 1)) = _
  rw [zr2_eq, zr2_eq, zr2_eq, if_pos rfl]
/-- the words that all methods share; what else a method's start says of the launch -/
def wsA : List Cond := lw_tbl.filter goodWord
def kTy : Nat → FieldType := fun k => match k with
  | 20 => .int
  | 21 => .char
  | 22 => .object RX2
  | 23 => .object RX3
  | _ => .object RX6
def tyL (cA : Nat → ClassId) : List (ClassId × FieldType) := [(cA 20, .int), (cA 21, .char), (cA 22, .object RX2), (cA 23, .object RX3), (cA 24, .object RX6)]
def leastS : Nat → Int32 := fun k => match k with
  | 0 => 1000
  | 1 => 0
  | 2 => 10
  | _ => 20
def mostS : Nat → Int32 := fun k => match k with
  | 0 => 60000
  | 1 => 900
  | 2 => 2000
  | _ => 60
def LowS (base : Nat) (U : State) (H : Heap) : Prop :=
  va_Nw (.methodLinkNest RX8 31 yX0_init RX8) U ∧ va_Nw (.methodLinkNest RX8 38 yX5_init RX8) U ∧ va_Nw (.methodLinkNest RX6 61 yX3_init RX8) U ∧ va_Nw (.methodLinkNest RX6 69 yX8_isWithin RX8) U ∧ va_Nw (.methodLinkNest RX4 37 yX8_isWithin RX8) U ∧
  va_AO RX2 U ∧ va_AO RX3 U ∧ va_AO RX6 U ∧ ∃ b1 b2 : Nat, b1 ≤ base ∧ b2 ≤ base ∧ va_Z RX8 "LEAST_SETTING" "[I" (.ref b1) (AA base) U H ∧ va_Z RX8 "MOST_SETTING" "[I" (.ref b2) (AA base) U H ∧ va_X b1 4 leastS U H ∧ va_X b2 4 mostS U H
