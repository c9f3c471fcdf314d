/-! arrays made; the two static arrays -/
def ldS {α : Type} (tb : Nat → Int32) (i : Int32) (f : Int32 → Option α) : Option α := if 0 ≤ i ∧ i.toNatClampNeg < 4 then f (tb i.toNatClampNeg) else none
section GARR
variable {base : Nat} {D : va_G} {cA : Nat → ClassId} {p : Program} {l : Launch} {e : Env} {R : Room} {s : State} {m : MethodId} {args : Array Value} {below : List Frame} {meth : Method} {c : Code} {Q : State → Prop} {nL : Nat} {h : Hp} {cells slots pc : Nat} {lv : List (Nat × Value)} {st : List Value} {cc : ByteArray} {own : String}
theorem g_getsL (C : GC base D cA p s m args meth c cc nL own) {idx : Nat} (d : decode cc pc = .ok (.getstatic idx, 3)) (w : Cond.fieldLink own idx RX8 "LEAST_SETTING" "[I" ∈ wsA) (kk : ∀ b : Nat, b ≤ base → va_X b 4 leastS s s.heap → GW base D cA p l e R s m args below meth c Q nL h cells slots (pc + 3) lv (.ref b :: st)) : GW base D cA p l e R s m args below meth c Q nL h cells slots pc lv st := by
  intro H locs ls hRp hS hl
  obtain ⟨-, -, -, -, -, -, -, -, b1, b2, l1, l2, z1, z2, x1, x2⟩ := C.2.2.2.2.2.2.2.2
  exact va_gets C.1 C.2.1 z1 hS C.2.2.2.1 (C.2.2.2.2.1 _ w) (fun _ q => q) d (kk b1 l1 x1 H locs ls hRp hS hl)
theorem g_getsM (C : GC base D cA p s m args meth c cc nL own) {idx : Nat} (d : decode cc pc = .ok (.getstatic idx, 3)) (w : Cond.fieldLink own idx RX8 "MOST_SETTING" "[I" ∈ wsA) (kk : ∀ b : Nat, b ≤ base → va_X b 4 mostS s s.heap → GW base D cA p l e R s m args below meth c Q nL h cells slots (pc + 3) lv (.ref b :: st)) : GW base D cA p l e R s m args below meth c Q nL h cells slots pc lv st := by
  intro H locs ls hRp hS hl
  obtain ⟨-, -, -, -, -, -, -, -, b1, b2, l1, l2, z1, z2, x1, x2⟩ := C.2.2.2.2.2.2.2.2
  exact va_gets C.1 C.2.1 z2 hS C.2.2.2.1 (C.2.2.2.2.1 _ w) (fun _ q => q) d (kk b2 l2 x2 H locs ls hRp hS hl)
theorem g_sald (C : GC base D cA p s m args meth c cc nL own) {α : Type} {f : Int32 → Option α} {X : α} {b : Nat} {tb : Nat → Int32} {i : Int32} (hb : b ≤ base) (hX : va_X b 4 tb s s.heap) (d : decode cc pc = .ok (.iaload, 1)) (E : ldS tb i f = some X) (kk : ∀ x : Int32, f x = some X → GW base D cA p l e R s m args below meth c Q nL h cells slots (pc + 1) lv (.int x :: st)) : GW base D cA p l e R s m args below meth c Q nL h cells slots pc lv (.int i :: .ref b :: st) := by
  intro H locs ls hRp hS hl
  obtain ⟨hi, E⟩ := ite_some E
  have hz := C.2.2.2.2.2.2.2.1
  exact va_sld C.1 C.2.1 hX (by omega) (fun z => by have : base + 1 ≤ b := z; omega) hS (vpin_of hi) d (kk _ E H locs ls hRp hS hl)
/-- what a new cell's kind says of all kinds -/
theorem nO_kinds {H : Heap} {c0 n : Nat} (hRp : Rp base D cA h H) : ∀ a : Nat, (hT (nO h c0 n) a).1 < 99 → 1 ≤ a ∧ a ≤ hN h + 1 := by
  intro a ha
  by_cases q : a = hN h + 1
  · omega
  · have e : hT (nO h c0 n) a = hT h a := if_neg q
    rw [e] at ha
    have := hRp.2.2 a ha
    omega
theorem g_newa (C : GC base D cA p s m args meth c cc nL own) {α : Type} {f : Nat → Hp → Option α} {X : α} {ak cap : Nat} {n : Int32} {atype : ArrayType} {ty : FieldType} (t0 : Nat) (h20 : 20 ≤ ak) (h22 : ak < 22) (hty : newarray.typeOf atype = ty) (hz : defaultValue ty = .int 0) (hnm : ∀ (U : State) (cc : ClassId), va_RA U cc ty = (U.vm.findClass ("[" ++ ty.toString) = some cc)) (ht : (tyL cA)[t0]? = some (cA ak, ty)) (hw : Cond.arrayClass ty ∈ wsA) (hcap : cap * componentBytes ty ≤ 536870912) (hcells : cells + 1 ≤ R.cells) (hslots : slots + cap ≤ R.slots) (d : decode cc pc = .ok (.newarray atype, 2)) (E : newA h ak n cap f = some X)
    (kk : ∀ (x : Nat) (h2 : Hp), f x h2 = some X → GW base D cA p l e R s m args below meth c Q nL h2 (cells + 1) (slots + cap) (pc + 2) lv (.ref (base + x) :: st)) : GW base D cA p l e R s m args below meth c Q nL h cells slots pc lv (.int n :: st) := by
  intro H locs ls hRp hS hl
  subst hty
  obtain ⟨⟨hn, hc⟩, E⟩ := ite_some E
  have hK := C.2.2.2.2.2.1.2 t0 _ ht
  have hsz := hRp.1
  refine va_newaK (N := n.toNatClampNeg) C.1 C.2.1 (C.2.2.2.2.1 _ hw) rfl d rfl (Int32.not_lt.mpr hn) rfl (Nat.le_trans (Nat.mul_le_mul_right _ hc) hcap) hcells (by omega) hRp.1 fun H1 cA1 e1 z1 o1 hAr hNm => ?_
  have hA1 : cA1 = cA ak := by
    have h3 := hK.2
    rw [hnm] at h3
    exact Option.some.inj (hNm.symm.trans h3)
  subst hA1
  have o2 : ∀ q : Nat, q < H.size → H1[q]? = H[q]? := fun q hq => o1 q (by rw [← hRp.1]; exact hq)
  have hs : va_S (AA base) s.heap H1 locs := ⟨Nat.le_trans hS.1 (by omega), fun x g1 g2 => (o2 x (Nat.lt_of_lt_of_le g1 hS.1)).trans (hS.2.1 x g1 g2), hS.2.2⟩
  refine W.widen (k := cells + 1) (n := slots + cap) (Nat.le_refl _) (by omega) (W.eq (by rw [show base + 1 + hN h = base + (hN h + 1) by omega]) (kk _ _ E H1 locs ls (hRp.push rfl (nO_kinds hRp) (fun b hb => hE_nO hb) ?_ (by omega) o2) hs hl))
  rw [hE_nO_self]
  unfold cE
  rw [if_neg (by omega), if_pos h22]
  show H1[base + 1 + hN h]? = some (vp_cell _ _)
  rw [e1, hz, vp_cell_i]
theorem g_anew (C : GC base D cA p s m args meth c cc nL own) {α : Type} {f : Nat → Hp → Option α} {X : α} {ak cap idx : Nat} {n : Int32} {Cn : String} (t0 : Nat) (h22 : 22 ≤ ak) (ht : (tyL cA)[t0]? = some (cA ak, .object Cn)) (hw : Cond.classLink own idx Cn ∈ wsA) (hao : va_AO Cn s) (hcap : cap * 4 ≤ 536870912) (hcells : cells + 1 ≤ R.cells) (hslots : slots + cap ≤ R.slots) (d : decode cc pc = .ok (.anewarray idx, 3)) (E : newA h ak n cap f = some X)
    (kk : ∀ (x : Nat) (h2 : Hp), f x h2 = some X → GW base D cA p l e R s m args below meth c Q nL h2 (cells + 1) (slots + cap) (pc + 3) lv (.ref (base + x) :: st)) : GW base D cA p l e R s m args below meth c Q nL h cells slots pc lv (.int n :: st) := by
  intro H locs ls hRp hS hl
  obtain ⟨⟨hn, hc⟩, E⟩ := ite_some E
  obtain ⟨kA0, comp0, g1, g2, g3, g4⟩ := (C.2.2.2.2.2.1.2 t0 _ ht).2
  have hsz := hRp.1
  refine W.anew C.1 C.2.1 C.2.2.2.1 (C.2.2.2.2.1 _ hw) (va_AO.use hao) rfl d rfl (Int32.not_lt.mpr hn) (by omega) hcells (by omega) fun cA1 kA comp f1 f2 f3 f4 => ?_
  have hA1 : cA1 = cA ak := Option.some.inj (f1.symm.trans g4)
  subst hA1
  generalize hH1 : H.push ({ cls := cA ak, slots := Array.replicate n.toNatClampNeg .null, vm := .none } : Cell) = H1
  have z1 : H1.size = H.size + 1 := by rw [← hH1, Array.size_push]
  have e1 : H1[H.size]? = some (arrV (cA ak) n.toNatClampNeg (fun _ => .null)) := by rw [← hH1, Array.getElem?_push_size, ← arrV_new]
  have o2 : ∀ q : Nat, q < H.size → H1[q]? = H[q]? := fun q hq => by rw [← hH1, Array.getElem?_push, if_neg (Nat.ne_of_lt hq)]
  have hs : va_S (AA base) s.heap H1 locs := ⟨Nat.le_trans hS.1 (by omega), fun x g1 g2 => (o2 x (Nat.lt_of_lt_of_le g1 hS.1)).trans (hS.2.1 x g1 g2), hS.2.2⟩
  refine W.widen (k := cells + 1) (n := slots + cap) (Nat.le_refl _) (by omega) (W.eq (by rw [hsz, show base + 1 + hN h = base + (hN h + 1) by omega]) (kk _ _ E H1 locs ls (hRp.push rfl (nO_kinds hRp) (fun b hb => hE_nO hb) ?_ z1 o2) hs hl))
  rw [hE_nO_self]
  unfold cE
  rw [if_neg (by omega), if_neg (by omega)]
  show H1[base + 1 + hN h]? = some (vp_cell _ _)
  rw [← hsz, e1, vp_cell_q]
  rfl
end GARR
