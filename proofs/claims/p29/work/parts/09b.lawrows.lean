/-! rows for what the law alone does -/
def shrI (x y : Int32) : Int32 := x >>> (y &&& 31)
def remI {α : Type} (x y : Int32) (f : Int32 → Option α) : Option α := if y = 0 then none else f (x - x / y * y)
/-- a ghost: how many calls that make cells the law has done -/
def lim {α : Type} (g : Nat) (f : Option α) : Option α := if g < 400 then f else none
theorem lim_some {α : Type} {g : Nat} {f : Option α} {x : α} (E : lim g f = some x) : g < 400 ∧ f = some x := ite_some E
def cellF (L : Nat) (xs : Nat → Int32) (k : Int32) : Int32 := if nI L ≤ k then 1116352409 * (k + 1) + 1899447441 else xs k.toNatClampNeg
def cellB {α : Type} (L : Nat) (xs : Nat → Int32) (k : Int32) (f : Int32 → Option α) : Option α := if 0 ≤ k ∧ L < 2 ^ 31 then f (cellF L xs k) else none
theorem ret0_no {X : Int32 × Hp} (hX1 : X.1 = 1) {h : Hp} : ¬ retZ 0 h = some X := by
  intro E
  obtain ⟨_, E⟩ := ite_some E
  cases E
  exact absurd (show (0 : Int32) = 1 from hX1) (by decide)
section GLAW
variable {base : Nat} {D : va_G} {cA : Nat → ClassId} {p : Program} {l : Launch} {e : Env} {R : Room} {s : State} {m : MethodId} {args : Array Value} {below : List Frame} {meth : Method} {c : Code} {Q : State → Prop} {nL : Nat} {h : Hp} {cells slots pc : Nat} {lv : List (Nat × Value)} {st : List Value} {cc : ByteArray} {own : String}
theorem g_sld (C : GC base D cA p s m args meth c cc nL own) {b L j : Nat} {xs : Nat → Int32} {x : Int32} (hX : va_X b L xs s s.heap) (hbl : b < s.heap.size) (hbA : ¬ AA base b) (hx : x = nI j) (hj : j < L) (hL : L < 2 ^ 31) (d : decode cc pc = .ok (.iaload, 1)) (kk : GW base D cA p l e R s m args below meth c Q nL h cells slots (pc + 1) lv (.int (xs j) :: st)) : GW base D cA p l e R s m args below meth c Q nL h cells slots pc lv (.int x :: .ref b :: st) := by
  intro H locs ls hRp hS hl
  subst hx
  refine va_sld C.1 C.2.1 hX hbl hbA hS (vp_in_nI hj hL) d ?_
  rw [nI_clamp (by omega)]
  exact kk H locs ls hRp hS hl
theorem g_slen (C : GC base D cA p s m args meth c cc nL own) {b L : Nat} {xs : Nat → Int32} (hX : va_X b L xs s s.heap) (hbl : b < s.heap.size) (hbA : ¬ AA base b) (d : decode cc pc = .ok (.arraylength, 1)) (kk : GW base D cA p l e R s m args below meth c Q nL h cells slots (pc + 1) lv (.int (nI L) :: st)) : GW base D cA p l e R s m args below meth c Q nL h cells slots pc lv (.ref b :: st) :=
  fun H locs ls hRp hS hl => va_slen C.1 C.2.1 hX hbl hbA hS d (kk H locs ls hRp hS hl)
theorem g_ifz (C : GC base D cA p s m args meth c cc nL own) {x : Int32} {off : Int} (tgt : Nat) (d : decode cc pc = .ok (.ifCond .eq off, 3)) (ht : (pc : Int) + off = (tgt : Int)) (kt : x = 0 → GW base D cA p l e R s m args below meth c Q nL h cells slots tgt lv st) (kf : ¬ x = 0 → GW base D cA p l e R s m args below meth c Q nL h cells slots (pc + 3) lv st) : GW base D cA p l e R s m args below meth c Q nL h cells slots pc lv (.int x :: st) :=
  fun H locs ls hR hS hl => lv_if_eq C.1 C.2.1 d ht (fun q => kt q H locs ls hR hS hl) (fun q => kf q H locs ls hR hS hl)
theorem g_same (C : GC base D cA p s m args meth c cc nL own) {x : Int32} {off : Int} (tgt : Nat) (d : decode cc pc = .ok (.if_icmp .eq off, 3)) (ht : (pc : Int) + off = (tgt : Int)) (kt : GW base D cA p l e R s m args below meth c Q nL h cells slots tgt lv st) : GW base D cA p l e R s m args below meth c Q nL h cells slots pc lv (.int x :: .int x :: st) :=
  fun H locs ls hR hS hl => lv_icmp_eq C.1 C.2.1 d ht (fun _ => kt H locs ls hR hS hl) (fun q => absurd rfl q)
theorem g_igt (C : GC base D cA p s m args meth c cc nL own) {x y : Int32} {off : Int} (tgt : Nat) (d : decode cc pc = .ok (.if_icmp .gt off, 3)) (ht : (pc : Int) + off = (tgt : Int)) (kt : y < x → GW base D cA p l e R s m args below meth c Q nL h cells slots tgt lv st) (kf : ¬ y < x → GW base D cA p l e R s m args below meth c Q nL h cells slots (pc + 3) lv st) : GW base D cA p l e R s m args below meth c Q nL h cells slots pc lv (.int y :: .int x :: st) :=
  fun H locs ls hR hS hl => lv_icmp_gt C.1 C.2.1 d ht (fun q => kt q H locs ls hR hS hl) (fun q => kf q H locs ls hR hS hl)
theorem g_ishr (C : GC base D cA p s m args meth c cc nL own) {x y : Int32} (d : decode cc pc = .ok (.ishr, 1)) (kk : GW base D cA p l e R s m args below meth c Q nL h cells slots (pc + 1) lv (.int (shrI x y) :: st)) : GW base D cA p l e R s m args below meth c Q nL h cells slots pc lv (.int y :: .int x :: st) :=
  fun H locs ls hR hS hl => lv_ishr C.1 C.2.1 d (kk H locs ls hR hS hl)
theorem g_irem (C : GC base D cA p s m args meth c cc nL own) {x y : Int32} {α : Type} {f : Int32 → Option α} {X : α} (d : decode cc pc = .ok (.irem, 1)) (E : remI x y f = some X) (kk : ∀ z : Int32, f z = some X → GW base D cA p l e R s m args below meth c Q nL h cells slots (pc + 1) lv (.int z :: st)) : GW base D cA p l e R s m args below meth c Q nL h cells slots pc lv (.int y :: .int x :: st) :=
  fun H locs ls hR hS hl => lv_irem C.1 C.2.1 d (ite_some2 E).1 (kk _ (ite_some2 E).2 H locs ls hR hS hl)
theorem g_dup_x2 (C : GC base D cA p s m args meth c cc nL own) {v w u : Value} (d : decode cc pc = .ok (.dup_x2, 1)) (hv : v.category = 1) (hw : w.category = 1) (hu : u.category = 1) (kk : GW base D cA p l e R s m args below meth c Q nL h cells slots (pc + 1) lv (v :: w :: u :: v :: st)) : GW base D cA p l e R s m args below meth c Q nL h cells slots pc lv (v :: w :: u :: st) :=
  fun H locs ls hR hS hl => lv_dup_x2 C.1 C.2.1 d hv hw hu (kk H locs ls hR hS hl)
theorem g_ige (C : GC base D cA p s m args meth c cc nL own) {x y : Int32} {off : Int} (tgt : Nat) (d : decode cc pc = .ok (.if_icmp .ge off, 3)) (ht : (pc : Int) + off = (tgt : Int)) (kt : y ≤ x → GW base D cA p l e R s m args below meth c Q nL h cells slots tgt lv st) (kf : ¬ y ≤ x → GW base D cA p l e R s m args below meth c Q nL h cells slots (pc + 3) lv st) : GW base D cA p l e R s m args below meth c Q nL h cells slots pc lv (.int y :: .int x :: st) :=
  fun H locs ls hR hS hl => lv_icmp_ge C.1 C.2.1 d ht (fun q => kt q H locs ls hR hS hl) (fun q => kf q H locs ls hR hS hl)
end GLAW
def PcS (base : Nat) (D : va_G) (cA : Nat → ClassId) (b L : Nat) (xs : Nat → Int32) (k : Int32) (h : Hp) : Array Value → State → Prop := va_Pc [.ref b, .int k] (fun U => Rp base D cA h U.heap ∧ va_K D vwCl (tyL cA) U ∧ LowS base U U.heap ∧ b ≤ base ∧ va_X b L xs U U.heap)
theorem PcS_blind {base : Nat} {D : va_G} {cA : Nat → ClassId} {b L : Nat} {xs : Nat → Int32} {k : Int32} {h : Hp} : FrameBlind (PcS base D cA b L xs k h) := by
  intro a U g mk q
  obtain ⟨q0, qR, qK, qL, qb, qX⟩ := q
  have hv := Vm.Alike.refl U.vm
  have z : PcG base D cA [.ref b, .int k] h a U := ⟨q0, qR, qK, qL⟩
  obtain ⟨z0, zR, zK, zL⟩ := PcG_blind a U g mk z
  exact ⟨z0, zR, zK, zL, qb, qX.moved (U := U.calling g mk a) hv⟩
abbrev rm_X10_cell : Room := { frames := 0, cells := 0, slots := 0, locals := 0 }
theorem o_X10_cell (l : Launch) (base : Nat) (D : va_G) (cA : Nat → ClassId) (b L : Nat) (xs : Nat → Int32) (k : Int32) (h : Hp) (h0 : 0 ≤ k) (hL : L < 2 ^ 31) : Met l yX10_cell (.code yX10_cell cX10_cell 2 (some .int) :: wsA) rm_X10_cell (PcS base D cA b L xs k h) (QcI base D cA (cellF L xs k) h) 0 0 (AA base) := by
  refine Met.ofW (cc := cX10_cell) (maxL := 2) (ret := some .int) (by decide) rfl ?_
  intro p e s m args below meth c s₁ B hml hv
  obtain ⟨rfl, hRp, hK, hLow, hb, hX⟩ := hv
  have hts := atoms_spec (ws := .code yX10_cell cX10_cell 2 (some .int) :: wsA) B.pre
  have hsz := hRp.1
  have hl := lv_entry [.ref b, .int k] (n := 2) (Nat.le_of_ble_eq_true rfl)
  rw [lg_entry_eq]
  generalize (lg_sl [.ref b, .int k] ++ List.replicate (2 - (lg_sl [.ref b, .int k]).length) Slot.unset).toArray = ls at hl ⊢
  have hr : meth.sig.returnType = some .int := B.returns
  have hbl : b < s.heap.size := by omega
  have hbA : ¬ AA base b := fun z => by
    have : base + 1 ≤ b := z
    omega
  have C : GC base D cA p s m #[Value.ref b, Value.int k] meth c cX10_cell 2 RX10 := ⟨B.exec, B.bytes, hml, findClass_of_methodNamed B.named, fun w hw => hts w (List.mem_cons_of_mem _ hw), hK, B.notSynchronized, by omega, hLow⟩
  have key : GW base D cA p l e rm_X10_cell s m #[Value.ref b, Value.int k] below meth c (MQ below (QcI base D cA (cellF L xs k) h) #[Value.ref b, Value.int k] s 0 0 (AA base)) 2 h 0 0 0 [(0, .ref b), (1, .int k)] [] := by
    refine g_iload_n C 1 dX10_cell_0 rfl rfl ?_
    refine g_aload_n C 0 dX10_cell_1 rfl rfl ?_
    refine g_slen C hX hbl hbA dX10_cell_2 ?_
    refine g_ige C 12 dX10_cell_3 (by decide) (fun q => ?_) (fun q => ?_)
    · refine g_ldc C 1116352409 dX10_cell_12 (in_wsA 524 (by decide +kernel) rfl) ?_
      refine g_iload_n C 1 dX10_cell_14 rfl rfl ?_
      refine g_iconst C 1 dX10_cell_15 rfl ?_
      refine g_iadd C dX10_cell_16 ?_
      refine g_imul C dX10_cell_17 ?_
      refine g_ldc C 1899447441 dX10_cell_18 (in_wsA 525 (by decide +kernel) rfl) ?_
      refine g_iadd C dX10_cell_20 ?_
      exact g_iret C dX10_cell_21 hr (by unfold cellF; rw [if_pos q]; rfl)
    · have hk : k = nI k.toNatClampNeg := by
        apply Int32.toInt_inj.mp
        have h1 := Int32.le_iff_toInt_le.mp h0
        rw [show (0 : Int32).toInt = 0 from by decide] at h1
        have h2 := Int32.toInt_lt k
        rw [nI_toInt (by rw [Int32.toNatClampNeg]; omega), Int32.toNatClampNeg]
        omega
      refine g_aload_n C 0 dX10_cell_6 rfl rfl ?_
      refine g_iload_n C 1 dX10_cell_7 rfl rfl ?_
      refine g_sld C hX hbl hbA (j := k.toNatClampNeg) hk ?_ hL dX10_cell_8 ?_
      · rw [hk] at q
        have hlt : k.toNatClampNeg < 2 ^ 31 := by
          have h2 := Int32.toInt_lt k
          rw [Int32.toNatClampNeg]
          omega
        have := (not_congr (nI_leI hL hlt)).mp q
        omega
      refine g_goto C 21 dX10_cell_9 (by decide) ?_
      exact g_iret C dX10_cell_21 hr (by unfold cellF; rw [if_neg q]; rfl)
  exact key s.heap [] ls hRp va_S.rf hl
theorem g_cell {base : Nat} {D : va_G} {cA : Nat → ClassId} {p : Program} {l : Launch} {e : Env} {R : Room} {s : State} {m : MethodId} {args : Array Value} {below : List Frame} {meth : Method} {c : Code} {Q : State → Prop} {nL : Nat} {h : Hp} {cells slots pc : Nat} {lv : List (Nat × Value)} {st : List Value} {cc : ByteArray} {own : String} (C : GC base D cA p s m args meth c cc nL own) {b L : Nat} {xs : Nat → Int32} (hX : va_X b L xs s s.heap) (hbl : b < s.heap.size) (hbA : ¬ AA base b) {α : Type} {f : Int32 → Option α} {X : α} {k : Int32} {idx : Nat} (d : decode cc pc = .ok (.invokestatic idx, 3)) (c1 : CL own idx yX10_cell cX10_cell 2 (some .int) 2) (c2 : Cond.static yX10_cell ∈ wsA) (hyc : yX10_cell.cls = own) (hR : 1 ≤ R.frames ∧ 8 + (2 + 11) ≤ R.locals) (hcat : (st.map fun v => v.category).sum ≤ 8) (hf1 : cells + 0 ≤ R.cells) (hf2 : slots + 0 ≤ R.slots) (E : cellB L xs k f = some X) (kk : ∀ r : Int32, f r = some X → GW base D cA p l e R s m args below meth c Q nL h (cells + 0) (slots + 0) (pc + 3) lv (.int r :: st)) : GW base D cA p l e R s m args below meth c Q nL h cells slots pc lv (.int k :: .ref b :: st) := by
  intro H locs ls hRp hS hl
  obtain ⟨⟨h0, hL⟩, E⟩ := ite_some E
  have hb : b ≤ base := by
    have z : ¬ (base + 1 ≤ b) := hbA
    omega
  have kp : H[b]? = s.heap[b]? := hS.2.1 b hbl hbA
  refine va_calli (va_runS (As := [.ref b, .int k]) (rest := st) ⟨C.1, C.2.1, C.2.2.1, C.2.2.2.1, C.2.2.2.2.1⟩ (o_X10_cell l base D cA b L xs k h h0 hL) (cwS 2 C.2.2.2.2.1 (good_wsA (wsS_sub c1 c2 hyc)) rfl rfl rfl ⟨hyc, c1.2.2.2⟩ ⟨by show 0 + 1 ≤ _; omega, by show 8 + (2 + 11) + 0 ≤ _; omega⟩) ⟨PcS_blind, fun U hU hW => ?_⟩ rfl rfl hl.1 rfl (lv_room hcat) d ⟨hf1, hf2⟩) hS (fun q _ hq => hq) (fun q hq => hq) (fun r1 u t H1 locs1 ht hvm hw hB hz hk hS1 => ?_)
  · obtain ⟨z0, zR, zK, zL⟩ := PcG_pre C (avs := [.ref b, .int k]) hRp hS U hU hW
    exact ⟨z0, zR, zK, zL, hb, by rw [hU]; exact (hX.moved hW.alike).kept kp⟩
  · cases hw
    rw [ht] at hB
    exact kk _ E H1 locs1 ls hB hS1 hl
