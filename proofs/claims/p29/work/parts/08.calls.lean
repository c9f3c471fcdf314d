/-! calls, returns, arrays made, switches: rows over the model's heap -/
def PcG (base : Nat) (D : va_G) (cA : Nat → ClassId) (avs : List Value) (h : Hp) : Array Value → State → Prop := va_Pc avs (fun U => Rp base D cA h U.heap ∧ va_K D vwCl (tyL cA) U ∧ LowS base U U.heap)
def QcI (base : Nat) (D : va_G) (cA : Nat → ClassId) (r : Int32) (h' : Hp) : Array Value → State → Outcome → State → Prop := va_Qi (fun v (_ : Unit) => v = r) (fun _ t => Rp base D cA h' t.heap) (AA base)
def QcU (base : Nat) (D : va_G) (cA : Nat → ClassId) (h' : Hp) : Array Value → State → Outcome → State → Prop := va_Qv (fun (_ : Unit) => True) (fun _ t => Rp base D cA h' t.heap) (AA base)
def QcR (base : Nat) (D : va_G) (cA : Nat → ClassId) (r : Nat) (h' : Hp) : Array Value → State → Outcome → State → Prop := va_Qr (fun (_ : Unit) => True) (fun _ a t => a = base + r ∧ Rp base D cA h' t.heap) (AA base)
theorem good_wsA {ws : List Cond} (h : ∀ w ∈ ws, w ∈ wsA) : GoodIn wsA ws := fun w hw => ⟨h w hw, good_of_word (List.mem_filter.mp (h w hw)).2⟩
theorem in_wsA {w : Cond} (n : Nat) (h : lw_tbl[n]? = some w) (hg : goodWord w = true) : w ∈ wsA := List.mem_filter.mpr ⟨List.mem_of_getElem? h, hg⟩
theorem LowS.go {base : Nat} {s U : State} {H : Heap} {locs : List Loc} (hb : base + 1 ≤ s.heap.size) (h : LowS base s s.heap) (hS : va_S (AA base) s.heap H locs) (hW : s.WarmedH U.vm) : LowS base U H := by
  obtain ⟨n1, n2, n3, n4, n5, o1, o2, o3, b1, b2, l1, l2, z1, z2, x1, x2⟩ := h
  have kp : ∀ b : Nat, b ≤ base → H[b]? = s.heap[b]? := fun b q => hS.2.1 b (by omega) (fun z => by have : base + 1 ≤ b := z; omega)
  exact ⟨n1.warmM hW, n2.warmM hW, n3.warmM hW, n4.warmM hW, n5.warmM hW, o1.moved hW.alike, o2.moved hW.alike, o3.moved hW.alike, b1, b2, l1, l2, (z1.moved hW.alike).kept (fun a q1 q2 => hS.2.1 a q1 q2), (z2.moved hW.alike).kept (fun a q1 q2 => hS.2.1 a q1 q2), (x1.moved hW.alike).kept (kp b1 l1), (x2.moved hW.alike).kept (kp b2 l2)⟩
theorem PcG_blind {base : Nat} {D : va_G} {cA : Nat → ClassId} {avs : List Value} {h : Hp} : FrameBlind (PcG base D cA avs h) := by
  intro a U g mk q
  obtain ⟨q0, qR, qK, n1, n2, n3, n4, n5, o1, o2, o3, b1, b2, l1, l2, z1, z2, x1, x2⟩ := q
  have hv := Vm.Alike.refl U.vm
  exact ⟨q0, qR, va_K.moved (u := U) (U := U.calling g mk a) hv qK, n1.same rfl rfl, n2.same rfl rfl, n3.same rfl rfl, n4.same rfl rfl, n5.same rfl rfl, o1.moved (U := U.calling g mk a) hv, o2.moved (U := U.calling g mk a) hv, o3.moved (U := U.calling g mk a) hv, b1, b2, l1, l2, z1.moved (U := U.calling g mk a) hv, z2.moved (U := U.calling g mk a) hv, x1.moved (U := U.calling g mk a) hv, x2.moved (U := U.calling g mk a) hv⟩
/-- a call's links: own class, its constant's place, the method, its code, its locals, what it returns, how many arguments -/
def CL (own : String) (idx : Nat) (y : MethodName) (b : ByteArray) (nLc : Nat) (ret : Option FieldType) (nA : Nat) : Prop :=
  Cond.methodLink own idx y ∈ wsA ∧ Cond.initialized y.cls ∈ wsA ∧ Cond.code y b nLc ret ∈ wsA ∧ (y.cls ≠ "java/lang/invoke/MethodHandle" ∧ y.cls ≠ "java/lang/invoke/VarHandle" ∧ (parseMethodDescriptor y.desc).map (fun d => d.parameters.length) = some nA)
def CLV (y : MethodName) : Prop := Cond.instanceMethod y ∈ wsA ∧ Cond.selects y.cls y y ∈ wsA
section GCALLS
variable {base : Nat} {D : va_G} {cA : Nat → ClassId} {p : Program} {l : Launch} {e : Env} {R : Room} {s : State} {m : MethodId} {args : Array Value} {below : List Frame} {meth : Method} {c : Code} {Q : State → Prop} {nL : Nat} {h : Hp} {cells slots pc : Nat} {lv : List (Nat × Value)} {st : List Value} {cc : ByteArray} {own : String}
theorem g_widen (k n : Nat) (h1 : cells ≤ k) (h2 : slots ≤ n) (kk : GW base D cA p l e R s m args below meth c Q nL h k n pc lv st) : GW base D cA p l e R s m args below meth c Q nL h cells slots pc lv st :=
  fun H locs ls hR hS hl => W.widen h1 h2 (kk H locs ls hR hS hl)
theorem g_sub {lv' : List (Nat × Value)} (ks : List Nat) (hs : lv_pick lv ks = lv') (kk : GW base D cA p l e R s m args below meth c Q nL h cells slots pc lv' st) : GW base D cA p l e R s m args below meth c Q nL h cells slots pc lv st :=
  fun H locs ls hR hS hl => kk H locs ls hR hS (lv_sub hl ks hs)
theorem g_lv {lv' : List (Nat × Value)} (hs : lv' = lv) (kk : GW base D cA p l e R s m args below meth c Q nL h cells slots pc lv' st) : GW base D cA p l e R s m args below meth c Q nL h cells slots pc lv st := hs ▸ kk
theorem g_iret (C : GC base D cA p s m args meth c cc nL own) {r v : Int32} {h' : Hp} (d : decode cc pc = .ok (.ireturn, 1)) (hr : meth.sig.returnType = some .int) (E : retI v h = some (r, h')) : GW base D cA p l e R s m args below meth c (MQ below (QcI base D cA r h') args s cells slots (AA base)) nL h cells slots pc lv [.int v] := by
  intro H locs ls hRp hS hl
  cases E
  exact W.iret C.1 C.2.1 hr (fun t ht _ => ⟨⟨_, (), rfl, rfl, (by rw [← ht] at hRp; exact hRp)⟩, hS.F ht⟩) hS.2.2 d C.2.2.2.2.2.2.1
theorem g_zret (C : GC base D cA p s m args meth c cc nL own) {r v : Int32} {h' : Hp} (d : decode cc pc = .ok (.ireturn, 1)) (hr : meth.sig.returnType = some .boolean) (E : retZ v h = some (r, h')) : GW base D cA p l e R s m args below meth c (MQ below (QcI base D cA r h') args s cells slots (AA base)) nL h cells slots pc lv [.int v] := by
  intro H locs ls hRp hS hl
  obtain ⟨hv, E⟩ := ite_some E
  cases E
  exact W.zret C.1 C.2.1 hr (by rcases hv with rfl | rfl <;> rfl) (fun t ht _ => ⟨⟨_, (), rfl, rfl, (by rw [← ht] at hRp; exact hRp)⟩, hS.F ht⟩) hS.2.2 d C.2.2.2.2.2.2.1
theorem g_cret (C : GC base D cA p s m args meth c cc nL own) {r v : Int32} {h' : Hp} (d : decode cc pc = .ok (.ireturn, 1)) (hr : meth.sig.returnType = some .char) (E : retC v h = some (r, h')) : GW base D cA p l e R s m args below meth c (MQ below (QcI base D cA r h') args s cells slots (AA base)) nL h cells slots pc lv [.int v] := by
  intro H locs ls hRp hS hl
  obtain ⟨hv, E⟩ := ite_some E
  cases E
  exact W.zret C.1 C.2.1 hr (congrArg Value.int hv) (fun t ht _ => ⟨⟨_, (), rfl, rfl, (by rw [← ht] at hRp; exact hRp)⟩, hS.F ht⟩) hS.2.2 d C.2.2.2.2.2.2.1
theorem g_vret (C : GC base D cA p s m args meth c cc nL own) {u : Unit} {h' : Hp} (d : decode cc pc = .ok (.return_, 1)) (hr : meth.sig.returnType = none) (E : retU h = some (u, h')) : GW base D cA p l e R s m args below meth c (MQ below (QcU base D cA h') args s cells slots (AA base)) nL h cells slots pc lv [] := by
  intro H locs ls hRp hS hl
  cases E
  exact W.vret C.1 C.2.1 hr (fun t ht _ => ⟨⟨(), rfl, trivial, (by rw [← ht] at hRp; exact hRp)⟩, hS.F ht⟩) hS.2.2 d C.2.2.2.2.2.2.1
theorem g_aret (C : GC base D cA p s m args meth c cc nL own) {r v : Nat} {h' : Hp} {n : String} (d : decode cc pc = .ok (.areturn, 1)) (hr : meth.sig.returnType = some (.object n)) (E : retR v h = some (r, h')) : GW base D cA p l e R s m args below meth c (MQ below (QcR base D cA r h') args s cells slots (AA base)) nL h cells slots pc lv [.ref (base + v)] := by
  intro H locs ls hRp hS hl
  cases E
  exact W.aret C.1 C.2.1 hr (Or.inl ⟨n, rfl⟩) (Or.inr ⟨_, rfl⟩) (fun t ht _ => ⟨⟨(), _, rfl, trivial, rfl, (by rw [← ht] at hRp; exact hRp)⟩, hS.F ht⟩) hS.2.2 d C.2.2.2.2.2.2.1
/-- a method's contract, from its body -/
theorem g_met {y : MethodName} {b : ByteArray} {nL : Nat} {ret : Option FieldType} {rm : Room} {Qc : Array Value → State → Outcome → State → Prop} {mc ms : Nat} (avs : List Value) (hy : plainName y.cls = true) (hn : (lg_sl avs).length ≤ nL)
    (body : ∀ (p : Program) (e : Env) (s : State) (m : MethodId) (args : Array Value) (below : List Frame) (meth : Method) (c : Code), GC base D cA p s m args meth c b nL y.cls → meth.sig.returnType = ret → meth.name = y.name → GW base D cA p l e rm s m args below meth c (MQ below Qc args s mc ms (AA base)) nL h 0 0 0 (lv_args 0 avs) []) : Met l y (.code y b nL ret :: wsA) rm (PcG base D cA avs h) Qc mc ms (AA base) := by
  refine Met.ofW (cc := b) (maxL := nL) (ret := ret) hy rfl ?_
  intro p e s m args below meth c s₁ B hml hv
  obtain ⟨rfl, hRp, hK, hLow⟩ := hv
  have hts := atoms_spec (ws := .code y b nL ret :: wsA) B.pre
  have hsz := hRp.1
  have hl := lv_entry avs (n := nL) hn
  rw [lg_entry_eq]
  generalize (lg_sl avs ++ List.replicate (nL - (lg_sl avs).length) Slot.unset).toArray = ls at hl ⊢
  exact body p e s m _ below meth c ⟨B.exec, B.bytes, hml, findClass_of_methodNamed B.named, fun w hw => hts w (List.mem_cons_of_mem _ hw), hK, B.notSynchronized, by omega, hLow⟩ B.returns (name_of_methodNamed B.named B.method).1 s.heap [] ls hRp va_S.rf hl
theorem code_sub {y : MethodName} {b : ByteArray} {nLc : Nat} {ret : Option FieldType} (h : Cond.code y b nLc ret ∈ wsA) : ∀ w ∈ (Cond.code y b nLc ret :: wsA : List Cond), w ∈ wsA := fun w hw => (List.mem_cons.mp hw).elim (fun q => by rw [q]; exact h) id
theorem wsV_sub {idx nLc nA : Nat} {y : MethodName} {b : ByteArray} {ret : Option FieldType} (c1 : CL own idx y b nLc ret nA) (c2 : CLV y) : ∀ w ∈ wsV own idx y.cls y (.code y b nLc ret :: wsA), w ∈ wsA := by
  intro w hw
  rcases List.mem_append.mp hw with q | q
  · simp only [List.mem_cons, List.not_mem_nil, or_false] at q
    rcases q with rfl | rfl | rfl | rfl
    · exact c1.1
    · exact c2.1
    · exact c2.2
    · exact c1.2.1
  · exact code_sub c1.2.2.1 w q
theorem wsS_sub {idx nLc nA : Nat} {y : MethodName} {b : ByteArray} {ret : Option FieldType} (c1 : CL own idx y b nLc ret nA) (c2 : Cond.static y ∈ wsA) (ho : y.cls = own) : ∀ w ∈ wsS own idx y (.code y b nLc ret :: wsA), w ∈ wsA := by
  intro w hw
  rcases List.mem_append.mp hw with q | q
  · simp only [List.mem_cons, List.not_mem_nil, or_false] at q
    rcases q with rfl | rfl | rfl
    · exact c1.1
    · exact c2
    · rw [← ho]; exact c1.2.1
  · exact code_sub c1.2.2.1 w q
theorem PcG_pre (C : GC base D cA p s m args meth c cc nL own) {H : Heap} {locs : List Loc} {avs : List Value} (hRp : Rp base D cA h H) (hS : va_S (AA base) s.heap H locs) (U : State) (hU : U.heap = H) (hW : s.WarmedH U.vm) : PcG base D cA avs h avs.toArray U :=
  ⟨rfl, by rw [hU]; exact hRp, va_K.moved hW.alike C.2.2.2.2.2.1, by rw [hU]; exact C.2.2.2.2.2.2.2.2.go C.2.2.2.2.2.2.2.1 hS hW⟩
theorem g_invI (C : GC base D cA p s m args meth c cc nL own) {α : Type} {f : Int32 → Hp → Option α} {X : α} {a idx ci nLc nA : Nat} {o : Rv Int32} {y : MethodName} {b : ByteArray} {ret : Option FieldType} {rm : Room} {q : vw_C} {stk : List Value} (As : List Value) (d : decode cc pc = .ok (.invokevirtual idx, 3)) (c1 : CL own idx y b nLc ret nA) (c2 : CLV y) (hcl : vwCl[ci]? = some q) (hci : ci < 20) (hyc : q.1 = y.cls) (hA : As.length = nA) (hR : rm.frames + 1 ≤ R.frames ∧ 8 + (nLc + 11) + rm.locals ≤ R.locals) (hcat : (st.map fun v => v.category).sum ≤ 8) (hf : cells + rm.cells ≤ R.cells ∧ slots + rm.slots ≤ R.slots) (hst : stk = As.reverse ++ .ref (base + a) :: st)
    (M : ∀ r' h', o = some (r', h') → Met l y (.code y b nLc ret :: wsA) rm (PcG base D cA (.ref (base + a) :: As) h) (QcI base D cA r' h') rm.cells rm.slots (AA base)) (E : inv h a ci o f = some X) (kk : ∀ r' h', f r' h' = some X → GW base D cA p l e R s m args below meth c Q nL h' (cells + rm.cells) (slots + rm.slots) (pc + 3) lv (.int r' :: st)) : GW base D cA p l e R s m args below meth c Q nL h cells slots pc lv stk := by
  intro H locs ls hRp hS hl
  obtain ⟨hc, E⟩ := ite_some E
  obtain ⟨r', h', ho, E⟩ := bnd_some E
  obtain ⟨h1, h2, he⟩ := hRp.at (a := a) (by omega)
  rw [hE_obj hc hci] at he
  obtain ⟨Cq, Tq, Nq⟩ := q
  cases hyc
  refine va_calli (va_runV (As := As) (rest := st) ⟨C.1, C.2.1, C.2.2.1, C.2.2.2.1, C.2.2.2.2.1⟩ (M r' h' ho) (cwV nA C.2.2.2.2.1 (good_wsA (wsV_sub c1 c2)) rfl rfl rfl ⟨rfl, c1.2.2.2⟩ hR) ⟨PcG_blind, va_recv C.2.2.2.2.2.1 hRp.2.1 hcl he, fun U hU hW => PcG_pre C hRp hS U hU hW⟩ rfl hA hl.1 hst (lv_room hcat) d hf) hS (fun q _ hq => hq) (fun q hq => hq) (fun r1 u t H1 locs1 ht hvm hw hB hz hk hS1 => ?_)
  cases hw
  rw [ht] at hB
  exact kk r' h' E H1 locs1 ls hB hS1 hl
theorem g_invU (C : GC base D cA p s m args meth c cc nL own) {α : Type} {f : Unit → Hp → Option α} {X : α} {a idx ci nLc nA : Nat} {o : Rv Unit} {y : MethodName} {b : ByteArray} {ret : Option FieldType} {rm : Room} {q : vw_C} {stk : List Value} (As : List Value) (d : decode cc pc = .ok (.invokevirtual idx, 3)) (c1 : CL own idx y b nLc ret nA) (c2 : CLV y) (hcl : vwCl[ci]? = some q) (hci : ci < 20) (hyc : q.1 = y.cls) (hA : As.length = nA) (hR : rm.frames + 1 ≤ R.frames ∧ 8 + (nLc + 11) + rm.locals ≤ R.locals) (hcat : (st.map fun v => v.category).sum ≤ 8) (hf : cells + rm.cells ≤ R.cells ∧ slots + rm.slots ≤ R.slots) (hst : stk = As.reverse ++ .ref (base + a) :: st)
    (M : ∀ r' h', o = some (r', h') → Met l y (.code y b nLc ret :: wsA) rm (PcG base D cA (.ref (base + a) :: As) h) (QcU base D cA h') rm.cells rm.slots (AA base)) (E : inv h a ci o f = some X) (kk : ∀ r' h', f r' h' = some X → GW base D cA p l e R s m args below meth c Q nL h' (cells + rm.cells) (slots + rm.slots) (pc + 3) lv st) : GW base D cA p l e R s m args below meth c Q nL h cells slots pc lv stk := by
  intro H locs ls hRp hS hl
  obtain ⟨hc, E⟩ := ite_some E
  obtain ⟨r', h', ho, E⟩ := bnd_some E
  obtain ⟨h1, h2, he⟩ := hRp.at (a := a) (by omega)
  rw [hE_obj hc hci] at he
  obtain ⟨Cq, Tq, Nq⟩ := q
  cases hyc
  refine va_callv (va_runV (As := As) (rest := st) ⟨C.1, C.2.1, C.2.2.1, C.2.2.2.1, C.2.2.2.2.1⟩ (M r' h' ho) (cwV nA C.2.2.2.2.1 (good_wsA (wsV_sub c1 c2)) rfl rfl rfl ⟨rfl, c1.2.2.2⟩ hR) ⟨PcG_blind, va_recv C.2.2.2.2.2.1 hRp.2.1 hcl he, fun U hU hW => PcG_pre C hRp hS U hU hW⟩ rfl hA hl.1 hst (lv_room hcat) d hf) hS (fun q _ hq => hq) (fun q hq => hq) (fun u t H1 locs1 ht hvm hw hB hz hk hS1 => ?_)
  
  rw [ht] at hB
  exact kk r' h' E H1 locs1 ls hB hS1 hl
theorem g_invR (C : GC base D cA p s m args meth c cc nL own) {α : Type} {f : Nat → Hp → Option α} {X : α} {a idx ci nLc nA : Nat} {o : Rv Nat} {y : MethodName} {b : ByteArray} {ret : Option FieldType} {rm : Room} {q : vw_C} {stk : List Value} (As : List Value) (d : decode cc pc = .ok (.invokevirtual idx, 3)) (c1 : CL own idx y b nLc ret nA) (c2 : CLV y) (hcl : vwCl[ci]? = some q) (hci : ci < 20) (hyc : q.1 = y.cls) (hA : As.length = nA) (hR : rm.frames + 1 ≤ R.frames ∧ 8 + (nLc + 11) + rm.locals ≤ R.locals) (hcat : (st.map fun v => v.category).sum ≤ 8) (hf : cells + rm.cells ≤ R.cells ∧ slots + rm.slots ≤ R.slots) (hst : stk = As.reverse ++ .ref (base + a) :: st)
    (M : ∀ r' h', o = some (r', h') → Met l y (.code y b nLc ret :: wsA) rm (PcG base D cA (.ref (base + a) :: As) h) (QcR base D cA r' h') rm.cells rm.slots (AA base)) (E : inv h a ci o f = some X) (kk : ∀ r' h', f r' h' = some X → GW base D cA p l e R s m args below meth c Q nL h' (cells + rm.cells) (slots + rm.slots) (pc + 3) lv (.ref (base + r') :: st)) : GW base D cA p l e R s m args below meth c Q nL h cells slots pc lv stk := by
  intro H locs ls hRp hS hl
  obtain ⟨hc, E⟩ := ite_some E
  obtain ⟨r', h', ho, E⟩ := bnd_some E
  obtain ⟨h1, h2, he⟩ := hRp.at (a := a) (by omega)
  rw [hE_obj hc hci] at he
  obtain ⟨Cq, Tq, Nq⟩ := q
  cases hyc
  refine va_callr (va_runV (As := As) (rest := st) ⟨C.1, C.2.1, C.2.2.1, C.2.2.2.1, C.2.2.2.2.1⟩ (M r' h' ho) (cwV nA C.2.2.2.2.1 (good_wsA (wsV_sub c1 c2)) rfl rfl rfl ⟨rfl, c1.2.2.2⟩ hR) ⟨PcG_blind, va_recv C.2.2.2.2.2.1 hRp.2.1 hcl he, fun U hU hW => PcG_pre C hRp hS U hU hW⟩ rfl hA hl.1 hst (lv_room hcat) d hf) hS (fun q _ hq => hq) (fun q hq => hq) (fun u ra t H1 locs1 ht hvm hw hB hz hk hS1 => ?_)
  obtain ⟨rfl, hB⟩ := hB
  rw [ht] at hB
  exact kk r' h' E H1 locs1 ls hB hS1 hl
theorem g_staI (C : GC base D cA p s m args meth c cc nL own) {α : Type} {f : Int32 → Hp → Option α} {X : α} {idx nLc nA : Nat} {o : Rv Int32} {y : MethodName} {b : ByteArray} {ret : Option FieldType} {rm : Room} {stk : List Value} (As : List Value) (d : decode cc pc = .ok (.invokestatic idx, 3)) (c1 : CL own idx y b nLc ret nA) (c2 : Cond.static y ∈ wsA) (hyc : y.cls = own) (hA : As.length = nA) (hR : rm.frames + 1 ≤ R.frames ∧ 8 + (nLc + 11) + rm.locals ≤ R.locals) (hcat : (st.map fun v => v.category).sum ≤ 8) (hf : cells + rm.cells ≤ R.cells ∧ slots + rm.slots ≤ R.slots) (hst : stk = As.reverse ++ st)
    (M : ∀ r' h', o = some (r', h') → Met l y (.code y b nLc ret :: wsA) rm (PcG base D cA As h) (QcI base D cA r' h') rm.cells rm.slots (AA base)) (E : bnd o f = some X) (kk : ∀ r' h', f r' h' = some X → GW base D cA p l e R s m args below meth c Q nL h' (cells + rm.cells) (slots + rm.slots) (pc + 3) lv (.int r' :: st)) : GW base D cA p l e R s m args below meth c Q nL h cells slots pc lv stk := by
  intro H locs ls hRp hS hl
  obtain ⟨r', h', ho, E⟩ := bnd_some E
  refine va_calli (va_runS (As := As) (rest := st) ⟨C.1, C.2.1, C.2.2.1, C.2.2.2.1, C.2.2.2.2.1⟩ (M r' h' ho) (cwS nA C.2.2.2.2.1 (good_wsA (wsS_sub c1 c2 hyc)) rfl rfl rfl ⟨hyc, c1.2.2.2⟩ hR) ⟨PcG_blind, fun U hU hW => PcG_pre C hRp hS U hU hW⟩ rfl hA hl.1 hst (lv_room hcat) d hf) hS (fun q _ hq => hq) (fun q hq => hq) (fun r1 u t H1 locs1 ht hvm hw hB hz hk hS1 => ?_)
  cases hw
  rw [ht] at hB
  exact kk r' h' E H1 locs1 ls hB hS1 hl
theorem g_staU (C : GC base D cA p s m args meth c cc nL own) {α : Type} {f : Unit → Hp → Option α} {X : α} {idx nLc nA : Nat} {o : Rv Unit} {y : MethodName} {b : ByteArray} {ret : Option FieldType} {rm : Room} {stk : List Value} (As : List Value) (d : decode cc pc = .ok (.invokestatic idx, 3)) (c1 : CL own idx y b nLc ret nA) (c2 : Cond.static y ∈ wsA) (hyc : y.cls = own) (hA : As.length = nA) (hR : rm.frames + 1 ≤ R.frames ∧ 8 + (nLc + 11) + rm.locals ≤ R.locals) (hcat : (st.map fun v => v.category).sum ≤ 8) (hf : cells + rm.cells ≤ R.cells ∧ slots + rm.slots ≤ R.slots) (hst : stk = As.reverse ++ st)
    (M : ∀ r' h', o = some (r', h') → Met l y (.code y b nLc ret :: wsA) rm (PcG base D cA As h) (QcU base D cA h') rm.cells rm.slots (AA base)) (E : bnd o f = some X) (kk : ∀ r' h', f r' h' = some X → GW base D cA p l e R s m args below meth c Q nL h' (cells + rm.cells) (slots + rm.slots) (pc + 3) lv st) : GW base D cA p l e R s m args below meth c Q nL h cells slots pc lv stk := by
  intro H locs ls hRp hS hl
  obtain ⟨r', h', ho, E⟩ := bnd_some E
  refine va_callv (va_runS (As := As) (rest := st) ⟨C.1, C.2.1, C.2.2.1, C.2.2.2.1, C.2.2.2.2.1⟩ (M r' h' ho) (cwS nA C.2.2.2.2.1 (good_wsA (wsS_sub c1 c2 hyc)) rfl rfl rfl ⟨hyc, c1.2.2.2⟩ hR) ⟨PcG_blind, fun U hU hW => PcG_pre C hRp hS U hU hW⟩ rfl hA hl.1 hst (lv_room hcat) d hf) hS (fun q _ hq => hq) (fun q hq => hq) (fun u t H1 locs1 ht hvm hw hB hz hk hS1 => ?_)
  
  rw [ht] at hB
  exact kk r' h' E H1 locs1 ls hB hS1 hl
theorem g_nstI (C : GC base D cA p s m args meth c cc nL own) {α : Type} {f : Int32 → Hp → Option α} {X : α} {idx nLc nA : Nat} {o : Rv Int32} {y : MethodName} {b : ByteArray} {ret : Option FieldType} {rm : Room} {stk : List Value} {host : String} (As : List Value) (d : decode cc pc = .ok (.invokestatic idx, 3)) (hln : va_Nw (.methodLinkNest own idx y host) s) (c1 : Cond.initialized y.cls ∈ wsA ∧ Cond.code y b nLc ret ∈ wsA ∧ (y.cls ≠ "java/lang/invoke/MethodHandle" ∧ y.cls ≠ "java/lang/invoke/VarHandle" ∧ (parseMethodDescriptor y.desc).map (fun d => d.parameters.length) = some nA)) (c2 : Cond.static y ∈ wsA) (hA : As.length = nA) (hR : rm.frames + 1 ≤ R.frames ∧ 8 + (nLc + 11) + rm.locals ≤ R.locals) (hcat : (st.map fun v => v.category).sum ≤ 8) (hf : cells + rm.cells ≤ R.cells ∧ slots + rm.slots ≤ R.slots) (hst : stk = As.reverse ++ st)
    (M : ∀ r' h', o = some (r', h') → Met l y (.code y b nLc ret :: wsA) rm (PcG base D cA As h) (QcI base D cA r' h') rm.cells rm.slots (AA base)) (E : bnd o f = some X) (kk : ∀ r' h', f r' h' = some X → GW base D cA p l e R s m args below meth c Q nL h' (cells + rm.cells) (slots + rm.slots) (pc + 3) lv (.int r' :: st)) : GW base D cA p l e R s m args below meth c Q nL h cells slots pc lv stk := by
  intro H locs ls hRp hS hl
  obtain ⟨r', h', ho, E⟩ := bnd_some E
  refine va_calli (va_runSN (Ts := wsA) (As := As) (rest := st) ⟨C.1, C.2.1, C.2.2.1, C.2.2.2.1, C.2.2.2.2.1⟩ (M r' h' ho) ⟨va_cnB nA C.2.2.2.2.1 (good_wsA (code_sub c1.2.1)) rfl rfl rfl hln (C.2.2.2.2.1 _ c1.1) c1.2.2 hR, C.2.2.2.2.1 _ c2, trivial⟩ ⟨PcG_blind, fun U hU hW => PcG_pre C hRp hS U hU hW⟩ rfl hA hl.1 hst (lv_room hcat) d hf) hS (fun q _ hq => hq) (fun q hq => hq) (fun r1 u t H1 locs1 ht hvm hw hB hz hk hS1 => ?_)
  cases hw
  rw [ht] at hB
  exact kk r' h' E H1 locs1 ls hB hS1 hl
theorem g_ini (C : GC base D cA p s m args meth c cc nL own) {α : Type} {f : Unit → Hp → Option α} {X : α} {a idx nLc nA : Nat} {o : Rv Unit} {y : MethodName} {b : ByteArray} {rm : Room} {stk : List Value} (As : List Value) (d : decode cc pc = .ok (.invokespecial idx, 3)) (c1 : CL own idx y b nLc none nA) (c2 : Cond.instanceMethod y ∈ wsA) (hyn : y.name = "<init>") (hA : As.length = nA) (hR : rm.frames + 1 ≤ R.frames ∧ 8 + (nLc + 11) + rm.locals ≤ R.locals) (hcat : (st.map fun v => v.category).sum ≤ 8) (hf : cells + rm.cells ≤ R.cells ∧ slots + rm.slots ≤ R.slots) (hst : stk = As.reverse ++ .ref (base + a) :: st)
    (M : ∀ r' h', o = some (r', h') → Met l y (.code y b nLc none :: wsA) rm (PcG base D cA (.ref (base + a) :: As) h) (QcU base D cA h') rm.cells rm.slots (AA base)) (E : bnd o f = some X) (kk : ∀ r' h', f r' h' = some X → GW base D cA p l e R s m args below meth c Q nL h' (cells + rm.cells) (slots + rm.slots) (pc + 3) lv st) : GW base D cA p l e R s m args below meth c Q nL h cells slots pc lv stk := by
  intro H locs ls hRp hS hl
  obtain ⟨r', h', ho, E⟩ := bnd_some E
  refine va_callv (va_runI (As := As) (rest := st) ⟨C.1, C.2.1, C.2.2.1, C.2.2.2.1, C.2.2.2.2.1⟩ (M r' h' ho) (cwI nA C.2.2.2.2.1 (good_wsA (code_sub c1.2.2.1)) rfl rfl rfl (C.2.2.2.2.1 _ c1.2.1) (C.2.2.2.2.1 _ c1.1) (C.2.2.2.2.1 _ c2) hyn c1.2.2.2 hR) ⟨PcG_blind, fun U hU hW => PcG_pre C hRp hS U hU hW⟩ rfl hA hl.1 hst (lv_room hcat) d hf) hS (fun q _ hq => hq) (fun q hq => hq) (fun u t H1 locs1 ht hvm hw hB hz hk hS1 => ?_)
  rw [ht] at hB
  exact kk r' h' E H1 locs1 ls hB hS1 hl
theorem g_nin (C : GC base D cA p s m args meth c cc nL own) {α : Type} {f : Unit → Hp → Option α} {X : α} {a idx nLc nA : Nat} {o : Rv Unit} {y : MethodName} {b : ByteArray} {rm : Room} {stk : List Value} {host : String} (As : List Value) (d : decode cc pc = .ok (.invokespecial idx, 3)) (hln : va_Nw (.methodLinkNest own idx y host) s) (c1 : Cond.initialized y.cls ∈ wsA ∧ Cond.code y b nLc none ∈ wsA ∧ (y.cls ≠ "java/lang/invoke/MethodHandle" ∧ y.cls ≠ "java/lang/invoke/VarHandle" ∧ (parseMethodDescriptor y.desc).map (fun d => d.parameters.length) = some nA)) (c2 : Cond.instanceMethod y ∈ wsA) (hyn : y.name = "<init>") (hA : As.length = nA) (hR : rm.frames + 1 ≤ R.frames ∧ 8 + (nLc + 11) + rm.locals ≤ R.locals) (hcat : (st.map fun v => v.category).sum ≤ 8) (hf : cells + rm.cells ≤ R.cells ∧ slots + rm.slots ≤ R.slots) (hst : stk = As.reverse ++ .ref (base + a) :: st)
    (M : ∀ r' h', o = some (r', h') → Met l y (.code y b nLc none :: wsA) rm (PcG base D cA (.ref (base + a) :: As) h) (QcU base D cA h') rm.cells rm.slots (AA base)) (E : bnd o f = some X) (kk : ∀ r' h', f r' h' = some X → GW base D cA p l e R s m args below meth c Q nL h' (cells + rm.cells) (slots + rm.slots) (pc + 3) lv st) : GW base D cA p l e R s m args below meth c Q nL h cells slots pc lv stk := by
  intro H locs ls hRp hS hl
  obtain ⟨r', h', ho, E⟩ := bnd_some E
  refine va_callv (va_runIN (Ts := wsA) (As := As) (rest := st) ⟨C.1, C.2.1, C.2.2.1, C.2.2.2.1, C.2.2.2.2.1⟩ (M r' h' ho) ⟨va_cnB nA C.2.2.2.2.1 (good_wsA (code_sub c1.2.1)) rfl rfl rfl hln (C.2.2.2.2.1 _ c1.1) c1.2.2 hR, hyn, C.2.2.2.2.1 _ c2⟩ ⟨PcG_blind, fun U hU hW => PcG_pre C hRp hS U hU hW⟩ rfl hA hl.1 hst (lv_room hcat) d hf) hS (fun q _ hq => hq) (fun q hq => hq) (fun u t H1 locs1 ht hvm hw hB hz hk hS1 => ?_)
  rw [ht] at hB
  exact kk r' h' E H1 locs1 ls hB hS1 hl
theorem g_mmax (C : GC base D cA p s m args meth c cc nL own) {x y : Int32} {idx : Nat} (d : decode cc pc = .ok (.invokestatic idx, 3)) (w1 : Cond.methodLink own idx Lib.Math.max.name ∈ wsA) (w2 : Cond.static Lib.Math.max.name ∈ wsA) (w3 : Cond.initialized "java/lang/Math" ∈ wsA) (w4 : Cond.code Lib.Math.max.name Lib.Math.max.code 2 (some .int) ∈ wsA) (hfr : 1 ≤ R.frames) (hlo : (st.map fun v => v.category).sum + 13 ≤ R.locals) (hc : cells ≤ R.cells) (hs : slots ≤ R.slots) (kk : GW base D cA p l e R s m args below meth c Q nL h cells slots (pc + 3) lv (.int (if x < y then y else x) :: st)) : GW base D cA p l e R s m args below meth c Q nL h cells slots pc lv (.int y :: .int x :: st) :=
  fun H locs ls hRp hS hl => va_mmax C.1 C.2.1 (by rw [C.2.2.1, hl.1]) C.2.2.2.1 (C.2.2.2.2.1 _ w1) (C.2.2.2.2.1 _ w2) (C.2.2.2.2.1 _ w3) (C.2.2.2.2.1 _ w4) hfr hlo hc hs d (kk H locs ls hRp hS hl)
theorem g_mmin (C : GC base D cA p s m args meth c cc nL own) {x y : Int32} {idx : Nat} (d : decode cc pc = .ok (.invokestatic idx, 3)) (w1 : Cond.methodLink own idx Lib.Math.min.name ∈ wsA) (w2 : Cond.static Lib.Math.min.name ∈ wsA) (w3 : Cond.initialized "java/lang/Math" ∈ wsA) (w4 : Cond.code Lib.Math.min.name Lib.Math.min.code 2 (some .int) ∈ wsA) (hfr : 1 ≤ R.frames) (hlo : (st.map fun v => v.category).sum + 13 ≤ R.locals) (hc : cells ≤ R.cells) (hs : slots ≤ R.slots) (kk : GW base D cA p l e R s m args below meth c Q nL h cells slots (pc + 3) lv (.int (if y < x then y else x) :: st)) : GW base D cA p l e R s m args below meth c Q nL h cells slots pc lv (.int y :: .int x :: st) :=
  fun H locs ls hRp hS hl => va_mmin C.1 C.2.1 (by rw [C.2.2.1, hl.1]) C.2.2.2.1 (C.2.2.2.2.1 _ w1) (C.2.2.2.2.1 _ w2) (C.2.2.2.2.1 _ w3) (C.2.2.2.2.1 _ w4) hfr hlo hc hs d (kk H locs ls hRp hS hl)
theorem g_lmax (C : GC base D cA p s m args meth c cc nL own) {x y : Int64} {idx : Nat} (d : decode cc pc = .ok (.invokestatic idx, 3)) (w1 : Cond.methodLink own idx Lib.MathLoose.max_long.x ∈ wsA) (w2 : Cond.static Lib.MathLoose.max_long.x ∈ wsA) (w3 : Cond.initialized "java/lang/Math" ∈ wsA) (w4 : Cond.code Lib.MathLoose.max_long.x Lib.MathLoose.max_long.code 4 (some .long) ∈ wsA) (hfr : 1 ≤ R.frames) (hlo : (st.map fun v => v.category).sum + 15 ≤ R.locals) (hc : cells ≤ R.cells) (hs : slots ≤ R.slots) (kk : GW base D cA p l e R s m args below meth c Q nL h cells slots (pc + 3) lv (.long (if y < x then x else y) :: st)) : GW base D cA p l e R s m args below meth c Q nL h cells slots pc lv (.long y :: .long x :: st) :=
  fun H locs ls hRp hS hl => va_mmax_long C.1 C.2.1 (by rw [C.2.2.1, hl.1]) C.2.2.2.1 (C.2.2.2.2.1 _ w1) (C.2.2.2.2.1 _ w2) (C.2.2.2.2.1 _ w3) (C.2.2.2.2.1 _ w4) hfr hlo hc hs d (kk H locs ls hRp hS hl)
theorem g_lmin (C : GC base D cA p s m args meth c cc nL own) {x y : Int64} {idx : Nat} (d : decode cc pc = .ok (.invokestatic idx, 3)) (w1 : Cond.methodLink own idx Lib.MathLoose.min_long.x ∈ wsA) (w2 : Cond.static Lib.MathLoose.min_long.x ∈ wsA) (w3 : Cond.initialized "java/lang/Math" ∈ wsA) (w4 : Cond.code Lib.MathLoose.min_long.x Lib.MathLoose.min_long.code 4 (some .long) ∈ wsA) (hfr : 1 ≤ R.frames) (hlo : (st.map fun v => v.category).sum + 15 ≤ R.locals) (hc : cells ≤ R.cells) (hs : slots ≤ R.slots) (kk : GW base D cA p l e R s m args below meth c Q nL h cells slots (pc + 3) lv (.long (if y < x then y else x) :: st)) : GW base D cA p l e R s m args below meth c Q nL h cells slots pc lv (.long y :: .long x :: st) :=
  fun H locs ls hRp hS hl => va_mmin_long C.1 C.2.1 (by rw [C.2.2.1, hl.1]) C.2.2.2.1 (C.2.2.2.2.1 _ w1) (C.2.2.2.2.1 _ w2) (C.2.2.2.2.1 _ w3) (C.2.2.2.2.1 _ w4) hfr hlo hc hs d (kk H locs ls hRp hS hl)
theorem g_obj (C : GC base D cA p s m args meth c cc nL own) {idx a : Nat} (d : decode cc pc = .ok (.invokespecial idx, 3)) (w1 : Cond.methodLink own idx Lib.objectInit ∈ wsA) (w2 : Cond.instanceMethod Lib.objectInit ∈ wsA) (w3 : Cond.code Lib.objectInit ⟨#[0xb1]⟩ 1 none ∈ wsA) (hfr : 1 ≤ R.frames) (hlo : 2 * 0 + (st.map fun v => v.category).sum + 12 ≤ R.locals) (kk : GW base D cA p l e R s m args below meth c Q nL h cells slots (pc + 3) lv st) : GW base D cA p l e R s m args below meth c Q nL h cells slots pc lv (.ref a :: st) :=
  fun H locs ls hRp hS hl => W.objInit C.1 C.2.1 C.2.2.2.1 (C.2.2.2.2.1 _ w1) (C.2.2.2.2.1 _ w2) (C.2.2.2.2.1 _ w3) rfl (by rw [C.2.2.1]; exact hl.1) rfl d hfr hlo (kk H locs ls hRp hS hl)
theorem g_tswIn (C : GC base D cA p s m args meth c cc nL own) {dflt lo hi : Int} {offs : Array Int} {len : Nat} {x : Int32} {off : Int} (v : Int32) (tgt : Nat) (hx : x = v) (d : decode cc pc = .ok (.tableswitch dflt lo hi offs, len)) (h1 : ¬ v.toInt < lo) (h2 : ¬ hi < v.toInt) (ho : offs[(v.toInt - lo).toNat]? = some off) (ht : (pc : Int) + off = (tgt : Int)) (kk : GW base D cA p l e R s m args below meth c Q nL h cells slots tgt lv st) : GW base D cA p l e R s m args below meth c Q nL h cells slots pc lv (.int x :: st) := by
  subst hx
  exact fun H locs ls hRp hS hl => lv_tableIn C.1 C.2.1 d h1 h2 ho ht (kk H locs ls hRp hS hl)
theorem g_tswDf (C : GC base D cA p s m args meth c cc nL own) {dflt lo hi : Int} {offs : Array Int} {len : Nat} {x : Int32} (tgt : Nat) (d : decode cc pc = .ok (.tableswitch dflt lo hi offs, len)) (ho : ∀ k : Int, lo ≤ k → k ≤ hi → x.toInt = k → offs[(k - lo).toNat]? = some dflt) (ht : (pc : Int) + dflt = (tgt : Int)) (kk : GW base D cA p l e R s m args below meth c Q nL h cells slots tgt lv st) : GW base D cA p l e R s m args below meth c Q nL h cells slots pc lv (.int x :: st) := by
  by_cases q : x.toInt < lo ∨ hi < x.toInt
  · exact fun H locs ls hRp hS hl => lv_tableOut C.1 C.2.1 d q ht (kk H locs ls hRp hS hl)
  · exact fun H locs ls hRp hS hl => lv_tableIn C.1 C.2.1 d (by omega) (by omega) (ho _ (by omega) (by omega) rfl) ht (kk H locs ls hRp hS hl)
theorem g_lsw (C : GC base D cA p s m args meth c cc nL own) {dflt : Int} {ps : Array (Int × Int)} {len : Nat} {x : Int32} {off : Int} (tgt : Nat) (d : decode cc pc = .ok (.lookupswitch dflt ps, len)) (hp : (ps.toList.zip (ps.toList.drop 1)).all (fun (a, next) => a.1 < next.1) = true) (ho : Op.lookupswitch.offset ps.toList dflt x.toInt = off) (ht : (pc : Int) + off = (tgt : Int)) (kk : GW base D cA p l e R s m args below meth c Q nL h cells slots tgt lv st) : GW base D cA p l e R s m args below meth c Q nL h cells slots pc lv (.int x :: st) :=
  fun H locs ls hRp hS hl => lv_lookup C.1 C.2.1 d hp ho ht (kk H locs ls hRp hS hl)
end GCALLS
