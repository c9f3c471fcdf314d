/-! rows for the law's body -/
section GLAW
variable {base : Nat} {D : va_G} {cA : Nat → ClassId} {p : Program} {l : Launch} {e : Env} {R : Room} {s : State} {m : MethodId} {args : Array Value} {below : List Frame} {meth : Method} {c : Code} {Q : State → Prop} {nL : Nat} {h : Hp} {cells slots pc : Nat} {lv : List (Nat × Value)} {st : List Value} {cc : ByteArray} {own : String}
theorem g_sld (C : GC base D cA p s m args meth c cc nL own) {b L j : Nat} {xs : Nat → Int32} {x : Int32} (hX : va_X b L xs s s.heap) (hbl : b < s.heap.size) (hbA : ¬ AA base b) (hx : x = nI j) (hj : j < L) (hL : L < 2 ^ 31) (d : decode cc pc = .ok (.iaload, 1)) (kk : GW base D cA p l e R s m args below meth c Q nL h cells slots (pc + 1) lv (.int (xs j) :: st)) : GW base D cA p l e R s m args below meth c Q nL h cells slots pc lv (.int x :: .ref b :: st) := by
  intro H locs ls hRp hS hl
  subst hx
  refine va_sld C.1 C.2.1 hX hbl hbA hS (vp_in_nI hj hL) d ?_
  rw [nI_clamp (by omega)]
  exact kk H locs ls hRp hS hl
theorem g_slen (C : GC base D cA p s m args meth c cc nL own) {b L : Nat} {xs : Nat → Int32} (hX : va_X b L xs s s.heap) (hbl : b < s.heap.size) (hbA : ¬ AA base b) (d : decode cc pc = .ok (.arraylength, 1)) (kk : GW base D cA p l e R s m args below meth c Q nL h cells slots (pc + 1) lv (.int (nI L) :: st)) : GW base D cA p l e R s m args below meth c Q nL h cells slots pc lv (.ref b :: st) :=
  fun H locs ls hRp hS hl => va_slen C.1 C.2.1 hX hbl hbA hS d (kk H locs ls hRp hS hl)
theorem g_ifz (C : GC base D cA p s m args meth c cc nL own) {x : Int32} {off : Int} (tgt : Nat) (d : decode cc pc = .ok (.ifCond .eq off, 3)) (ht : (pc : Int) + off = (tgt : Int)) (kt : x = 0 → GW base D cA p l e R s m args below meth c Q nL h cells slots tgt lv st) (kf : ¬ x = 0 → GW base D cA p l e R s m args below meth c Q nL h cells slots (pc + 3) lv st) : GW base D cA p l e R s m args below meth c Q nL h cells slots pc lv (.int x :: st) :=
  fun H locs ls hR hS hl => lv_if_eq C.1 C.2.1 d ht (fun q => kt q H locs ls hR hS hl) (fun q => kf q H locs ls hR hS hl)
theorem g_same (C : GC base D cA p s m args meth c cc nL own) {x : Int32} {off : Int} (tgt : Nat) (d : decode cc pc = .ok (.if_icmp .eq off, 3)) (ht : (pc : Int) + off = (tgt : Int)) (kt : GW base D cA p l e R s m args below meth c Q nL h cells slots tgt lv st) : GW base D cA p l e R s m args below meth c Q nL h cells slots pc lv (.int x :: .int x :: st) :=
  fun H locs ls hR hS hl => lv_icmp_eq C.1 C.2.1 d ht (fun _ => kt H locs ls hR hS hl) (fun q => absurd rfl q)
theorem g_igt (C : GC base D cA p s m args meth c cc nL own) {x y : Int32} {off : Int} (tgt : Nat) (d : decode cc pc = .ok (.if_icmp .gt off, 3)) (ht : (pc : Int) + off = (tgt : Int)) (kt : y < x → GW base D cA p l e R s m args below meth c Q nL h cells slots tgt lv st) (kf : ¬ y < x → GW base D cA p l e R s m args below meth c Q nL h cells slots (pc + 3) lv st) : GW base D cA p l e R s m args below meth c Q nL h cells slots pc lv (.int y :: .int x :: st) :=
  fun H locs ls hR hS hl => lv_icmp_gt C.1 C.2.1 d ht (fun q => kt q H locs ls hR hS hl) (fun q => kf q H locs ls hR hS hl)
theorem g_tsw (C : GC base D cA p s m args meth c cc nL own) {dflt : Int} {offs : Array Int} {len top : Nat} {x : Int32} (tgt : Nat) (d : decode cc pc = .ok (.tableswitch dflt 0 (top : Int) offs, len)) (ht : (pc : Int) + dflt = (tgt : Int)) (ks : ∀ k : Nat, k ≤ top → x = nI k → ∃ (off : Int) (to : Nat), offs[k]? = some off ∧ (pc : Int) + off = (to : Int) ∧ GW base D cA p l e R s m args below meth c Q nL h cells slots to lv st) (kd : GW base D cA p l e R s m args below meth c Q nL h cells slots tgt lv st) : GW base D cA p l e R s m args below meth c Q nL h cells slots pc lv (.int x :: st) := by
  by_cases q : x.toInt < 0 ∨ (top : Int) < x.toInt
  · exact fun H locs ls hRp hS hl => lv_tableOut C.1 C.2.1 d q ht (kd H locs ls hRp hS hl)
  · have h2 := Int32.toInt_lt x
    have hk : x = nI x.toInt.toNat := by
      apply Int32.toInt_inj.mp
      rw [nI_toInt (by omega)]
      omega
    obtain ⟨off, to, o1, o2, o3⟩ := ks x.toInt.toNat (by omega) hk
    exact fun H locs ls hRp hS hl => lv_tableIn C.1 C.2.1 d (by omega) (by omega) (by rw [Int.sub_zero]; exact o1) o2 (o3 H locs ls hRp hS hl)
theorem g_call (C : GC base D cA p s m args meth c cc nL own) {a idx ci nLc nA : Nat} {o : Rv Int32} {r : Int32} {h1 : Hp} {y : MethodName} {b : ByteArray} {ret : Option FieldType} {rm : Room} {q : vw_C} {stk : List Value} (As : List Value) (d : decode cc pc = .ok (.invokevirtual idx, 3)) (c1 : CL own idx y b nLc ret nA) (c2 : CLV y) (hcl : vwCl[ci]? = some q) (hci : ci < 20) (hyc : q.1 = y.cls) (hA : As.length = nA) (hR : rm.frames + 1 ≤ R.frames ∧ 8 + (nLc + 11) + rm.locals ≤ R.locals) (hcat : (st.map fun v => v.category).sum ≤ 8) (hf : cells + rm.cells ≤ R.cells ∧ slots + rm.slots ≤ R.slots) (hst : stk = As.reverse ++ .ref (base + a) :: st)
    (M : ∀ r' h', o = some (r', h') → Met l y (.code y b nLc ret :: wsA) rm (PcG base D cA (.ref (base + a) :: As) h) (QcI base D cA r' h') rm.cells rm.slots (AA base)) (E : o = some (r, h1)) (ht : (hT h a).1 = ci) (kk : GW base D cA p l e R s m args below meth c Q nL h1 (cells + rm.cells) (slots + rm.slots) (pc + 3) lv (.int r :: st)) : GW base D cA p l e R s m args below meth c Q nL h cells slots pc lv stk := by
  refine g_invI C (α := Unit × Hp) (f := fun r' h' => if r' = r then some ((), h') else none) (X := ((), h1)) As d c1 c2 hcl hci hyc hA hR hcat hf hst M ?_ (fun r' h' e => ?_)
  · unfold inv
    rw [if_pos ht, E]
    show (if r = r then some ((), h1) else none) = _
    rw [if_pos rfl]
  · by_cases z : r' = r
    · rw [if_pos z] at e
      cases e
      rw [z]
      exact kk
    · rw [if_neg z] at e
      cases e
end GLAW
theorem i2c_nar (x : Int32) : vp_nar .char (x.toUInt32 % 65536).toInt32 = (x.toUInt32 % 65536).toInt32 := by
  unfold vp_nar
  rw [pk_nc]
theorem REL.t1 {h : Hp} {t : Nat} (R : REL h t) : (hT h 1).1 = 8 := by
  obtain ⟨e, c, u, sn, v, C, -⟩ := R
  rw [C.1.2.2.1.1]
theorem REL.m1 {h : Hp} {t : Nat} (R : REL h t) : (hT h 241).1 = 9 := by
  obtain ⟨e, c, u, sn, v, C, -⟩ := R
  rw [C.1.m0]
abbrev lvL (base b i : Nat) : List (Nat × Value) := [(0, .ref b), (1, .ref (base + 1)), (2, .ref (base + 241)), (3, .int (nI i))]
