/-! the state between two actions of the law -/
theorem CST.rows {h h' : Hp} {q o p l g q' o' p' l' g' : Row} {e : Ent} (C : CST (sV h q o p l g) e) (a : Ch NoC h h') : CST (sV h' q' o' p' l' g') e := by
  have S : Sh h := C.sh.of rfl rfl (Nat.le_refl _)
  have S' : Sh (sV h' q' o' p' l' g') := (S.ch a).of rfl rfl (Nat.le_refl _)
  obtain ⟨c, u, sn, v, C'⟩ := C
  have ch : Ch RC (sV h q o p l g) (sV h' q' o' p' l' g') := ⟨a.1, a.2.1, fun b hb hp => by
    have hb' : b < 241 ∨ 245 < b := by unfold RC at hp; omega
    rw [hI_sVn _ _ _ _ _ _ _ hb', hI_sVn _ _ _ _ _ _ _ hb']
    exact a.2.2 b hb (fun z => z)⟩
  exact ⟨c, u, sn, v, C'.fr ch S'⟩
theorem CST.rows0 {h : Hp} {q o p l g q' o' p' l' g' : Row} {e : Ent} (C : CST (sV h q o p l g) e) : CST (sV h q' o' p' l' g') e := C.rows Ch.rfl'
theorem LFr.sv {h H' : Hp} {q o p l g : Row} (a : LFr (sV h q o p l g) H') : H' = sV H' q o p l g := by
  have e1 : hI H' 241 = q := a.2 241 (by omega) (by omega)
  have e2 : hI H' 242 = o := a.2 242 (by omega) (by omega)
  have e3 : hI H' 243 = p := a.2 243 (by omega) (by omega)
  have e4 : hI H' 244 = l := a.2 244 (by omega) (by omega)
  have e5 : hI H' 245 = g := a.2 245 (by omega) (by omega)
  have := sV_self H'
  rw [e1, e2, e3, e4, e5] at this
  exact this.symm
theorem AFr.sv {h H' : Hp} {q o p l g : Row} (a : AFr (sV h q o p l g) H') : H' = sV H' q o p l g := by
  have e1 : hI H' 241 = q := a.2 241 (by omega) (by omega)
  have e2 : hI H' 242 = o := a.2 242 (by omega) (by omega)
  have e3 : hI H' 243 = p := a.2 243 (by omega) (by omega)
  have e4 : hI H' 244 = l := a.2 244 (by omega) (by omega)
  have e5 : hI H' 245 = g := a.2 245 (by omega) (by omega)
  have := sV_self H'
  rw [e1, e2, e3, e4, e5] at this
  exact this.symm
def DV (w : Row) (i : Nat) : Prop := pt w i 13 = 0 ∨ pt w i 13 = 1 ∨ pt w i 13 = 2
def PB (w : Row) : Prop := ∀ i, i < 3 → (pt w i 15 ≠ 0 ∧ DV w i) ∧ ∃ x, pt w i 1 = nI x ∧ 1 ≤ x ∧ x ≤ 50
def STT (H : Hp) (w : Row) (nl t : Nat) : Prop := CST H (w, 3, nl) ∧ WF w 3 nl t ∧ LRel (hI H 241) (hI H 242) (hI H 243) (hI H 244) w nl ∧ PB w
theorem STT.un {H : Hp} {w : Row} {nl t : Nat} (s : STT H w nl t) : ∃ h q o p l g, H = sV h q o p l g ∧ CST (sV h q o p l g) (w, 3, nl) ∧ WF w 3 nl t ∧ LRel q o p l w nl ∧ PB w := by
  obtain ⟨C, W, R, B⟩ := s
  refine ⟨H, hI H 241, hI H 242, hI H 243, hI H 244, hI H 245, (sV_self H).symm, ?_, W, R, B⟩
  rw [sV_self]
  exact C
theorem STT.mk {h : Hp} {q o p l g w : Row} {nl t : Nat} (C : CST (sV h q o p l g) (w, 3, nl)) (W : WF w 3 nl t) (R : LRel q o p l w nl) (B : PB w) : STT (sV h q o p l g) w nl t := ⟨C, W, R, B⟩
/-! the law's haggling -/
theorem prc_add {x : Nat} (h1 : 1 ≤ x) (h2 : x ≤ 50) (v : Int32) (hv : v = 1 ∨ v = -1) : nI x + (if nI x + v < 1 then 0 else if nI x + v ≤ 50 then v else 0) = prcF (nI x + v) ∧ ∃ y, prcF (nI x + v) = nI y ∧ 1 ≤ y ∧ y ≤ 50 := by
  have key : ∀ x : Fin 51, 1 ≤ x.val → ∀ b : Bool, (nI x.val + (if nI x.val + (if b then 1 else -1) < 1 then 0 else if nI x.val + (if b then 1 else -1) ≤ 50 then (if b then 1 else -1) else 0) = prcF (nI x.val + (if b then 1 else -1))) ∧ ((List.range 51).any fun y => decide (prcF (nI x.val + (if b then 1 else -1)) = nI y ∧ 1 ≤ y ∧ y ≤ 50)) = true := by decide +kernel
  have fin : ∀ b : Bool, ((List.range 51).any fun y => decide (prcF (nI x + (if b then 1 else -1)) = nI y ∧ 1 ≤ y ∧ y ≤ 50)) = true → ∃ y, prcF (nI x + (if b then 1 else -1)) = nI y ∧ 1 ≤ y ∧ y ≤ 50 := fun b hb => by
    obtain ⟨y, -, hy⟩ := List.any_eq_true.mp hb
    exact ⟨y, of_decide_eq_true hy⟩
  rcases hv with rfl | rfl
  · obtain ⟨a, b⟩ := key ⟨x, by omega⟩ h1 true
    exact ⟨a, fin true b⟩
  · obtain ⟨a, b⟩ := key ⟨x, by omega⟩ h1 false
    exact ⟨a, fin false b⟩
/-- HA of a house whose account alone changes -/
theorem HA.acc {o o' p w w' : Row} {i : Nat} (hc : HLc o' w' i) (ho' : ∀ c, 5 ≤ c → c < 14 → ho o' i c = ho o i c) (hp : ∀ k, 9 ≤ k → k < 42 → pt w' i k = pt w i k) (A : HA o p w i) : HA o' p w' i := by
  obtain ⟨c, a, P, G⟩ := A
  refine ⟨hc, ?_, P.congr (hp 15 (by omega) (by omega)) (fun k _ h => hp k (by omega) h), G.congr (hp 9 (by omega) (by omega)) (hp 10 (by omega) (by omega)) (hp 14 (by omega) (by omega)) (hp 15 (by omega) (by omega)) (fun k _ h => hp k (by omega) h)⟩
  unfold HLw
  rw [ho' 5 (by omega) (by omega), ho' 6 (by omega) (by omega), ho' 7 (by omega) (by omega), ho' 8 (by omega) (by omega), ho' 9 (by omega) (by omega), ho' 10 (by omega) (by omega), ho' 11 (by omega) (by omega), ho' 12 (by omega) (by omega), ho' 13 (by omega) (by omega)]
  rw [hp 9 (by omega) (by omega), hp 10 (by omega) (by omega), hp 11 (by omega) (by omega), hp 12 (by omega) (by omega), hp 13 (by omega) (by omega), hp 14 (by omega) (by omega), hp 15 (by omega) (by omega), hp 16 (by omega) (by omega), hp 17 (by omega) (by omega)]
  exact a
/-- the law behind a refusal -/
theorem l_refuse {h : Hp} (T : LT5 h) {q o p l g : Row} {i ot : Nat} {v7 v8 v9 v11 v13 w3 : Int32} (ho3 : ot < 3) (hlt : ¬ v11 ≤ v8) :
    s_X10_haggled_J252 241 242 244 (nI i) (nI ot) v7 v8 v9 0 v11 v13 242 (16 * nI ot + 1) (ho o ot 1) w3 (sV h q o p l g) = some (1, sV h (upd q 9 (q 9 + 1)) (so o ot 1 (ho o ot 1 + w3)) p l g) := by
  unfold s_X10_haggled_J252
  simp only [wo_1 T _ _ _ _ _ ho3, vq_9 T, wq_9 T]
  rw [if_neg hlt, if_pos trivial]
  rfl
/-- the law behind a deal -/
theorem l_deal {h : Hp} (T : LT5 h) {q o p l g : Row} {nl i ot : Nat} {v7 v8 v9 v11 v13 w3 : Int32} (hi : i < 3) (ho3 : ot < 3) (hio : i ≠ ot) (hn : nl < 4) (q7 : q 7 = nI nl) (hlt : v11 ≤ v8) :
    s_X10_haggled_J252 241 242 244 (nI i) (nI ot) v7 v8 v9 v13 v11 v13 242 (16 * nI ot + 1) (ho o ot 1) w3 (sV h q o p l g) = some (1, sV h (upd (upd q 7 (nI (nl + 1))) 8 (q 8 + 1)) (so (so (so (so (so o ot 1 (ho o ot 1 + w3)) i 2 (ho o i 2 - v13)) i 14 (ho o i 14 + v13)) ot 2 (ho o ot 2 + v13)) ot 15 (ho o ot 15 + v13)) p (upd (upd (upd (upd (upd l (5 * nl + 0) (nI ot)) (5 * nl + 1) (nI i)) (5 * nl + 2) v7) (5 * nl + 3) v9) (5 * nl + 4) v13) g) := by
  unfold s_X10_haggled_J252
  simp only [wo_1 T _ _ _ _ _ ho3, vq_7 T, wq_7 T, q7, nI_1]
  rw [if_pos hlt]
  simp only [wl_0 T _ _ _ _ _ hn, wl_1 T _ _ _ _ _ hn, wl_2 T _ _ _ _ _ hn, wl_3 T _ _ _ _ _ hn, wl_4 T _ _ _ _ _ hn, vq_8 T, wq_8 T, vo_2 T _ _ _ _ _ hi, wo_2 T _ _ _ _ _ hi, vo_14 T _ _ _ _ _ hi, wo_14 T _ _ _ _ _ hi, vo_2 T _ _ _ _ _ ho3, wo_2 T _ _ _ _ _ ho3, vo_15 T _ _ _ _ _ ho3, wo_15 T _ _ _ _ _ ho3]
  rw [if_pos trivial]
  have e8 : upd q 7 (nI (nl + 1)) 8 = q 8 := upd_ne _ _ (by omega)
  have a1 : ho (so o ot 1 (ho o ot 1 + w3)) i 2 = ho o i 2 := ho_so_ne _ _ (Ne.symm hio) (by omega) (by omega)
  have a2 : ho (so (so o ot 1 (ho o ot 1 + w3)) i 2 (ho o i 2 - v13)) i 14 = ho o i 14 := by rw [ho_so, if_neg (by omega)]; exact ho_so_ne _ _ (Ne.symm hio) (by omega) (by omega)
  have a3 : ho (so (so (so o ot 1 (ho o ot 1 + w3)) i 2 (ho o i 2 - v13)) i 14 (ho o i 14 + v13)) ot 2 = ho o ot 2 := by rw [ho_so_ne _ _ hio (by omega) (by omega), ho_so_ne _ _ hio (by omega) (by omega), ho_so, if_neg (by omega)]
  have a4 : ho (so (so (so (so o ot 1 (ho o ot 1 + w3)) i 2 (ho o i 2 - v13)) i 14 (ho o i 14 + v13)) ot 2 (ho o ot 2 + v13)) ot 15 = ho o ot 15 := by rw [ho_so, if_neg (by omega), ho_so_ne _ _ hio (by omega) (by omega), ho_so_ne _ _ hio (by omega) (by omega), ho_so, if_neg (by omega)]
  rw [a1, a2, a3, a4, e8]
  rfl
