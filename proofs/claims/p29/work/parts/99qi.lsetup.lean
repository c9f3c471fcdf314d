/-! the law's houses -/
def PB1 (w : Row) (i : Nat) : Prop := (pt w i 15 ≠ 0 ∧ DV w i) ∧ ∃ x, pt w i 1 = nI x ∧ 1 ≤ x ∧ x ≤ 50
theorem PB1.congr {w w' : Row} {i : Nat} (e : ∀ k, k < 42 → pt w' i k = pt w i k) (B : PB1 w i) : PB1 w' i := by
  unfold PB1 DV
  rw [e 15 (by omega), e 13 (by omega), e 1 (by omega)]
  exact B
def SU (h : Hp) (q o p l r w : Row) (n : Nat) : Prop := CST (sV h q o p l r) (w, n, 0) ∧ WF w n 0 0 ∧ LQ q w ∧ (∀ i, i < n → HA o p w i ∧ PB1 w i) ∧ ∀ i c, n ≤ i → i < 3 → c < 16 → ho o i c = 0
theorem HA.new {o p w : Row} {i : Nat} {a b c : Int32} (z : ∀ k, k < 16 → ho o i k = 0) : HA (so (so (so (so o i 0 a) i 1 b) i 2 c) i 9 1) p (addF w i a b c) i := by
  have e : ∀ k, k < 42 → k ≠ 0 → k ≠ 1 → k ≠ 2 → k ≠ 13 → pt (addF w i a b c) i k = 0 := fun k hk n0 n1 n2 n13 => by rw [pt_addF w i a b c k hk, if_neg n13, if_neg n2, if_neg n1, if_neg n0]
  have e0 : pt (addF w i a b c) i 0 = a := by rw [pt_addF w i a b c 0 (by omega)]; rfl
  have e1 : pt (addF w i a b c) i 1 = b := by rw [pt_addF w i a b c 1 (by omega)]; rfl
  have e2 : pt (addF w i a b c) i 2 = c := by rw [pt_addF w i a b c 2 (by omega)]; rfl
  have e13 : pt (addF w i a b c) i 13 = 1 := by rw [pt_addF w i a b c 13 (by omega)]; rfl
  have e15 : pt (addF w i a b c) i 15 = 0 := e 15 (by omega) (by omega) (by omega) (by omega) (by omega)
  have e9 : pt (addF w i a b c) i 9 = 0 := e 9 (by omega) (by omega) (by omega) (by omega) (by omega)
  refine ⟨?_, ?_, ⟨0, by omega, e15, fun k hk => absurd hk (Nat.not_lt_zero k)⟩, ⟨fun np k en h12 hk yy => ?_, fun yy => absurd (e9.symm.trans yy) (by decide)⟩⟩
  · unfold HLc
    rw [e0, e1, e2, e 3 (by omega) (by omega) (by omega) (by omega) (by omega), e 4 (by omega) (by omega) (by omega) (by omega) (by omega), e 7 (by omega) (by omega) (by omega) (by omega) (by omega), e 8 (by omega) (by omega) (by omega) (by omega) (by omega)]
    simp only [ho_so, Nat.reduceEqDiff, if_false, if_true]
    exact ⟨trivial, trivial, trivial, z 3 (by omega), z 4 (by omega), z 14 (by omega), z 15 (by omega)⟩
  · unfold HLw
    rw [e9, e13, e15, e 11 (by omega) (by omega) (by omega) (by omega) (by omega), e 12 (by omega) (by omega) (by omega) (by omega) (by omega), e 17 (by omega) (by omega) (by omega) (by omega) (by omega)]
    simp only [ho_so, Nat.reduceEqDiff, if_false, if_true]
    exact ⟨z 5 (by omega), z 7 (by omega), z 8 (by omega), trivial, z 11 (by omega), z 13 (by omega), fun y => absurd rfl y, fun y => absurd y (by decide)⟩
  · rw [e15] at en
    have : np = 0 := (nI_0' np (by omega)).mp en.symm
    omega
theorem t_houses {L : Nat} {xs : Nat → Int32} {k287 : Nat → Nat → Nat → Nat → Nat → Nat → Nat → Hp → Rv Int32} {q l r : Row} (hL : L < 2 ^ 31) : ∀ (d j f g : Nat) (h : Hp) (o p w : Row), j + d = 3 → d < f → g + d ≤ 10 → SU h q o p l r w j →
    ∃ h' o' p' w', s_X10_law_L142 L xs k287 f 1 241 242 243 244 245 (nI j) g (sV h q o p l r) = k287 1 241 242 243 244 245 (g + d) (sV h' q o' p' l r) ∧ SU h' q o' p' l r w' 3
  | 0, j, f, g, h, o, p, w, hj, hf, hg, s => by
    obtain ⟨f, rfl, -⟩ := fuel_succ hf
    have e3 : j = 3 := by omega
    subst e3
    refine ⟨h, o, p, w, ?_, s⟩
    rw [s_X10_law_L142, if_pos (by decide)]
    rfl
  | d + 1, j, f, g, h, o, p, w, hj, hf, hg, s => by
    obtain ⟨f, rfl, hf2⟩ := fuel_succ hf
    obtain ⟨C, W, hq, hA, hz⟩ := s
    have hj3 : j < 3 := by omega
    have T : LT5 h := C.sh.lt5
    have e1 : (1 : Int32) + nI j = nI (1 + j) := nI_add 1 j
    have e4 : (4 : Int32) + nI j = nI (4 + j) := nI_add 4 j
    rw [s_X10_law_L142, if_neg (by rw [show (3 : Int32) = nI 3 from rfl, nI_leE (by omega) (by omega)]; omega), e1, cellB_is hL (by omega)]
    generalize cellF L xs (nI (1 + j)) = x
    obtain ⟨a, ha, ea⟩ : ∃ a, a < 20 ∧ lowN x 20 = a := ⟨_, lowN_lt x (by omega), rfl⟩
    obtain ⟨b, hb, eb⟩ : ∃ b, b < 50 ∧ lowN (shrI x 5) 50 = b := ⟨_, lowN_lt _ (by omega), rfl⟩
    obtain ⟨c, hc, ec⟩ : ∃ c, c < 400 ∧ lowN (shrI x 11) 400 = c := ⟨_, lowN_lt _ (by omega), rfl⟩
    have ea1 : (1 : Int32) + nI a = nI (1 + a) := nI_add 1 a
    have eb1 : (1 : Int32) + nI b = nI (1 + b) := nI_add 1 b
    rw [l_low20, ea]
    simp only [bnd]
    rw [ea1, wo_0 T _ _ _ _ _ hj3, l_low50, eb]
    simp only [bnd]
    rw [eb1, wo_1 T _ _ _ _ _ hj3, l_low400, ec]
    simp only [bnd]
    rw [wo_2 T _ _ _ _ _ hj3, wo_9 T _ _ _ _ _ hj3, vo_0 T _ _ _ _ _ hj3, vo_1 T _ _ _ _ _ hj3, vo_2 T _ _ _ _ _ hj3]
    have r0 : ho (so (so (so (so o j 0 (nI (1 + a))) j 1 (nI (1 + b))) j 2 (nI c)) j 9 1) j 0 = nI (1 + a) := by simp only [ho_so, Nat.reduceEqDiff, if_false, if_true]
    have r1 : ho (so (so (so (so o j 0 (nI (1 + a))) j 1 (nI (1 + b))) j 2 (nI c)) j 9 1) j 1 = nI (1 + b) := by simp only [ho_so, Nat.reduceEqDiff, if_false, if_true]
    have r2 : ho (so (so (so (so o j 0 (nI (1 + a))) j 1 (nI (1 + b))) j 2 (nI c)) j 9 1) j 2 = nI c := by simp only [ho_so, Nat.reduceEqDiff, if_false, if_true]
    have HN : HA (so (so (so (so o j 0 (nI (1 + a))) j 1 (nI (1 + b))) j 2 (nI c)) j 9 1) p (addF w j (nI (1 + a)) (nI (1 + b)) (nI c)) j := HA.new (fun k hk => hz j k (Nat.le_refl j) hj3 hk)
    have fr : ∀ i k, i ≠ j → k < 16 → ho (so (so (so (so o j 0 (nI (1 + a))) j 1 (nI (1 + b))) j 2 (nI c)) j 9 1) i k = ho o i k := fun i k hi hk => by
      rw [ho_so_ne _ _ (Ne.symm hi) (by omega) hk, ho_so_ne _ _ (Ne.symm hi) (by omega) hk, ho_so_ne _ _ (Ne.symm hi) (by omega) hk, ho_so_ne _ _ (Ne.symm hi) (by omega) hk]
    rw [r0, r1, r2]
    generalize so (so (so (so o j 0 (nI (1 + a))) j 1 (nI (1 + b))) j 2 (nI c)) j 9 1 = o1 at *
    have C1 : CST (sV h q o1 p l r) (w, j, 0) := C.rows0
    obtain ⟨h1, a1, a2, a3, a4⟩ := q_addHouse (sa := 1 + a) (a2 := nI (1 + b)) (a3 := nI c) C1 W (show (w, j, 0).2.1 < 8 from (by omega : j < 8)) ⟨(nI_leI (a := 1) (by omega) (by omega)).mpr (by omega), (nI_leI (b := 20) (by omega) (by omega)).mpr (by omega)⟩ (by omega) ⟨(nI_leI (a := 1) (by omega) (by omega)).mpr (by omega), (nI_leI (b := 50) (by omega) (by omega)).mpr (by omega)⟩ ⟨nI_pos' (by omega), (nI_leI (b := 9999) (by omega) (by omega)).mpr (by omega)⟩
    have e5 := a3.sv
    rw [e5] at a1 a2
    rw [C1.sh.i8, a1]
    simp only [bnd]
    rw [if_pos trivial, e4, cellB_is hL (by omega), lim_is (by omega)]
    generalize cellF L xs (nI (4 + j)) = y
    have off : ∀ i k, i < j → k < 42 → pt (addF w j (nI (1 + a)) (nI (1 + b)) (nI c)) i k = pt w i k := fun i k hi hk => addF_off w j _ _ _ (by omega) (by omega)
    have A1 : ∀ i, i < j + 1 → HA o1 p (addF w j (nI (1 + a)) (nI (1 + b)) (nI c)) i := fun i hi => by
      by_cases z : i = j
      · rw [z]; exact HN
      · exact ((hA i (by omega)).1.other (fun c hc => fr i c z hc)).congr (fun k hk => off i k (by omega) hk)
    obtain ⟨h', o', p', w', b1, b2, b3, b4, b5, b6, b7, b8, b9⟩ := l_program y a2 a4 (show j + 1 ≤ 3 by omega) (show j < j + 1 by omega) A1
    rw [b1]
    simp only [bnd]
    rw [if_neg (by decide), nI_1, show g + (d + 1) = g + 1 + d by omega]
    have pa : ∀ k, k < 42 → pt (addF w j (nI (1 + a)) (nI (1 + b)) (nI c)) j k = if k = 13 then 1 else if k = 2 then nI c else if k = 1 then nI (1 + b) else if k = 0 then nI (1 + a) else 0 := fun k hk => pt_addF w j _ _ _ k hk
    refine t_houses hL d (j + 1) f (g + 1) h' o' p' w' (by omega) (by omega) (by omega) ⟨b2, b3, ?_, fun i hi => ⟨b4 i hi, ?_⟩, fun i k h1 h2 h3 => ?_⟩
    · have lo : ∀ k, k < 15 → k ≠ 2 → w' k = w k := fun k hk h2 => (b5 k (Or.inl hk)).trans (addF_off w j _ _ _ h2 (by omega))
      unfold LQ
      rw [lo 0 (by omega) (by omega), lo 1 (by omega) (by omega), lo 3 (by omega) (by omega), lo 4 (by omega) (by omega), lo 5 (by omega) (by omega), lo 6 (by omega) (by omega), lo 7 (by omega) (by omega), lo 8 (by omega) (by omega), lo 9 (by omega) (by omega), lo 10 (by omega) (by omega), lo 11 (by omega) (by omega), lo 13 (by omega) (by omega), lo 14 (by omega) (by omega)]
      exact hq
    · by_cases z : i = j
      · subst z
        refine ⟨⟨b8 (fun u => ?_), Or.inr (Or.inl ?_)⟩, 1 + b, ?_, by omega, by omega⟩
        · have p9 : pt (addF w i (nI (1 + a)) (nI (1 + b)) (nI c)) i 9 = 0 := by
            rw [pa 9 (by omega)]
            rfl
          exact absurd (p9.symm.trans u) (by decide)
        · rw [b6 i 13 (by omega) (by omega), pa 13 (by omega)]
          rfl
        · rw [b6 i 1 (by omega) (by omega), pa 1 (by omega)]
          rfl
      · exact ((hA i (by omega)).2.congr (fun k hk => off i k (by omega) hk)).congr (fun k hk => b7 _ (by omega))
    · rw [b9 i k (by omega) h2 h3, fr i k (by omega) h3]
      exact hz i k (by omega) h2 h3
/-- the law, from its first row on -/
theorem t_setup {L : Nat} {xs : Nat → Int32} {h : Hp} {q o p l r w : Row} (hL : L < 2 ^ 31) (C : CST (sV h q o p l r) (w, 0, 0)) (W : WF w 0 0 0) (hq : ∀ k, k < 16 → q k = 0) (hz : ∀ i c, i < 3 → c < 16 → ho o i c = 0)
    (w0 : w 0 = 0) (w1 : w 1 = 1) (w3 : w 3 = 20000) (w4 : w 4 = 200) (w5 : w 5 = 300) (w6 : w 6 = 40) (w7 : w 7 = 10000) (w8 : w 8 = 0) (w9 : w 9 = 0) (w10 : w 10 = 0) (w11 : w 11 = 0) (w13 : w 13 = 0) (w14 : w 14 = 0) :
    ∃ H', s_X10_law_J35 L xs 1 241 242 243 244 245 0 (sV h q o p l r) = some (1, H') := by
  have T : LT5 h := C.sh.lt5
  have c0 : ∀ f : Int32 → Option (Int32 × Hp), cellB L xs 0 f = f (cellF L xs 0) := fun f => cellB_is (k := 0) hL (by omega) f
  unfold s_X10_law_J35
  rw [wq_1 T, wq_2 T, c0]
  generalize cellF L xs 0 = x at c0 ⊢
  obtain ⟨a, ha, ea⟩ : ∃ a, a < 300 ∧ lowN x 300 = a := ⟨_, lowN_lt x (by omega), rfl⟩
  obtain ⟨b, hb, eb⟩ : ∃ b, b < 500 ∧ lowN (shrI x 9) 500 = b := ⟨_, lowN_lt _ (by omega), rfl⟩
  have eb1 : (10 : Int32) + nI b = nI (10 + b) := nI_add 10 b
  rw [l_low300, ea]
  simp only [bnd]
  rw [wq_3 T, c0, l_low500, eb]
  simp only [bnd]
  rw [eb1, wq_4 T, wq_5 T, wq_6 T, vq_3 T]
  have Q3 : upd (upd (upd (upd (upd (upd q 1 1) 2 20000) 3 (nI a)) 4 (nI (10 + b))) 5 40) 6 10000 3 = nI a := by unfold upd; simp only [Nat.reduceEqDiff, if_false, if_true]
  have Q4 : upd (upd (upd (upd (upd (upd q 1 1) 2 20000) 3 (nI a)) 4 (nI (10 + b))) 5 40) 6 10000 4 = nI (10 + b) := by unfold upd; simp only [Nat.reduceEqDiff, if_false, if_true]
  have lq : ∀ w' : Row, (∀ j, j < 15 → j ≠ 4 → j ≠ 5 → w' j = w j) → w' 4 = nI a → w' 5 = nI (10 + b) → LQ (upd (upd (upd (upd (upd (upd q 1 1) 2 20000) 3 (nI a)) 4 (nI (10 + b))) 5 40) 6 10000) w' := fun w' lo u4 u5 => by
    unfold LQ
    rw [lo 0 (by omega) (by omega) (by omega), lo 1 (by omega) (by omega) (by omega), lo 3 (by omega) (by omega) (by omega), u4, u5, lo 6 (by omega) (by omega) (by omega), lo 7 (by omega) (by omega) (by omega), lo 8 (by omega) (by omega) (by omega), lo 9 (by omega) (by omega) (by omega), lo 10 (by omega) (by omega) (by omega), lo 11 (by omega) (by omega) (by omega), lo 13 (by omega) (by omega) (by omega), lo 14 (by omega) (by omega) (by omega), w0, w1, w3, w6, w7, w8, w9, w10, w11, w13, w14]
    unfold upd
    simp only [Nat.reduceEqDiff, if_false, if_true]
    exact ⟨hq 0 (by omega), trivial, trivial, trivial, trivial, trivial, trivial, hq 7 (by omega), hq 8 (by omega), hq 9 (by omega), hq 10 (by omega), hq 11 (by omega), hq 12 (by omega)⟩
  generalize upd (upd (upd (upd (upd (upd q 1 1) 2 20000) 3 (nI a)) 4 (nI (10 + b))) 5 40) 6 10000 = q1 at *
  have fin : ∀ (h1 : Hp) (w' : Row), CST (sV h1 q1 o p l r) (w', 0, 0) → WF w' 0 0 0 → LQ q1 w' → ∃ H', s_X10_law_L142 L xs (fun y0 y1 y2 y3 y4 y5 y6 h => s_X10_law_L290 L xs 100000 y0 y1 y2 y3 y4 y5 0 y6 h) 100000 1 241 242 243 244 245 0 0 (sV h1 q1 o p l r) = some (1, H') := fun h1 w' C1 W1 hl => by
    obtain ⟨h', o', p', w'', a1, a2⟩ := t_houses (L := L) (xs := xs) (k287 := fun y0 y1 y2 y3 y4 y5 y6 h => s_X10_law_L290 L xs 100000 y0 y1 y2 y3 y4 y5 0 y6 h) hL 3 0 100000 0 h1 o p w' (by omega) (by omega) (by omega) ⟨C1, W1, hl, fun i hi => absurd hi (Nat.not_lt_zero i), fun i c _ h2 h3 => hz i c h2 h3⟩
    obtain ⟨b1, b2, b3, b4, -⟩ := a2
    have s' : STT (sV h' q1 o' p' l r) w'' 0 0 := STT.mk b1 b2 ⟨b3, fun i hi => (b4 i hi).1, fun j hj => absurd hj (Nat.not_lt_zero j), by omega⟩ (fun i hi => (b4 i hi).2)
    obtain ⟨H', e⟩ := t_loop (L := L) (xs := xs) (g := 0 + 3) hL 16 0 100000 _ _ _ _ (by omega) (by omega) s' (by omega) (by omega)
    exact ⟨H', a1.trans e⟩
  have J : ∀ (h1 : Hp) (w' : Row), CST (sV h1 q1 o p l r) (w', 0, 0) → WF w' 0 0 0 → (∀ j, j < 15 → j ≠ 4 → w' j = w j) → w' 4 = nI a → ∃ H', s_X10_law_J114 L xs 1 241 242 243 244 245 0 (sV h1 q1 o p l r) = some (1, H') := fun h1 w' C1 W1 lo u4 => by
    have T1 : LT5 h1 := C1.sh.lt5
    have u5 : w' 5 = 300 := (lo 5 (by omega) (by omega)).trans w5
    unfold s_X10_law_J114
    rw [vq_4 T1, vq_4 T1, Q4]
    by_cases z : nI (10 + b) = 300
    · rw [if_pos z]
      exact fin h1 w' C1 W1 (lq w' (fun j hj h4 _ => lo j hj h4) u4 (u5.trans z.symm))
    · rw [if_neg z]
      obtain ⟨h2, a1, a2, a3, a4⟩ := q_set (k := 2) (a2 := nI (10 + b)) C1 W1 (by omega) (by omega) (by omega) ⟨(nI_leI (a := 10) (by omega) (by omega)).mpr (by omega), (nI_leI (b := 2000) (by omega) (by omega)).mpr (by omega)⟩ (fun y => z (y.symm.trans u5))
      have e1 := a3.sv
      rw [e1] at a1 a2
      have a1' : s_X8_set 1 2 (nI (10 + b)) (sV h1 q1 o p l r) = some (w' 5, sV h2 q1 o p l r) := a1
      rw [C1.sh.i8, a1', u5]
      simp only [bnd]
      rw [if_pos trivial]
      exact fin h2 _ a2 a4 (lq _ (fun j hj h4 h5 => (upd_ne _ _ h5).trans (lo j hj h4)) ((upd_ne _ _ (by omega)).trans u4) (upd_eq _ _ _))
  have C1 : CST (sV h q1 o p l r) (w, 0, 0) := C.rows0
  rw [Q3]
  by_cases z : nI a = 200
  · rw [if_pos z]
    exact J h w C1 W (fun j _ _ => rfl) (w4.trans z.symm)
  · rw [if_neg z, vq_3 T, Q3]
    obtain ⟨h2, a1, a2, a3, a4⟩ := q_set (k := 1) (a2 := nI a) C1 W (by omega) (by omega) (by omega) ⟨nI_pos' (by omega), (nI_leI (b := 900) (by omega) (by omega)).mpr (by omega)⟩ (fun y => z (y.symm.trans w4))
    have e1 := a3.sv
    rw [e1] at a1 a2
    have a1' : s_X8_set 1 1 (nI a) (sV h q1 o p l r) = some (w 4, sV h2 q1 o p l r) := a1
    rw [C1.sh.i8, a1', w4]
    simp only [bnd]
    rw [if_pos trivial]
    exact J h2 _ a2 a4 (fun j _ h4 => upd_ne _ _ h4) (upd_eq _ _ _)
