/-! the law's minutes -/
theorem minI_n : ∀ (d : Nat) (e : Ent), (minI d e).2.1 = e.2.1
  | 0, _ => rfl
  | d + 1, e => minI_n d (minE e)
theorem DV.rest {w : Row} {i : Nat} (j : Nat) (D : DV w i) : DV (restF w j) i := by
  have c : ∀ v : Row, DV v i → DV (coolF v j) i := fun v d => by
    have e : pt (coolF v j) i 13 = pt v i 13 := by
      unfold coolF
      by_cases y : j = i
      · rw [y, pt_sp, if_neg (by omega)]
      · exact pt_sp_ne _ _ y (by omega) (by omega)
    unfold DV
    rw [e]
    exact d
  have u : ∀ v : Row, DV v i → DV (unlockF v j) i := fun v d => by
    unfold unlockF
    split
    · by_cases y : j = i
      · refine Or.inr (Or.inl ?_)
        rw [y, pt_sp, if_pos rfl]
      · unfold DV
        rw [pt_sp_ne _ _ y (by omega) (by omega)]
        exact d
    · exact d
  unfold restF
  split
  · exact c _ D
  · exact u _ (c _ D)
theorem DV.min {w : Row} {nl i : Nat} (hi : i < 3) (D : DV w i) : DV (minR w 3 nl) i := by
  unfold DV
  rw [minR_pt w 3 nl hi (by omega) (by omega)]
  have m : pt (midR w 3 nl) i 13 = pt w i 13 := by
    unfold midR
    split
    · exact pt_upd _ _ _ _ _ (by omega)
    · rw [(workF_keeps _ (by omega) (by omega) (by omega) (by omega) (by omega) (by omega) (by omega) (by omega) (by omega)).it]
      exact givR_pt w 3 nl i (by omega) (by omega)
  have d : DV (midR w 3 nl) i := by unfold DV; rw [m]; exact D
  unfold aftR
  exact itF_keep (P := fun v => DV v i) (fun v j dv => dv.rest j) 3 0 _ d
theorem PB.min {w : Row} {nl : Nat} (B : PB w) : PB (minR w 3 nl) := by
  intro j hj
  rw [minR_keeps w 3 nl hj (by omega) (k := 1) (by omega) (by omega) (by omega) (by omega) (by omega) (by omega) (by omega) (by omega) (by omega) (by omega) (by omega), minR_keeps w 3 nl hj (by omega) (k := 15) (by omega) (by omega) (by omega) (by omega) (by omega) (by omega) (by omega) (by omega) (by omega) (by omega) (by omega)]
  exact ⟨⟨(B j hj).1.1, (B j hj).1.2.min hj⟩, (B j hj).2⟩
theorem PB.mins : ∀ (d : Nat) (w : Row) (nl : Nat), PB w → PB (minI d (w, 3, nl)).1
  | 0, _, _, B => B
  | d + 1, w, nl, B => PB.mins d (minR w 3 nl) (minL w 3 nl) B.min
theorem t_minL {L : Nat} {xs : Nat → Int32} {e0 : Ent} {i m : Nat} {v7 v13 : Int32} {k553 : Nat → Nat → Nat → Nat → Nat → Nat → Int32 → Int32 → Int32 → Nat → Hp → Rv Int32} (hi : i < 3) (hm : m ≤ 9) : ∀ (d kk f t g : Nat) (h : Hp) (q o p l r w : Row) (nl : Nat) (v : Int32), kk + d = m → d < f → CST (sV h q o p l r) e0 → LRel q o p l w nl → WF w 3 nl t → MWs d (w, 3, nl) t → t + d ≤ 400 → g + d ≤ 390 → (kk = 0 → v13 = if w 1 = 0 then 0 else nI ((getA w 3 nl).1 i)) →
    ∃ h' q' o' l' r', s_X10_law_L496 L xs k553 f 1 241 242 243 244 245 v7 (nI i) (nI m) v13 v (nI kk) g (sV h q o p l r) = k553 1 241 242 243 244 245 v7 (nI m) (hetI d (w, 3, nl) v) (g + d) (sV h' q' o' p l' r') ∧ CST (sV h' q' o' p l' r') e0 ∧ LRel q' o' p l' (minI d (w, 3, nl)).1 (minI d (w, 3, nl)).2.2
  | 0, kk, f, t, g, h, q, o, p, l, r, w, nl, v, hk, hf, C, R, W, M, ht, hg, hv => by
    obtain ⟨f, rfl, -⟩ := fuel_succ hf
    refine ⟨h, q, o, l, r, ?_, C, R⟩
    rw [s_X10_law_L496, if_pos (by rw [nI_leE (by omega) (by omega)]; omega)]
    rfl
  | d + 1, kk, f, t, g, h, q, o, p, l, r, w, nl, v, hk, hf, C, R, W, M, ht, hg, hv => by
    obtain ⟨f, rfl, hf2⟩ := fuel_succ hf
    have S := C.sh
    have T : LT5 h := S.lt5
    have hN0 : 245 ≤ hN h := S.2.2.2.2.2.2.2.2
    obtain ⟨h1, q1, o1, l1, r1, e1, c1, R1, g1⟩ := l_minute T hN0 (g := r) R W (by omega) M.1
    have C1 : CST (sV h1 q1 o1 p l1 r1) e0 := C.rows c1
    have T1 : LT5 h1 := C1.sh.lt5
    have W1 : WF (minR w 3 nl) 3 (minL w 3 nl) (t + 1) := WFe.min (e := (w, 3, nl)) (by omega) W M.1
    obtain ⟨h', q', o', l', r', d1, d2, d3⟩ := t_minL (L := L) (xs := xs) (v7 := v7) (v13 := v13) (k553 := k553) hi hm d (kk + 1) f (t + 1) (g + 1) h1 q1 o1 p l1 r1 (minR w 3 nl) (minL w 3 nl) (v + minH w 3 nl) (by omega) (by omega) C1 R1 W1 M.2 (by omega) (by omega) (fun y => by omega)
    refine ⟨h', q', o', l', r', ?_, d2, d3⟩
    rw [s_X10_law_L496, if_neg (by rw [nI_leE (by omega) (by omega)]; omega), lim_is (by omega), e1]
    simp only [bnd]
    rw [show g + (d + 1) = g + 1 + d by omega]
    rw [nI_1]
    by_cases z : kk = 0
    · have hv' := hv z
      rw [if_pos (by rw [z]; rfl), vq_1 T1, R1.1.2.1]
      have m1 : minR w 3 nl 1 = w 1 := (minR_lo w 3 nl (by omega) (by omega) (by omega)).trans (midR_lo w 3 nl 1 (by omega) (by omega) (by omega) (by omega) (by omega) (by omega))
      rw [m1]
      rcases W.2.1 with y | y
      · rw [if_neg (by rw [y]; decide)]
        unfold s_X10_law_J542
        rw [if_pos y] at hv'
        rw [if_pos hv', nI_1]
        exact d1
      · rw [if_pos y, vg_ T1 _ _ _ _ _ (show i < 4 by omega), g1 y i hi]
        unfold s_X10_law_J542
        rw [if_neg (by rw [y]; decide)] at hv'
        rw [if_pos hv', nI_1]
        exact d1
    · rw [if_neg (fun y => z ((nI_0' kk (by omega)).mp y))]
      exact d1
theorem t_pass {L : Nat} {xs : Nat → Int32} {k290 : Nat → Nat → Nat → Nat → Nat → Nat → Int32 → Nat → Hp → Rv Int32} {H : Hp} {w : Row} {nl t g i : Nat} {v7 : Int32} {x : Int32} (s : STT H w nl t) (ht : t ≤ 380) (hg : g ≤ 370) (hi : i < 3) :
    ∃ H' w' nl' t' g', (bnd (s_X10_low x 9 H) fun x50 h => inv h 1 8 (s_X8_heatNext 1 (nI i) h) fun x51 h => s_X10_law_L496 L xs (fun y0 y1 y2 y3 y4 y5 y6 y7 y8 y9 h => inv h y0 8 (s_X8_pass y0 y7 h) fun x55 h => if x55 = y8 then s_X10_law_J970 L xs k290 y0 y1 y2 y3 y4 y5 y6 y9 h else retZ 0 h) 100000 1 241 242 243 244 245 v7 (nI i) (1 + x50) x51 0 0 g h) = k290 1 241 242 243 244 245 (v7 + 1) g' H' ∧ STT H' w' nl' t' ∧ t' ≤ t + 9 ∧ g' ≤ g + 9 := by
  obtain ⟨h, q, o, p, l, r, rfl, C, W, R, B⟩ := id s.un
  have S := C.sh
  obtain ⟨m, hm1, hm9, em⟩ : ∃ m, 1 ≤ m ∧ m ≤ 9 ∧ 1 + lowN x 9 = m := ⟨1 + lowN x 9, by omega, by have := lowN_lt x (show 0 < 9 by omega); omega, rfl⟩
  rw [l_low9]
  simp only [bnd]
  rw [S.i8]
  obtain ⟨h1, a1, a2, a3⟩ := q_heatNext (show t ≤ 38000 by omega) C W (show i < (w, 3, nl).2.1 from hi)
  have e1 := a3.sv
  rw [e1] at a1 a2
  rw [a1]
  simp only [bnd]
  obtain ⟨hx, -, -, -, M⟩ := q_pass (show t ≤ 38000 by omega) hm1 (show m ≤ 60 by omega) a2 W
  obtain ⟨h2, q2, o2, l2, r2, b1, b2, b3⟩ := t_minL (L := L) (xs := xs) (e0 := (w, 3, nl)) (i := i) (m := m) (v7 := v7) (v13 := if w 1 = 0 then 0 else nI ((getA w 3 nl).1 i)) (k553 := fun y0 y1 y2 y3 y4 y5 y6 y7 y8 y9 h => inv h y0 8 (s_X8_pass y0 y7 h) fun x55 h => if x55 = y8 then s_X10_law_J970 L xs k290 y0 y1 y2 y3 y4 y5 y6 y9 h else retZ 0 h) hi hm9 m 0 100000 t g h1 q o p l r w nl 0 (by omega) (by omega) a2 R W M (by omega) (by omega) (fun _ => rfl)
  have ev : (1 : Int32) + nI (lowN x 9) = nI m := by rw [← em]; exact nI_add 1 _
  rw [ev]
  rw [show nI 0 = (0 : Int32) from rfl] at b1
  have hn := minI_n m (w, 3, nl)
  obtain ⟨h3, c1, c2, c3, -⟩ := q_pass (show t ≤ 38000 by omega) hm1 (show m ≤ 60 by omega) b2 W
  have e3 := c3.sv
  rw [e3] at c1 c2
  have WM := WFe.mins m (w, 3, nl) t (by omega) W M
  have PBm := PB.mins m w nl B
  generalize minI m (w, 3, nl) = e' at *
  obtain ⟨w', n', nl'⟩ := e'
  simp only at hn b3 PBm
  subst hn
  have s' : STT (sV h3 q2 o2 p l2 r2) w' nl' (t + m) := STT.mk c2 WM b3 PBm
  refine ⟨_, w', nl', t + m, g + m, ?_, s', by omega, by omega⟩
  refine b1.trans ?_
  rw [b2.sh.i8, c1]
  simp only [bnd]
  rw [if_pos trivial]
  exact t_same s' (by omega)
