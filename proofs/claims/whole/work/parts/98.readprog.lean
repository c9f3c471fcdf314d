/-! readProgram, both sides -/
theorem PO.rec {h h' : Hp} {P np : Nat} (hP : 251 ≤ P) (ht : hT h' = hT h) (hr : ∀ x, 251 ≤ x → hR h' x = hR h x) (hi : ∀ x, 242 ≤ x → hI h' x = hI h x) (O : PO h P np) : PO h' P np := by
  obtain ⟨e1, e2, e3, e4, e5, e6, e7⟩ := O
  exact ⟨by rw [ht]; exact e1, by rw [hr P hP]; exact e2, by rw [hr P hP]; exact e3, by rw [hi P (by omega)]; exact e4, by rw [ht]; exact e5, by rw [ht]; exact e6, e7⟩
/-- the class's last step: the washer has another program -/
theorem c_setProg {g : Hp} {w : Row} {n nl i P : Nat} {L : List (Int32 × Int32)} (S : Sh g) (R : SR g 2 w n nl) (hi : i < n) (hP : 251 ≤ P) (hPn : P + 2 ≤ hN g) (hl : L.length ≤ 12) (O : PO g P L.length) (A : AtL (hI g (P + 1)) (hI g (P + 2)) 0 L) :
    Ch (fun x => x = 2 + 8 + 2 * i) g (sR g (2 + 8 + 2 * i) 0 P) ∧ Sh (sR g (2 + 8 + 2 * i) 0 P) ∧ SR (sR g (2 + 8 + 2 * i) 0 P) 2 (prgW w i L) n nl := by
  have st2 : isSt 2 := Or.inl rfl
  have n8 := R.n8
  have hi8 : i < 8 := by omega
  have c1 : Ch (fun x => x = 2 + 8 + 2 * i) g (sR g (2 + 8 + 2 * i) 0 P) := (Ch.rfl' (P := fun x => x = 2 + 8 + 2 * i)).sR _ _ _ rfl
  have S1 : Sh (sR g (2 + 8 + 2 * i) 0 P) := S.wr rfl (Nat.le_refl _) (fun x hx _ => hR_sRn _ _ _ _ _ (fun z => hx ⟨2, i, st2, hi8, z⟩))
  refine ⟨c1, S1, SR.washer st2 S R hi c1 (fun j hj _ => prgW_off w i hl hj) (fun k hk => prgW_lo w i hl (by omega) (by omega)) ?_⟩
  obtain ⟨⟨a1, a2, a3, a4, a5, a6⟩, -⟩ := (R.hr hi).w
  refine ⟨⟨?_, fun z => ?_, ?_, ?_, ?_, ?_⟩, ?_⟩
  · rw [prgW_lo w i hl (by omega) (by omega)]; exact a1
  · rw [prgW_lo w i hl (by omega) (by omega)] at z
    rw [prgW_lo w i hl (by omega) (by omega), prgW_lo w i hl (by omega) (by omega)]
    exact a2 z
  · rw [prgW_lo w i hl (by omega) (by omega)]; exact a3
  · rw [prgW_lo w i hl (by omega) (by omega)]; exact a4
  · rw [prgW_lo w i hl (by omega) (by omega)]; exact a5
  · rw [prgW_lo w i hl (by omega) (by omega)]; exact a6
  · have eP : hR (sR g (2 + 8 + 2 * i) 0 P) (2 + 8 + 2 * i) 0 = P := by rw [hR_sR, if_pos ⟨rfl, rfl⟩]
    rw [eP]
    obtain ⟨e1, e2, e3, e4, e5, e6, e7⟩ := O
    have nP : P ≠ 2 + 8 + 2 * i := by omega
    refine ⟨Or.inl hP, hPn, L.length, hl, prgW_15 w i L, ⟨e1, by rw [hR_sRn _ _ _ _ _ nP]; exact e2, by rw [hR_sRn _ _ _ _ _ nP]; exact e3, e4, e5, e6, e7⟩, fun k hk => ?_⟩
    have x := A k hk
    rw [Nat.zero_add] at x
    have y := prgW_k w i hl hk
    unfold pt at y
    rw [Nat.add_assoc _ 18 k, Nat.add_assoc _ 30 k, y.1, y.2]
    exact x
theorem phR_none {C : Nat → Int32} {m p q : Nat} (h : phR C m p = (q, none)) (hp : p ≤ m) : q ≤ m := by
  unfold phR at h
  by_cases h1 : p < m
  · rw [if_pos h1] at h
    by_cases h2 : C p = 100
    · rw [if_pos h2] at h
      injection h with a b
      cases b
    · rw [if_neg h2] at h
      by_cases h3 : isK (C p) = true
      · rw [if_pos h3] at h
        by_cases h4 : p + 1 < m
        · rw [if_pos h4] at h
          by_cases h5 : dgB (C (p + 1)) = true
          · rw [if_pos h5] at h
            by_cases h6 : p + 2 < m
            · rw [if_pos h6] at h
              by_cases h7 : dgA (C (p + 2)) = true
              · rw [if_pos h7] at h
                injection h with a b
                cases b
              · rw [if_neg h7] at h
                injection h with a b
                cases b
            · rw [if_neg h6] at h
              injection h with a b
              cases b
          · rw [if_neg h5] at h
            injection h with a b
            omega
        · rw [if_neg h4] at h
          injection h with a b
          omega
      · rw [if_neg h3] at h
        injection h with a b
        omega
  · rw [if_neg h1] at h
    injection h with a b
    omega
theorem prs_none {C : Nat → Int32} {m : Nat} : ∀ (d p f : Nat), prs C m d p = (f, none) → p ≤ m → f ≤ m
  | 0, p, f, h, hp => by
    injection h with a b
    omega
  | d + 1, p, f, h, hp => by
    unfold prs at h
    cases ph : phR C m p with
    | mk q o =>
      rw [ph] at h
      cases o with
      | none =>
        injection h with a b
        have := phR_none ph hp
        omega
      | some kv =>
        obtain ⟨k1, v1⟩ := kv
        obtain ⟨s1, s2, s3, -⟩ := phR_some ph
        by_cases q1 : q = m
        · simp only [if_pos q1] at h
          injection h with a b
          cases b
        · simp only [if_neg q1] at h
          by_cases q2 : C q = 59
          · simp only [if_pos q2] at h
            cases hpr : prs C m d (q + 1) with
            | mk f' o2 =>
              rw [hpr] at h
              cases o2 with
              | none =>
                injection h with a b
                have := prs_none d (q + 1) f' hpr (by omega)
                omega
              | some L' =>
                injection h with a b
                cases b
          · simp only [if_neg q2] at h
            injection h with a b
            omega
theorem p_readProgram (t : Nat) (a1 : Int32) : Pair (s_X8_readProgram 1 a1) (s_X9_readProgram 241 a1) t := by
  intro h R
  have R' := R
  obtain ⟨e, c, u, sn, v, C, Q, W, X⟩ := R
  have S := C.1
  have n8 : e.2.1 ≤ 8 := W.1.1.1
  have e2 : e.1 2 = nI e.2.1 := W.1.1.2.2.1
  have st2 : isSt 2 := Or.inl rfl
  have hN0 : 250 ≤ hN h := S.2.2.2.2.2.2.2.2
  have hh2 : hI h 242 2 = nI e.2.1 := by rw [Q.1]; exact e2
  have X' := X
  obtain ⟨m, m60, x1, x2, x3⟩ := X
  by_cases q : inH a1 e.2.1
  · obtain ⟨i, rfl, hi⟩ := inH_of n8 q
    have hi8 : i < 8 := by omega
    have cf := c_firstFault S x1 m60
    have pc : prs (hI h 246) m 61 0 = prs (hI h 240) m 61 0 := prs_congr (fun k hk => (x3 k hk).1.symm) 61 0
    -- what the reference's reading leaves
    have rd : ∀ g, Sh g → (∀ x, (x = 239 ∨ x = 240 ∨ x = 246) → hI g x = hI h x) → hI g 241 7 = nI m → RS g e.1 c u sn v → ∃ g', s_X9_readText 241 g = (match prs (hI h 240) m 61 0 with
        | (q, none) => some (nI q, g')
        | (_, some _) => some (-5, g')) ∧ Fr RDc g g' ∧ hR g' = hR g ∧ RS g' e.1 c u sn v ∧ hI g' 241 7 = nI m ∧ (match prs (hI h 240) m 61 0 with
        | (_, none) => True
        | (_, some L) => hI g' 241 10 = nI L.length ∧ L.length ≤ 30 ∧ AtL (hI g' 249) (hI g' 250) 0 L) := fun g Sg gx g7 Qg => by
      obtain ⟨g', b1, b2, b3, b4, -, b6⟩ := r_rdL m60 (C := hI h 246) 61 0 0 100000 (sI g 241 10 0) (Sg.sI _ _ _) (by rw [hI_sI, if_neg (by omega)]; exact g7) (by rw [hI_sI, if_pos ⟨rfl, rfl⟩]; rfl) (by rw [hI_sIn _ _ _ _ _ (by omega)]; exact gx 246 (by omega)) (by omega) (by omega) (by omega) (by omega)
      rw [pc] at b1 b6
      refine ⟨g', ?_, ((Fr.rfl' (P := RDc)).sI _ _ _ (Or.inl rfl)).trans b2, b3, ?_, ?_, ?_⟩
      · unfold s_X9_readText
        rw [T_vp Sg]
        exact b1
      · obtain ⟨r1, ⟨r2, r3, r4⟩, ⟨r5, r6⟩, r7⟩ := Qg.f241 (k := 10) 0 (by omega) (by omega)
        refine ⟨by rw [(b2.2.2 242 (fun z => by unfold RDc at z; omega)).1]; exact r1, ⟨r2, by rw [b4 5 (by omega)]; exact r3, fun k hk j hj => by rw [(b2.2.2 245 (fun z => by unfold RDc at z; omega)).1]; exact r4 k hk j hj⟩, ⟨by rw [b4 3 (by omega)]; exact r5, fun q j hj => by rw [(b2.2.2 244 (fun z => by unfold RDc at z; omega)).1]; exact r6 q j hj⟩, fun j hj => by rw [(b2.2.2 248 (fun z => by unfold RDc at z; omega)).1]; exact r7 j hj⟩
      · rw [b4 7 (by omega), hI_sI, if_neg (by omega)]
        exact g7
      · cases hpr : prs (hI h 240) m 61 0 with
        | mk f o =>
          rw [hpr] at b6
          cases o with
          | none => trivial
          | some L =>
            obtain ⟨y1, y2, y3⟩ := b6
            rw [Nat.zero_add] at y1 y2
            exact ⟨y1, y2, y3⟩
    -- a state in which only that was read
    have fin : ∀ g g', CS g e c u sn v → TX g → Fr RDc g g' → hR g' = hR g → RS g' e.1 c u sn v → hI g' 241 7 = hI g 241 7 → REL g' (t + 60) := fun g g' Cg Xg F fr Qg' g7 => by
      have Sg' : Sh g' := Cg.1.of fr F.1 (Nat.le_of_eq F.2.1.symm)
      have F' : Fr RC g g' := F.mono (fun x hx => by unfold RDc at hx; unfold RC; omega)
      refine ⟨e, c, u, sn, v, Cg.fr F'.ch Sg', Qg', ⟨W.1.up (by omega), fun k hk => (W.2.1 k hk).up (by omega), W.2.2.1, fun z => (W.2.2.2 z).up (by omega)⟩, Xg.fr (fun x hx => (F.2.2 x (fun z => by unfold RDc at z; omega)).1) g7⟩
    cases hpr : prs (hI h 240) m 61 0 with
    | mk f o =>
      rw [hpr] at cf rd
      cases o with
      | none =>
        obtain ⟨g', b1, b2, b3, b4, b5, -⟩ := rd h S (fun _ _ => rfl) x2 Q
        have fm : f ≤ m := prs_none 61 0 f hpr (by omega)
        have nf5 : ¬ (nI f = -5) := fun z => by
          have := congrArg Int32.toInt z
          rw [nI_toInt (by omega)] at this
          have h5 : (-5 : Int32).toInt = -5 := by decide
          omega
        refine ⟨-100 - nI f, h, g', ?_, ?_, fin h g' C X' b2 b3 b4 (b5.trans x2.symm), S⟩
        · unfold s_X8_readProgram
          simp only [S.x0, inv6 S, c_has S C.2.1, hasI_1 q, bnd, if_false, show ((1 : Int32) = 0) = False from eq_false (by decide), T_x5 S, T_ui S, cf, if_neg nf5]
          rfl
        · unfold s_X9_readProgram
          simp only [inv9 S, r_has S hh2, hasI_1 q, bnd, if_false, show ((1 : Int32) = 0) = False from eq_false (by decide), b1, if_neg nf5]
          rfl
      | some L =>
        have cf' : s_X5_firstFault 239 h = some (-5, h) := cf
        have l30 : L.length ≤ 30 := by
          obtain ⟨g', -, -, -, -, -, b6⟩ := rd h S (fun _ _ => rfl) x2 Q
          exact b6.2.1
        have V := (prs_PV 61 0 f L hpr).2
        obtain ⟨g0, p1, p2, Sg0, O0, n0, A0⟩ := c_toProgram S x1 m60 hpr (by omega)
        obtain ⟨P, hP⟩ : ∃ P, P = hN h + 1 := ⟨_, rfl⟩
        rw [← hP] at p1 O0 A0
        have P251 : 251 ≤ P := by omega
        have far0 : ∀ x, x ≤ 250 → hI g0 x = hI h x := fun x hx => (p2.2.2 x (by omega) (fun z => z)).1
        have C0 : CS g0 e c u sn v := C.tc (p2.mono (fun x hx => hx.elim)) Sg0
        have Q0 : RS g0 e.1 c u sn v := Q.fr (fun x hx => far0 x hx.2)
        have X0 : TX g0 := X'.fr (fun x hx => far0 x (by omega)) (by rw [far0 241 (by omega)])
        have g07 : hI g0 241 7 = nI m := by rw [far0 241 (by omega)]; exact x2
        have gd0 : s_X4_hasGoodNumbers P g0 = some (if gLF L L.length 0 then 1 else 0, g0) := c_goodL O0 A0 V L.length 0 100000 (by omega) (by omega)
        have i0 : hI g0 P 0 = nI L.length := O0.2.2.2.1
        have t0 : hT g0 P = (4, 0) := O0.1
        have r9 : hI g0 (2 + 8 + 2 * i) 1 = pt e.1 i 9 := (C0.2.1.hr hi).w.1.1
        have run : ∀ g, Sh g → hI g 242 = e.1 → s_X9_runs 241 (nI i) g = some (if pt e.1 i 9 = 1 then 1 else 0, g) := fun g Sg eg => by
          have := r_runs Sg hi8 e.1 (hI g 247) (hI g 248)
          rwa [← sQ_of eg] at this
        -- the reference up to its record
        have ref : ∀ g g', Sh g → Sh g' → hI g 242 2 = nI e.2.1 → hI g' 242 = e.1 → s_X9_readText 241 g = some (-5, g') → hI g' 241 10 = nI L.length → AtL (hI g' 249) (hI g' 250) 0 L → s_X9_readProgram 241 (nI i) g = if gLF L L.length 0 then (if L.length ≤ 12 then (if pt e.1 i 9 = 1 then some (-4, g') else (bnd (s_X9_record 241 g') fun _ h => s_X9_readProgram_L82 100000 241 (nI i) 0 h)) else some (-3, g')) else some (-2, g') := fun g g' Sg Sg' eg eg' er e10 A' => by
          unfold s_X9_readProgram
          simp only [inv9 Sg, r_has Sg eg, hasI_1 q, bnd, if_false, show ((1 : Int32) = 0) = False from eq_false (by decide), er, if_true]
          refine (r_goodL Sg' e10 l30 A' _ (nI i) L.length 0 100000 (by omega) (by omega)).trans ?_
          cases gLF L L.length 0 with
          | false => rfl
          | true =>
            simp only [if_true]
            rw [T_vg Sg', e10]
            by_cases z : L.length ≤ 12
            · rw [if_pos (by rw [show (12 : Int32) = nI 12 from rfl, nI_leE (by omega) (by omega)]; exact z), if_pos z, inv9 Sg', run g' Sg' eg']
              by_cases y : pt e.1 i 9 = 1
              · rw [if_pos y, if_pos y]
                rfl
              · rw [if_neg y, if_neg y]
                simp only [bnd, if_true, inv9 Sg']
            · rw [if_neg (by rw [show (12 : Int32) = nI 12 from rfl, nI_leE (by omega) (by omega)]; exact z), if_neg z]
              rfl
        have cls : s_X8_readProgram 1 (nI i) h = if gLF L L.length 0 then (if L.length ≤ 12 then (if pt e.1 i 9 = 1 then some (-4, g0) else (bnd (s_X1_record 101 2 g0) fun _ h => getR h 1 8 0 fun x14 => inv h x14 6 (s_X6_washerOf x14 (nI i) h) fun x15 h => putR h x15 7 0 P fun h => getI h P 4 0 fun x16 => retI x16 h)) else some (-3, g0)) else some (-2, g0) := by
          have ivP : ∀ {α β : Type} (x : Rv α) (f : α → Hp → Rv β), inv g0 P 4 x f = bnd x f := fun x f => by simp only [inv, t0, if_true]
          have iv1 : ∀ {α β : Type} (x : Rv α) (f : α → Hp → Rv β), inv g0 101 1 x f = bnd x f := fun x f => by simp only [inv, Sg0.2.2.2.1.1, if_true]
          have gtP : ∀ {α : Type} (f : Int32 → Option α), getI g0 P 4 0 f = f (nI L.length) := fun f => by simp only [getI, t0, if_true, i0]
          unfold s_X8_readProgram
          simp only [S.x0, inv6 S, c_has S C.2.1, hasI_1 q, bnd, if_false, show ((1 : Int32) = 0) = False from eq_false (by decide), T_x5 S, T_ui S, cf', if_true, p1, ivP, gd0]
          cases gLF L L.length 0 with
          | false => rfl
          | true =>
            simp only [if_true, show ((1 : Int32) = 0) = False from eq_false (by decide), if_false, gtP]
            by_cases z : L.length ≤ 12
            · rw [if_pos (by rw [show (12 : Int32) = nI 12 from rfl, nI_leE (by omega) (by omega)]; exact z), if_pos z]
              simp only [Sg0.x0, inv6 Sg0, c_washerOf Sg0 st2 hi8, bnd, getW Sg0 hi8, r9]
              by_cases y : pt e.1 i 9 = 1
              · rw [if_pos y, if_pos y]
                rfl
              · rw [if_neg y, if_neg y, Sg0.x3, iv1]
                rfl
            · rw [if_neg (by rw [show (12 : Int32) = nI 12 from rfl, nI_leE (by omega) (by omega)]; exact z), if_neg z]
              rfl
        obtain ⟨g', b1, b2, b3, b4, b5, b6, -, b7⟩ := rd g0 Sg0 (fun x hx => far0 x (by omega)) g07 Q0
        have Sg' : Sh g' := Sg0.of b3 b2.1 (Nat.le_of_eq b2.2.1.symm)
        have rel0 : REL g' (t + 60) := fin g0 g' C0 X0 b2 b3 b4 (b5.trans g07.symm)
        have rf := ref g0 g' Sg0 Sg' (by rw [Q0.1]; exact e2) b4.1 b1 b6 b7
        cases gl : gLF L L.length 0 with
        | false =>
          rw [gl] at cls rf
          exact ⟨-2, g0, g', cls, rf, rel0, Sg0⟩
        | true =>
          rw [gl, if_pos rfl] at cls rf
          by_cases z : L.length ≤ 12
          · rw [if_pos z] at cls rf
            by_cases y : pt e.1 i 9 = 1
            · rw [if_pos y] at cls rf
              exact ⟨-4, g0, g', cls, rf, rel0, Sg0⟩
            · rw [if_neg y] at cls
              obtain ⟨g1, d1, d2, d3, d4, d5⟩ := c_record C0 W.1.2.1
              obtain ⟨g1', d1', d6⟩ := c_recR C0 W.1.2.1
              have eg1 : g1' = g1 := by
                rw [d1] at d1'
                injection d1' with a
                injection a with a b
                exact b.symm
              rw [eg1] at d6
              have hi1 : ∀ x, 242 ≤ x → hI g1 x = hI g0 x := fun x hx => d4 x (Or.inl hx)
              have O1 : PO g1 P L.length := O0.rec P251 d2 d6 hi1
              have A1 : AtL (hI g1 (P + 1)) (hI g1 (P + 2)) 0 L := by rw [hi1 _ (by omega), hi1 _ (by omega)]; exact A0
              obtain ⟨s1, s2, s3⟩ := c_setProg d5.1 d5.2.1 hi P251 (by omega) z O1 A1
              have C1 : CS (sR g1 (2 + 8 + 2 * i) 0 P) (prgW e.1 i L, e.2.1, e.2.2) (recC c) (recU c u e) sn v := d5.step (s1.mono (fun x hx => Or.inl (by rw [hx]; exact ST.W hi8))) s2 s3 d5.2.2.2.2
              have far1 : ∀ x, 239 ≤ x → x ≤ 250 → hI (sR g1 (2 + 8 + 2 * i) 0 P) x = hI h x := fun x x1 x2 => (d4 x (by omega)).trans (far0 x x2)
              have Q1 : RS (sR g1 (2 + 8 + 2 * i) 0 P) e.1 c u sn v := Q.fr (fun x hx => far1 x (by have := hx.1; omega) hx.2)
              have X1 : TX (sR g1 (2 + 8 + 2 * i) 0 P) := X'.fr (fun x hx => far1 x (by omega) (by omega)) (by rw [far1 241 (by omega) (by omega)])
              have h17 : hI (sR g1 (2 + 8 + 2 * i) 0 P) 241 7 = nI m := by rw [far1 241 (by omega) (by omega)]; exact x2
              obtain ⟨g2, f1, f2, f3, f4, f5, f6, -, f7⟩ := rd (sR g1 (2 + 8 + 2 * i) 0 P) s2 (fun x hx => far1 x (by omega) (by omega)) h17 Q1
              have Sg2 : Sh g2 := s2.of f3 f2.1 (Nat.le_of_eq f2.2.1.symm)
              have rf2 := ref _ g2 s2 Sg2 (by rw [Q1.1]; exact e2) f4.1 f1 f6 f7
              rw [gl, if_pos rfl, if_pos z, if_neg y] at rf2
              obtain ⟨g3, k1, k2, k3, k4, k5⟩ := r_record (e := e) Sg2 f4 rfl
              obtain ⟨g3', k1', k6⟩ := r_rec10 Sg2 C.2.2.1.1 f4.2.1.2.1
              have eg3 : g3' = g3 := by
                rw [k1] at k1'
                injection k1' with a
                injection a with a b
                exact b.symm
              rw [eg3] at k6
              have Sg3 : Sh g3 := Sg2.of k3 k2.1 (Nat.le_of_eq k2.2.1.symm)
              have A3 : AtL (hI g3 249) (hI g3 250) 0 L := by rw [(k2.2.2 249 (by omega)).1, (k2.2.2 250 (by omega)).1]; exact f7
              have pl := r_progL Sg3 (w := e.1) (a := hI g3 247) (b := hI g3 248) hi8 z (k6.trans f6) A3 L.length 0 100000 (by omega) (by omega)
              have pl' : s_X9_readProgram_L82 100000 241 (nI i) 0 g3 = some (nI L.length, sQ g3 (prgW e.1 i L) (hI g3 247) (hI g3 248)) := by
                have e0 : sQ g3 (prgR e.1 i L 0) (hI g3 247) (hI g3 248) = g3 := (sQ_of k4.1).symm
                rw [e0] at pl
                exact pl
              have F3 : Fr RC (sR g1 (2 + 8 + 2 * i) 0 P) g3 := (f2.mono (fun x hx => by unfold RDc at hx; unfold RC; omega)).trans (k2.mono (fun x hx => by unfold RC; omega))
              have F4 : Fr RC (sR g1 (2 + 8 + 2 * i) 0 P) (sQ g3 (prgW e.1 i L) (hI g3 247) (hI g3 248)) := F3.trans (sQ_fr g3 _ _ _)
              have S4 : Sh (sQ g3 (prgW e.1 i L) (hI g3 247) (hI g3 248)) := Sg3.of rfl rfl (Nat.le_refl _)
              refine ⟨nI L.length, sR g1 (2 + 8 + 2 * i) 0 P, sQ g3 (prgW e.1 i L) (hI g3 247) (hI g3 248), ?_, ?_, ⟨(prgW e.1 i L, e.2.1, e.2.2), recC c, recU c u e, sn, v, C1.fr F4.ch S4, k4.q k4.2.2.2, ⟨?_, fun k hk => recU_WF C.2.2.1.1 (fun k hk => (W.2.1 k hk).up (by omega)) (W.1.up (by omega)) k hk, W.2.2.1, fun z => (W.2.2.2 z).up (by omega)⟩, X1.fr (fun x hx => ?_) ?_⟩, s2⟩
              · rw [cls, d1]
                simp only [bnd, d5.1.x0, inv6 d5.1, c_washerOf d5.1 st2 hi8]
                have tP : hT g1 P = (4, 0) := O1.1
                have iP : hI g1 P 0 = nI L.length := O1.2.2.2.1
                simp only [putR, d5.1.tW st2 hi8, true_and, show ¬ (P = 0) by omega, ne_eq, not_false_eq_true, if_true, getI, hT_sR, tP, hI_sR, iP, retI]
              · rw [rf2, k1]
                exact pl'
              · exact WF.house hi (fun j hj => prgW_off e.1 i z hj) (fun k hk => prgW_lo e.1 i z (by omega) (by omega)) (((W.1.2.2.2.2.1 i hi).mono (by omega)).prog z V y) (W.1.up (by omega))
              · rw [hI_sQn _ _ _ _ _ (by omega) (by omega) (by omega), (k2.2.2 x (by omega)).1, (f2.2.2 x (fun z => by unfold RDc at z; omega)).1]
              · rw [hI_sQn _ _ _ _ _ (by omega) (by omega) (by omega), k5, f5, h17]
          · rw [if_neg z] at cls rf
            exact ⟨-3, g0, g', cls, rf, rel0, Sg0⟩
  · refine Pair.same (x := fun h => _) (m := fun h => _) R' (-1) ?_ ?_
    · unfold s_X8_readProgram
      simp only [S.x0, inv6 S, c_has S C.2.1, hasI_0 q, bnd, if_true, if_false]
      rfl
    · unfold s_X9_readProgram
      simp only [inv9 S, r_has S hh2, hasI_0 q, bnd, if_true, if_false]
      rfl
