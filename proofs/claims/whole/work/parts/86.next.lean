/-! heatNext -/
theorem sQ_sQ (h : Hp) (w a b w' a' b' : Row) : sQ (sQ h w a b) w' a' b' = sQ h w' a' b' := by
  unfold sQ
  refine Prod.ext ?_ rfl
  funext k
  show (if k = 242 then w' else if k = 247 then a' else if k = 248 then b' else (if k = 242 then w else if k = 247 then a else if k = 248 then b else hI h k)) = if k = 242 then w' else if k = 247 then a' else if k = 248 then b' else hI h k
  by_cases q1 : k = 242
  · rw [if_pos q1, if_pos q1]
  · rw [if_neg q1, if_neg q1, if_neg q1]
    by_cases q2 : k = 247
    · rw [if_pos q2, if_pos q2]
    · rw [if_neg q2, if_neg q2, if_neg q2]
      by_cases q3 : k = 248
      · rw [if_pos q3, if_pos q3]
      · rw [if_neg q3, if_neg q3, if_neg q3]
theorem r_keep {h : Hp} {w : Row} {v : Ent} {c : Nat} {u : Nat → Ent} {sn : Int32} (S : Sh h) (Q : RS h w c u sn v) :
    ∃ g, s_X9_copy 242 0 243 0 h = some ((), g) ∧ Sh g ∧ RS g w c u sn v ∧ Fr (fun x => x = 243) h g ∧ ∀ j, j < 401 → hI g 243 j = w j := by
  obtain ⟨g, c1, c2, c3, c4, c5, c6⟩ := r_copy (h := h) (A := 242) (B := 243) (x := 0) (y := 0) S.m2 S.m43 (by decide) (by decide) (by decide) (by omega) (by omega) (by omega) (by omega)
  refine ⟨g, c1, S.of c3 c2.1 (Nat.le_of_eq c2.2.1.symm), ?_, c2, fun j hj => ?_⟩
  · unfold RS at *
    rw [(c2.2.2 242 (by omega)).1, (c2.2.2 241 (by omega)).1, (c2.2.2 245 (by omega)).1, (c2.2.2 244 (by omega)).1, (c2.2.2 248 (by omega)).1]
    exact Q
  · have := c4 j hj
    rw [Nat.zero_add, Q.1] at this
    exact this
theorem r_unkeep {g : Hp} {w : Row} (S : Sh g) (hk : ∀ j, j < 401 → hI g 243 j = w j) (w2 a b : Row) : s_X9_copy 243 0 242 0 (sQ g w2 a b) = some ((), sQ g (mixR w w2) a b) := by
  have S' : Sh (sQ g w2 a b) := S.of rfl rfl (Nat.le_refl _)
  have bk := r_back S' (A := 243) (la := 401) (x := 0) S'.m43 (by decide) (by decide) (by omega) (by omega) w (fun j hj => by rw [Nat.zero_add, hI_sQn _ _ _ _ _ (by omega) (by omega) (by omega)]; exact hk j hj)
  rw [sQ_sQ, hI_sQ2, hI_sQ7, hI_sQ8] at bk
  exact bk
theorem q_fin {h1 g : Hp} {t : Nat} {e v : Ent} {c : Nat} {u : Nat → Ent} {sn : Int32} (C1 : CS h1 e c u sn v) (W : WFe e t ∧ (∀ k, k < c → WFe (u k) t) ∧ (sn = 0 ∨ sn = 1) ∧ (sn ≠ 0 → WFe v t)) (X1 : TX h1) (F : Fr (fun x => x = 243) h1 g) (Sg : Sh g) (Qg : RS g e.1 c u sn v) (w2 a' b' : Row) (hb : ∀ i, 8 ≤ i → b' i = 0) : REL (sQ g (mixR e.1 w2) a' b') (t + 60) := by
  have F3 : Fr RC h1 (sQ g (mixR e.1 w2) a' b') := (F.mono (fun x hx => by have : x = 243 := hx; exact ⟨by omega, by omega⟩)).trans (sQ_fr g _ _ _)
  have S3 : Sh (sQ g (mixR e.1 w2) a' b') := Sg.of rfl rfl (Nat.le_refl _)
  have C3 := C1.fr F3.ch S3
  refine ⟨(mixR e.1 w2, e.2.1, e.2.2), c, u, sn, v, ⟨C3.1, SR.ext (mixR_lo e.1 w2) C3.2.1, C3.2.2⟩, Qg.q hb, ⟨WF.ext (mixR_lo e.1 w2) (W.1.up (by omega)), fun k hk => (W.2.1 k hk).up (by omega), W.2.2.1, fun z => (W.2.2.2 z).up (by omega)⟩, ?_⟩
  refine X1.fr (fun x hx => ?_) ?_
  · rw [hI_sQn _ _ _ _ _ (by omega) (by omega) (by omega), (F.2.2 x (by omega)).1]
  · rw [hI_sQn _ _ _ _ _ (by omega) (by omega) (by omega), (F.2.2 241 (by omega)).1]
theorem T_k1 {h : Hp} (S : Sh h) {α : Type} (f : Nat → Option α) : getR h 241 9 1 f = f 243 := by
  simp only [getR, S.m0, S.m1', true_and, show ((243 : Nat) = 0) = False from eq_false (by decide), ne_eq, not_false_eq_true, if_true]
theorem T_k0 {h : Hp} (S : Sh h) {α : Type} (f : Nat → Option α) : getR h 241 9 0 f = f 242 := by
  simp only [getR, S.m0, S.m1, true_and, show ((242 : Nat) = 0) = False from eq_false (by decide), ne_eq, not_false_eq_true, if_true]
theorem T_k9 {h : Hp} (S : Sh h) {α : Type} (f : Nat → Option α) : getR h 241 9 9 f = f 248 := by
  simp only [getR, S.m0, S.m9, true_and, show ((248 : Nat) = 0) = False from eq_false (by decide), ne_eq, not_false_eq_true, if_true]
theorem T_x4 {h : Hp} (S : Sh h) {α : Type} (f : Nat → Option α) : getR h 1 8 4 f = f 235 := by
  simp only [getR, S.2.2.1.1, S.2.2.1.2.2.2.2.2.1, true_and, show ((235 : Nat) = 0) = False from eq_false (by decide), ne_eq, not_false_eq_true, if_true]
theorem T_g8 {h : Hp} (S : Sh h) {α : Type} {i : Nat} (hi : i < 8) (f : Int32 → Option α) : (getR h 235 0 2 fun x => ldI h x 20 (nI i) f) = f (hI h 238 i) := by
  simp only [getR, ldI, S.2.2.2.2.1.1, S.2.2.2.2.1.2.2.2.1, S.2.2.2.2.1.2.2.2.2.2.2, true_and, show ((238 : Nat) = 0) = False from eq_false (by decide), ne_eq, not_false_eq_true, if_true, nI_ge0 (show i < 2 ^ 31 by omega), nI_clamp (show i < 2 ^ 31 by omega), hi]
theorem T_m8 {h : Hp} (S : Sh h) {α : Type} {i : Nat} (hi : i < 8) (f : Int32 → Option α) : ldI h 248 20 (nI i) f = f (hI h 248 i) := by
  simp only [ldI, S.m48, nI_ge0 (show i < 2 ^ 31 by omega), nI_clamp (show i < 2 ^ 31 by omega), hi, true_and, if_true]
theorem r_next {g : Hp} {e : Ent} {t : Nat} (S : Sh g) (F : WFe e t) (ht : t ≤ 40000) (a b : Row) (hb : ∀ i, 8 ≤ i → b i = 0) (kf : Int32 → Hp → Rv Int32) :
    ∃ w2 a' v, (inv (sQ g e.1 a b) 241 9 (s_X9_fillStore 241 (sQ g e.1 a b)) fun _ h => inv h 241 9 (s_X9_heatNow 241 h) fun x6 h => inv h 241 9 (s_X9_split 241 x6 h) fun x7 h => kf x7 h) = kf v (sQ g w2 a' (gI (getA e.1 e.2.1 e.2.2).1)) := by
  obtain ⟨⟨h8, h10, e2, e8⟩, hp, B, L, H, s4⟩ := F
  obtain ⟨b1, b2, b3, b4, b5, b6, b7, b8⟩ := B.n
  obtain ⟨w2, hw2⟩ : ∃ w2, w2 = upd (upd e.1 7 (nI (filN e.1))) 13 (e.1 13 + (nI (filN e.1) - e.1 7)) := ⟨_, rfl⟩
  have w5 : w2 5 = nI (outN e.1) := by rw [hw2, upd_ne _ _ (by omega), upd_ne _ _ (by omega)]; exact b5
  have w7 : w2 7 = nI (filN e.1) := by rw [hw2, upd_ne _ _ (by omega), upd_eq]
  have hf : filN e.1 ≤ 60000 := Nat.le_trans (Nat.min_le_left _ _) b2
  have hn := r_heatNow S w5 w7 (by omega) (by omega) a b
  have fs := r_fillStore S B a b
  rw [← hw2] at fs
  have ew : wanA w2 e.2.1 = wanA e.1 e.2.1 := by rw [hw2, wanA_upd _ (by omega), wanA_upd _ (by omega)]
  have es : shA w2 e.2.1 e.2.2 = shA e.1 e.2.1 e.2.2 := by rw [hw2, shA_upd _ (by omega), shA_upd _ (by omega)]
  obtain ⟨a', sp⟩ := r_split S (w := w2) (n := e.2.1) (nl := e.2.2) (t := t) (x := min (outN e.1) (filN e.1)) h8 h10 (by rw [hw2, upd_ne _ _ (by omega), upd_ne _ _ (by omega)]; exact e2) (by rw [hw2, upd_ne _ _ (by omega), upd_ne _ _ (by omega)]; exact e8) (by rw [hw2]; exact (L.lo (by omega)).lo (by omega)) (fun i hi => by rw [hw2]; exact ((H i hi).lo (by omega)).lo (by omega)) ht (by omega) a b hb
  rw [ew, es] at sp
  refine ⟨w2, a', nI (min (outN e.1) (filN e.1)) - nI (splN (wanA e.1 e.2.1) (shA e.1 e.2.1 e.2.2) (min (outN e.1) (filN e.1)) zeroN (min (outN e.1) (filN e.1))).2, ?_⟩
  simp only [q_inv S, fs, bnd, hn, sp]
  rfl
theorem p_heatNext (t : Nat) (ht : t ≤ 38000) (a1 : Int32) : Pair (s_X8_heatNext 1 a1) (s_X9_heatNext 241 a1) t := by
  intro h R
  have R' := R
  obtain ⟨e, c, u, sn, v, C, Q, W, X⟩ := R
  have S := C.1
  have n8 : e.2.1 ≤ 8 := W.1.1.1
  have e2 : e.1 2 = nI e.2.1 := W.1.1.2.2.1
  have st2 : isSt 2 := Or.inl rfl
  have hN0 : 250 ≤ hN h := S.2.2.2.2.2.2.2.2
  have hh2 : hI h 242 2 = nI e.2.1 := by rw [Q.1]; exact e2
  have h7 : hI h 2 7 = e.1 1 := C.2.1.2.1.2.2.2.2.1
  have getp : ∀ (g : Hp), Sh g → hI g 242 = e.1 → ∀ {α : Type} (f : Int32 → Option α), (getR g 241 9 0 fun x2 => ldI g x2 20 1 f) = f (e.1 1) := fun g Sg eg α f => by
    rw [sQ_of eg]
    simp only [qg Sg, ql_1 Sg]
  by_cases q : inH a1 e.2.1
  · obtain ⟨i, rfl, hi⟩ := inH_of n8 q
    have hi8 : i < 8 := by omega
    by_cases q2 : e.1 1 = 0
    · refine Pair.same (x := fun h => _) (m := fun h => _) R' 0 ?_ ?_
      · unfold s_X8_heatNext
        simp only [S.x0, inv6 S, c_has S C.2.1, hasI_1 q, bnd, if_true, if_false, show ((1 : Int32) = 0) = False from eq_false (by decide), get6 S, h7, q2]
        rfl
      · unfold s_X9_heatNext
        simp only [inv9 S, r_has S hh2, hasI_1 q, bnd, if_true, if_false, show ((1 : Int32) = 0) = False from eq_false (by decide)]
        rw [getp h S Q.1, if_pos q2]
        rfl
    · obtain ⟨h1, d1, d2, d3, d4, d5⟩ := c_divideHeat (t := t) st2 (by omega) S C.2.1 W.1.2.2.1 W.1.2.2.2.1 W.1.2.2.2.2.1 C.2.2.2.2
      have S1 : Sh h1 := S.of d3 d4 d2.1
      have far : ∀ x, 239 ≤ x → x ≤ 250 → hI h1 x = hI h x := fun x x1 x2 => (d2.2.2 x (by omega) (fun z => by unfold SPP at z; omega)).1
      have C1 : CS h1 e c u sn v := C.step (d2.mono (fun x hx => Or.inr hx)) S1 (SR.sp st2 S C.2.1 d2) (getA_gI_tail d5 (getA_sum n8).2.2.2)
      have Q1 : RS h1 e.1 c u sn v := Q.fr (fun x hx => far x (by have := hx.1; omega) hx.2)
      have X1 : TX h1 := X.fr (fun x hx => far x (by omega) (by omega)) (by rw [far 241 (by omega) (by omega)])
      obtain ⟨g, k1, Sg, Qg, Fg, kk⟩ := r_keep S1 Q1
      have eg := sQ_of Qg.1
      have gz : ∀ j, 8 ≤ j → gI (getA e.1 e.2.1 e.2.2).1 j = 0 := fun j hj => by
        show nI _ = 0
        rw [(getA_sum n8).2.2.2 j hj]
        rfl
      obtain ⟨w2, a', x, nx⟩ := r_next (t := t) Sg W.1 (by omega) (hI g 247) (hI g 248) Qg.2.2.2 (fun _ h => getR h 241 9 1 fun x8 => getR h 241 9 0 fun x9 => bnd (s_X9_copy x8 0 x9 0 h) fun _ h => getR h 241 9 9 fun x10 => ldI h x10 20 (nI i) fun x11 => retI x11 h)
      rw [← eg] at nx
      have Sq : Sh (sQ g w2 a' (gI (getA e.1 e.2.1 e.2.2).1)) := Sg.of rfl rfl (Nat.le_refl _)
      have Sm : Sh (sQ g (mixR e.1 w2) a' (gI (getA e.1 e.2.1 e.2.2).1)) := Sg.of rfl rfl (Nat.le_refl _)
      refine ⟨nI ((getA e.1 e.2.1 e.2.2).1 i), h1, sQ g (mixR e.1 w2) a' (gI (getA e.1 e.2.1 e.2.2).1), ?_, ?_, q_fin C1 W X1 Fg Sg Qg w2 a' _ gz, S1⟩
      · unfold s_X8_heatNext
        simp only [S.x0, inv6 S, c_has S C.2.1, hasI_1 q, bnd, if_false, show ((1 : Int32) = 0) = False from eq_false (by decide), get6 S, h7, if_neg q2, T_x4 S, d1]
        rw [T_x4 S1, T_g8 S1 hi8, d5]
        rfl
      · unfold s_X9_heatNext
        simp only [inv9 S1, r_has S1 (show hI h1 242 2 = nI e.2.1 by rw [Q1.1]; exact e2), hasI_1 q, bnd, if_false, show ((1 : Int32) = 0) = False from eq_false (by decide)]
        rw [getp h1 S1 Q1.1, if_neg q2, T_k0 S1, T_k1 S1, k1]
        refine nx.trans ?_
        show (getR (sQ g w2 a' (gI (getA e.1 e.2.1 e.2.2).1)) 241 9 1 fun x8 => _) = _
        rw [T_k1 Sq, T_k0 Sq, r_unkeep Sg kk]
        simp only [bnd, T_k9 Sm, T_m8 Sm hi8]
        rfl
  · refine Pair.same (x := fun h => _) (m := fun h => _) R' (-1) ?_ ?_
    · unfold s_X8_heatNext
      simp only [S.x0, inv6 S, c_has S C.2.1, hasI_0 q, bnd, if_true, if_false]
      rfl
    · unfold s_X9_heatNext
      simp only [inv9 S, r_has S hh2, hasI_0 q, bnd, if_true, if_false]
      rfl
