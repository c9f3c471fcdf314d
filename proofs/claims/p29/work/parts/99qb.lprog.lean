/-! the law's programs: the text -/
theorem i2c_small : ∀ c : Fin 128, ((nI c.val).toUInt32 % 65536).toInt32 = nI c.val ∧ vp_nar .char (nI c.val) = nI c.val := by decide +kernel
theorem i2c_is {c : Nat} (h : c < 128) : ((nI c).toUInt32 % 65536).toInt32 = nI c := (i2c_small ⟨c, h⟩).1
theorem nar_is {c : Nat} (h : c < 128) : vp_nar .char (nI c) = nI c := (i2c_small ⟨c, h⟩).2
/-- one phase's text, from p to its end r -/
def PH (C : Row) (p r : Nat) (kv : Nat × Nat) : Prop := C p = nI kv.1 ∧ ((kv.1 = 100 ∧ kv.2 = 0 ∧ r = p + 1) ∨ ((kv.1 = 102 ∨ kv.1 = 104 ∨ kv.1 = 119 ∨ kv.1 = 115) ∧ ((1 ≤ kv.2 ∧ kv.2 ≤ 9 ∧ C (p + 1) = nI (48 + kv.2) ∧ r = p + 2) ∨ (10 ≤ kv.2 ∧ kv.2 ≤ 99 ∧ C (p + 1) = nI (48 + kv.2 / 10) ∧ C (p + 2) = nI (48 + kv.2 % 10) ∧ r = p + 3))))
theorem PH.lt {C : Row} {p r : Nat} {kv : Nat × Nat} (h : PH C p r kv) : p < r := by
  obtain ⟨-, ⟨-, -, h⟩ | ⟨-, ⟨-, -, -, h⟩ | ⟨-, -, -, -, h⟩⟩⟩ := h <;> omega
theorem PH.congr {C C' : Row} {p r : Nat} {kv : Nat × Nat} (e : ∀ j, j < r → C' j = C j) (h : PH C p r kv) : PH C' p r kv := by
  have hl := h.lt
  obtain ⟨h0, ⟨a, b, h⟩ | ⟨a, ⟨b, c, d, h⟩ | ⟨b, c, d, f, h⟩⟩⟩ := h
  · exact ⟨by rw [e _ hl]; exact h0, Or.inl ⟨a, b, h⟩⟩
  · exact ⟨by rw [e _ hl]; exact h0, Or.inr ⟨a, Or.inl ⟨b, c, by rw [e _ (by omega)]; exact d, h⟩⟩⟩
  · exact ⟨by rw [e _ hl]; exact h0, Or.inr ⟨a, Or.inr ⟨b, c, by rw [e _ (by omega)]; exact d, by rw [e _ (by omega)]; exact f, h⟩⟩⟩
def TP (C : Row) (m : Nat) : List (Nat × Nat) → Nat → Prop
  | [], _ => False
  | [kv], p => PH C p m kv
  | kv :: kv' :: L, p => ∃ r, PH C p r kv ∧ r < m ∧ C r = 59 ∧ TP C m (kv' :: L) (r + 1)
theorem TP.lt {C : Row} {m : Nat} : ∀ (L : List (Nat × Nat)) (p : Nat), TP C m L p → p < m
  | [], _, h => h.elim
  | [kv], p, h => PH.lt h
  | kv :: kv' :: L, p, h => by
    obtain ⟨r, h1, h2, -, -⟩ := h
    have := h1.lt
    omega
theorem TP.snoc {C C' : Row} {m m' : Nat} {kv : Nat × Nat} (e : ∀ j, j < m → C' j = C j) (h59 : C' m = 59) (hp : PH C' (m + 1) m' kv) : ∀ (L : List (Nat × Nat)) (p : Nat), TP C m L p → TP C' m' (L ++ [kv]) p
  | [], _, h => h.elim
  | [x], p, h => ⟨m, PH.congr e h, by have := hp.lt; omega, h59, hp⟩
  | x :: y :: L, p, h => by
    obtain ⟨r, h1, h2, h3, h4⟩ := h
    exact ⟨r, h1.congr (fun j hj => e j (by omega)), by have := hp.lt; omega, by rw [e r h2]; exact h3, TP.snoc e h59 hp (y :: L) (r + 1) h4⟩
def toI (kv : Nat × Nat) : Int32 × Int32 := (nI kv.1, nI kv.2)
theorem dg_small : ∀ c : Fin 128, (dgA (nI c.val) = decide (48 ≤ c.val ∧ c.val ≤ 57)) ∧ (dgB (nI c.val) = decide (49 ≤ c.val ∧ c.val ≤ 57)) := by decide +kernel
theorem dgA_is {c : Nat} (h : c < 128) : dgA (nI c) = decide (48 ≤ c ∧ c ≤ 57) := (dg_small ⟨c, h⟩).1
theorem dgB_is {c : Nat} (h : c < 128) : dgB (nI c) = decide (49 ≤ c ∧ c ≤ 57) := (dg_small ⟨c, h⟩).2
theorem PH_phR {C : Row} {p r m : Nat} {kv : Nat × Nat} (h : PH C p r kv) (hr : r ≤ m) (hs : r < m → C r = 59) : phR C m p = (r, some (toI kv)) := by
  obtain ⟨k, v⟩ := kv
  have hl := h.lt
  obtain ⟨h0, h1⟩ := h
  unfold phR
  rw [if_pos (by omega), h0]
  rcases h1 with ⟨a, b, c⟩ | ⟨a, h1⟩
  · simp only at a b c
    subst a
    subst b
    subst c
    rw [if_pos (by rfl)]
    rfl
  · simp only at a
    have n100 : ¬ nI k = 100 := by rcases a with y | y | y | y <;> (rw [y]; decide)
    have ik : isK (nI k) = true := by rcases a with y | y | y | y <;> (rw [y]; decide)
    simp only at h0
    rw [if_neg n100, if_pos ik]
    rcases h1 with ⟨b1, b2, b3, b4⟩ | ⟨b1, b2, b3, b4, b5⟩
    · simp only at b1 b2 b3 b4
      subst b4
      rw [if_pos (by omega), b3, if_pos (by rw [dgB_is (by omega)]; exact decide_eq_true (by omega))]
      have ev : nI (48 + v) - 48 = nI v := by rw [show (48 : Int32) = nI 48 from rfl, nI_sub (by omega)]; congr 1; omega
      by_cases z : p + 2 < m
      · rw [if_pos z, hs z, if_neg (by decide), ev]
        rfl
      · rw [if_neg z, ev]
        rfl
    · simp only at b1 b2 b3 b4 b5
      subst b5
      rw [if_pos (by omega), b3, if_pos (by rw [dgB_is (by omega)]; exact decide_eq_true (by omega)), if_pos (by omega), b4, if_pos (by rw [dgA_is (by omega)]; exact decide_eq_true (by omega))]
      have ev : 10 * (nI (48 + v / 10) - 48) + nI (48 + v % 10) - 48 = nI v := by
        rw [show (48 : Int32) = nI 48 from rfl, nI_sub (by omega), show (10 : Int32) = nI 10 from rfl, nI_mul, nI_add, nI_sub (by omega)]
        congr 1
        omega
      rw [ev]
      rfl
theorem TP_prs {C : Row} {m : Nat} : ∀ (L : List (Nat × Nat)) (p d : Nat), TP C m L p → L.length ≤ d → prs C m d p = (m, some (L.map toI))
  | [], _, _, h, _ => h.elim
  | [kv], p, 0, _, hd => absurd hd (by simp)
  | [kv], p, d + 1, h, hd => by
    unfold prs
    rw [PH_phR h (Nat.le_refl m) (fun z => absurd z (Nat.lt_irrefl m))]
    simp only [if_true]
    rfl
  | kv :: kv' :: L, p, 0, _, hd => absurd hd (by simp)
  | kv :: kv' :: L, p, d + 1, h, hd => by
    obtain ⟨r, h1, h2, h3, h4⟩ := h
    unfold prs
    rw [PH_phR h1 (by omega) (fun _ => h3)]
    have ih := TP_prs (kv' :: L) (r + 1) d h4 (by simp at hd ⊢; omega)
    simp only [if_neg (show ¬ r = m by omega), if_pos h3, ih]
    rfl
/-! the law's programs: the typing -/
theorem l_t {h : Hp} {q o p l g Ct : Row} {e : Ent} {m c : Nat} (C : CST (sV h q o p l g) e) (X : TXT (sV h q o p l g) m Ct) (hm : m < 60) (hc : c < 128) : ∃ h1, s_X8_type 1 (((nI c).toUInt32 % 65536).toInt32) (sV h q o p l g) = some (nI (m + 1), sV h1 q o p l g) ∧ CST (sV h1 q o p l g) e ∧ TXT (sV h1 q o p l g) (m + 1) (upd Ct m (nI c)) := by
  obtain ⟨h1, a1, a2, a3, a4⟩ := q_type C X hm (nar_is hc)
  have e1 := a3.sv
  rw [e1] at a1 a2 a4
  rw [i2c_is hc]
  exact ⟨h1, a1, a2, a4⟩
theorem nI_lt1 {m : Nat} (hm : m < 100) : ¬ (nI (m + 1) < 1) ∧ (1 : Int32) ≤ nI (m + 1) := by
  refine ⟨?_, (nI_leI (a := 1) (b := m + 1) (by omega) (by omega)).mpr (by omega)⟩
  rw [show (1 : Int32) = nI 1 from rfl, nI_ltE (by omega) (by omega)]
  omega
def KV (kv : Nat × Nat) : Prop := (kv.1 = 100 ∧ kv.2 = 0) ∨ ((kv.1 = 102 ∨ kv.1 = 104 ∨ kv.1 = 119 ∨ kv.1 = 115) ∧ 1 ≤ kv.2 ∧ kv.2 ≤ 99)
theorem KV.lt {kv : Nat × Nat} (h : KV kv) : kv.1 < 128 ∧ kv.2 < 128 := by
  rcases h with ⟨a, b⟩ | ⟨a, b, c⟩ <;> omega
theorem l_ph {h : Hp} {q o p l g Ct : Row} {e : Ent} {m k v i : Nat} {x n kk : Int32} {k17 : Nat → Int32 → Int32 → Nat → Nat → Int32 → Int32 → Hp → Rv Int32} (C : CST (sV h q o p l g) e) (X : TXT (sV h q o p l g) m Ct) (hm : m < 50) (hk : KV (k, v)) :
    ∃ h1 C1 m1, s_X10_program_J152 k17 1 (nI i) x 242 243 n kk (nI k) (nI v) (sV h q o p l g) = s_X10_program_J211 (fun y0 y1 y2 y3 y4 y5 y6 h => k17 y0 y1 y2 y3 y4 y5 y6 h) 1 (nI i) x 242 243 n kk (nI k) (nI v) (sV h1 q o p l g) ∧ CST (sV h1 q o p l g) e ∧ TXT (sV h1 q o p l g) m1 C1 ∧ (∀ j, j < m → C1 j = Ct j) ∧ PH C1 m m1 (k, v) ∧ m1 ≤ m + 3 := by
  obtain ⟨k128, v128⟩ := hk.lt
  simp only at k128 v128
  have S := C.sh
  obtain ⟨h1, a1, a2, a3⟩ := l_t C X (show m < 60 by omega) k128
  have S1 := a2.sh
  obtain ⟨u1, u2⟩ := nI_lt1 (show m < 100 by omega)
  obtain ⟨w1, w2⟩ := nI_lt1 (show m + 1 < 100 by omega)
  obtain ⟨x1, x2⟩ := nI_lt1 (show m + 1 + 1 < 100 by omega)
  unfold s_X10_program_J152
  rw [S.i8, a1]
  simp only [bnd]
  rw [if_neg u1]
  have c48 : ∀ d, (48 : Int32) + nI d = nI (48 + d) := fun d => nI_add 48 d
  have c10 : (nI v < (10 : Int32)) = (v < 10) := nI_ltE (b := 10) (by omega) (by omega)
  have c0 : (nI v ≤ (0 : Int32)) = (v ≤ 0) := nI_leE (b := 0) (by omega) (by omega)
  have md : ∀ {α : Type} (f : Int32 → Option α), remI (nI v) 10 f = f (nI (v % 10)) := fun f => by rw [show (10 : Int32) = nI 10 from rfl, remI_n (by omega) (by omega) (by omega)]
  have dv : ∀ {α : Type} (f : Int32 → Option α), divI (nI v) 10 f = f (nI (v / 10)) := fun f => by
    unfold divI
    rw [if_neg (by decide), show (10 : Int32) = nI 10 from rfl, nI_div (by omega) (by omega) (by omega)]
  by_cases z : v < 10
  · rw [if_pos (Eq.mpr c10 z)]
    unfold s_X10_program_J187
    by_cases z0 : v ≤ 0
    · rw [if_pos (Eq.mpr c0 z0)]
      have k100 : k = 100 := by
        rcases hk with ⟨a, b⟩ | ⟨a, b, c⟩
        · exact a
        · simp only at b; omega
      refine ⟨h1, _, m + 1, rfl, a2, a3, fun j hj => upd_ne _ _ (by omega), ⟨upd_eq _ _ _, Or.inl ⟨k100, by simp only; omega, rfl⟩⟩, by omega⟩
    · rw [if_neg (fun y => z0 (Eq.mp c0 y)), md, c48, S1.i8]
      obtain ⟨h2, b1, b2, b3⟩ := l_t a2 a3 (show m + 1 < 60 by omega) (show 48 + v % 10 < 128 by omega)
      rw [b1]
      simp only [bnd]
      rw [if_pos w2]
      have kn : k = 102 ∨ k = 104 ∨ k = 119 ∨ k = 115 := by
        rcases hk with ⟨a, b⟩ | ⟨a, b, c⟩
        · simp only at b; omega
        · exact a
      refine ⟨h2, _, m + 1 + 1, rfl, b2, b3, fun j hj => by rw [upd_ne _ _ (by omega), upd_ne _ _ (by omega)], ⟨by rw [upd_ne _ _ (by omega), upd_eq], Or.inr ⟨kn, Or.inl ⟨by simp only; omega, by simp only; omega, ?_, rfl⟩⟩⟩, by omega⟩
      rw [upd_eq]
      simp only
      rw [Nat.mod_eq_of_lt z]
  · rw [if_neg (fun y => z (Eq.mp c10 y)), dv, c48, S1.i8]
    have hv : v / 10 < 10 := by
      rcases hk with ⟨a, b⟩ | ⟨a, b, c⟩
      · simp only at b; omega
      · simp only at c; omega
    have v99 : v ≤ 99 := by omega
    have kn : k = 102 ∨ k = 104 ∨ k = 119 ∨ k = 115 := by
      rcases hk with ⟨a, b⟩ | ⟨a, b, c⟩
      · simp only at b; omega
      · exact a
    obtain ⟨h2, b1, b2, b3⟩ := l_t a2 a3 (show m + 1 < 60 by omega) (show 48 + v / 10 < 128 by omega)
    have S2 := b2.sh
    rw [b1]
    simp only [bnd]
    rw [if_neg w1]
    unfold s_X10_program_J187
    rw [if_neg (fun y => by have := Eq.mp c0 y; omega), md, c48, S2.i8]
    obtain ⟨h3, d1, d2, d3⟩ := l_t b2 b3 (show m + 1 + 1 < 60 by omega) (show 48 + v % 10 < 128 by omega)
    rw [d1]
    simp only [bnd]
    rw [if_pos x2]
    refine ⟨h3, _, m + 1 + 1 + 1, rfl, d2, d3, fun j hj => by rw [upd_ne _ _ (by omega), upd_ne _ _ (by omega), upd_ne _ _ (by omega)], ⟨by rw [upd_ne _ _ (by omega), upd_ne _ _ (by omega), upd_eq], Or.inr ⟨kn, Or.inr ⟨by simp only; omega, v99, ?_, ?_, rfl⟩⟩⟩, by omega⟩
    · rw [upd_ne _ _ (by omega), upd_eq]
    · rw [show m + 2 = m + 1 + 1 from rfl, upd_eq]
/-- a phase with what stands before it -/
theorem l_sep {h : Hp} {q o p l g Ct : Row} {e : Ent} {m k v i kk : Nat} {x n : Int32} {k17 : Nat → Int32 → Int32 → Nat → Nat → Int32 → Int32 → Hp → Rv Int32} (C : CST (sV h q o p l g) e) (X : TXT (sV h q o p l g) m Ct) (hm : m < 49) (hk : KV (k, v)) (h4 : kk < 5) {L : List (Nat × Nat)} (hL : L.length = kk) (hT : (kk = 0 → m = 0) ∧ (kk ≠ 0 → TP Ct m L 0)) :
    ∃ h1 C1 m1, s_X10_program_J135 k17 1 (nI i) x 242 243 n (nI kk) (nI k) (nI v) (sV h q o p l g) = s_X10_program_J211 (fun y0 y1 y2 y3 y4 y5 y6 h => k17 y0 y1 y2 y3 y4 y5 y6 h) 1 (nI i) x 242 243 n (nI kk) (nI k) (nI v) (sV h1 q o p l g) ∧ CST (sV h1 q o p l g) e ∧ TXT (sV h1 q o p l g) m1 C1 ∧ TP C1 m1 (L ++ [(k, v)]) 0 ∧ m1 ≤ m + 4 := by
  have S := C.sh
  unfold s_X10_program_J135
  have c0 : (nI kk ≤ (0 : Int32)) = (kk ≤ 0) := nI_leE (b := 0) (by omega) (by omega)
  by_cases z : kk ≤ 0
  · rw [if_pos (Eq.mpr c0 z)]
    obtain ⟨h1, C1, m1, a1, a2, a3, a4, a5, a6⟩ := l_ph C X (show m < 50 by omega) hk (i := i) (x := x) (n := n) (kk := nI kk) (k17 := fun y0 y1 y2 y3 y4 y5 y6 h => k17 y0 y1 y2 y3 y4 y5 y6 h)
    refine ⟨h1, C1, m1, a1, a2, a3, ?_, by omega⟩
    have m0 := hT.1 (by omega)
    subst m0
    have : L = [] := List.length_eq_zero_iff.mp (by omega)
    rw [this]
    exact a5
  · rw [if_neg (fun y => z (Eq.mp c0 y)), S.i8]
    obtain ⟨h0, b1, b2, b3⟩ := l_t C X (show m < 60 by omega) (show 59 < 128 by omega)
    rw [i2c_is (by omega), show nI 59 = (59 : Int32) from rfl] at b1
    rw [b1]
    simp only [bnd]
    rw [if_neg (nI_lt1 (show m < 100 by omega)).1]
    obtain ⟨h1, C1, m1, a1, a2, a3, a4, a5, a6⟩ := l_ph b2 b3 (show m + 1 < 50 by omega) hk (i := i) (x := x) (n := n) (kk := nI kk) (k17 := fun y0 y1 y2 y3 y4 y5 y6 h => k17 y0 y1 y2 y3 y4 y5 y6 h)
    refine ⟨h1, C1, m1, a1, a2, a3, TP.snoc (C := Ct) (fun j hj => ?_) ?_ a5 L 0 (hT.2 (by omega)), by omega⟩
    · rw [a4 j (by omega), upd_ne _ _ (by omega)]
    · rw [a4 m (by omega), upd_eq]
      rfl
