/-! pass -/
theorem nI_ofI {a : Int32} (h : 0 ≤ a) : ∃ m, a = nI m ∧ m < 2 ^ 31 := by
  have h1 : 0 ≤ a.toInt := by
    have := Int32.le_iff_toInt_le.mp h
    rw [show (0 : Int32).toInt = 0 from by decide] at this
    exact this
  have h2 : a.toInt < 2 ^ 31 := Int32.toInt_lt a
  refine ⟨a.toInt.toNat, Int32.toInt_inj.mp ?_, by omega⟩
  rw [nI_toInt (by omega)]
  omega
theorem win8 (a lo hi : Int32) (h : Hp) : s_X8_isWithin a lo hi h = some (if lo ≤ a ∧ a ≤ hi then 1 else 0, h) := by
  unfold s_X8_isWithin retZ
  by_cases q : a < lo
  · rw [if_pos q, if_pos (Or.inl rfl), if_neg (fun z => Int32.not_lt.mpr z.1 q)]
  · rw [if_neg q]
    by_cases q2 : hi < a
    · rw [if_pos q2, if_pos (Or.inl rfl), if_neg (fun z => Int32.not_lt.mpr z.2 q2)]
    · rw [if_neg q2, if_pos (Or.inr rfl), if_pos ⟨Int32.not_lt.mp q, Int32.not_lt.mp q2⟩]
theorem win_of {a : Int32} {lo hi : Nat} (hh : hi < 2 ^ 31) (hl : lo < 2 ^ 31) (h : nI lo ≤ a ∧ a ≤ nI hi) : ∃ m, a = nI m ∧ lo ≤ m ∧ m ≤ hi := by
  obtain ⟨m, rfl, hm⟩ := nI_ofI (Int32.le_trans (nI_pos' hl) h.1)
  exact ⟨m, rfl, (nI_leI hl hm).mp h.1, (nI_leI hm hh).mp h.2⟩
def minE (e : Ent) : Ent := (minR e.1 e.2.1 e.2.2, e.2.1, minL e.1 e.2.1 e.2.2)
def minI : Nat → Ent → Ent
  | 0, e => e
  | d + 1, e => minI d (minE e)
def hetI : Nat → Ent → Int32 → Int32
  | 0, _, v => v
  | d + 1, e, v => hetI d (minE e) (v + minH e.1 e.2.1 e.2.2)
def MW (e : Ent) (t : Nat) : Prop := ∀ i, i < e.2.1 → WH (midR e.1 e.2.1 e.2.2) i (t + 1)
def MWs : Nat → Ent → Nat → Prop
  | 0, _, _ => True
  | d + 1, e, t => MW e t ∧ MWs d (minE e) (t + 1)
theorem WFe.min {e : Ent} {t : Nat} (ht : t ≤ 39000) (F : WFe e t) (m : MW e t) : WFe (minE e) (t + 1) := minR_WF ht F m
theorem WFe.mins : ∀ (d : Nat) (e : Ent) (t : Nat), t + d ≤ 39000 → WFe e t → MWs d e t → WFe (minI d e) (t + d)
  | 0, _, _, _, F, _ => F
  | d + 1, e, t, ht, F, m => by
    have := WFe.mins d (minE e) (t + 1) (by omega) (F.min (by omega) m.1) m.2
    rw [show t + 1 + d = t + (d + 1) by omega] at this
    exact this
theorem c_min1 {h : Hp} {T t : Nat} {e : Ent} (st : isSt T) (ht : t ≤ 39000) (S : Sh h) (R : SRe h T e) (F : WFe e t) (z : ∀ i, 8 ≤ i → hI h 238 i = 0) :
    ∃ h', s_X6_passMinute T 235 h = some (minH e.1 e.2.1 e.2.2, h') ∧ Ch (PMP T) h h' ∧ Sh h' ∧ SRe h' T (minE e) ∧ (∀ i, 8 ≤ i → hI h' 238 i = 0) ∧ MW e t := by
  obtain ⟨⟨h8, h10, e2, e8⟩, hp, B, L, H, s4⟩ := F
  obtain ⟨h', a1, a2, a3, a4, a5, a6, a7⟩ := c_passMinute st ht S R B L H hp z (getA_250 h8)
  refine ⟨h', a1, a2, S.of a3 a4 a2.1, a6, fun i hi => ?_, a7⟩
  rcases a5 with q | q
  · rw [q]; exact z i hi
  · rw [q]
    show nI _ = 0
    rw [(getA_sum h8).2.2.2 i hi]
    rfl
theorem c_passL {m : Nat} (hm : m ≤ 1000) : ∀ (d k f t : Nat) (h : Hp) (e : Ent) (v : Int32), k + d = m → d < f → t + d ≤ 39000 → Sh h → SRe h 2 e → WFe e t → (∀ i, 8 ≤ i → hI h 238 i = 0) →
    ∃ h', s_X8_pass_L28 f 1 (nI m) v (nI k) h = some (hetI d e v, h') ∧ Ch (PMP 2) h h' ∧ Sh h' ∧ SRe h' 2 (minI d e) ∧ (∀ i, 8 ≤ i → hI h' 238 i = 0) ∧ MWs d e t
  | 0, k, f, t, h, e, v, hk, hf, ht, S, R, F, z => by
    obtain ⟨q, rfl, -⟩ := fuel_succ hf
    refine ⟨h, ?_, Ch.rfl', S, R, z, trivial⟩
    rw [s_X8_pass_L28]
    simp only [nI_leE (show m < 2 ^ 31 by omega) (show k < 2 ^ 31 by omega), show m ≤ k by omega, if_true]
    rfl
  | d + 1, k, f, t, h, e, v, hk, hf, ht, S, R, F, z => by
    obtain ⟨q, rfl, hq⟩ := fuel_succ hf
    obtain ⟨h1, a1, a2, a3, a4, a5, a6⟩ := c_min1 (Or.inl rfl) (show t ≤ 39000 by omega) S R F z
    obtain ⟨h', b1, b2, b3, b4, b5, b6⟩ := c_passL hm d (k + 1) q (t + 1) h1 (minE e) (v + minH e.1 e.2.1 e.2.2) (by omega) (by omega) (by omega) a3 a4 (F.min (by omega) a6) a5
    refine ⟨h', ?_, a2.trans b2, b3, b4, b5, a6, b6⟩
    rw [s_X8_pass_L28]
    simp only [nI_leE (show m < 2 ^ 31 by omega) (show k < 2 ^ 31 by omega), show ¬ (m ≤ k) by omega, if_false, getR, inv, bnd, S.2.2.1.1, S.2.2.1.2.1, S.2.2.1.2.2.2.2.2.1, S.t0 (show isSt 2 from Or.inl rfl), true_and, show ((2 : Nat) = 0) = False from eq_false (by decide), show ((235 : Nat) = 0) = False from eq_false (by decide), ne_eq, not_false_eq_true, if_true, a1, nI_1]
    exact b1
theorem PMP.sc {x : Nat} (q : PMP 2 x) : SC x := q
