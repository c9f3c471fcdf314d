/-! a new program -/
def NoC (_ : Nat) : Prop := False
theorem ch_sI {P : Nat → Prop} {h h1 : Hp} (a : Ch P h h1) (b k : Nat) (v : Int32) (hb : hN h < b) : Ch P h (sI h1 b k v) :=
  ⟨a.1, a.2.1, fun x hx hp => by
    have := a.2.2 x hx hp
    exact ⟨(hI_sIn _ _ _ _ _ (by omega)).trans this.1, this.2⟩⟩
theorem ch_sR {P : Nat → Prop} {h h1 : Hp} (a : Ch P h h1) (b k v : Nat) (hb : hN h < b) : Ch P h (sR h1 b k v) :=
  ⟨a.1, a.2.1, fun x hx hp => by
    have := a.2.2 x hx hp
    exact ⟨this.1, this.2.1, (hR_sRn _ _ _ _ _ (by omega)).trans this.2.2⟩⟩
theorem ch_nO {P : Nat → Prop} {h h1 : Hp} (a : Ch P h h1) (c n : Nat) : Ch P h (nO h1 c n) := by
  refine ⟨Nat.le_trans a.1 (Nat.le_succ _), fun b hb => ?_, fun x hx hp => ?_⟩
  · show (if b = hN h1 + 1 then (c, n) else hT h1 b) = hT h b
    rw [if_neg (by have := a.1; omega)]
    exact a.2.1 b hb
  · have n1 : x ≠ hN h1 + 1 := by have := a.1; omega
    have := a.2.2 x hx hp
    exact ⟨(zr2_ne _ _ n1).trans this.1, (zr2_ne _ _ n1).trans this.2.1, (zr2_ne _ _ n1).trans this.2.2⟩
theorem ch_fr {P Q : Nat → Prop} {h h1 h2 : Hp} (a : Ch P h h1) (F : Fr Q h1 h2) (hq : ∀ x, Q x → hN h < x) : Ch P h h2 := by
  refine ⟨by rw [F.2.1]; exact a.1, fun b hb => by rw [F.1]; exact a.2.1 b hb, fun x hx hp => ?_⟩
  have f := F.2.2 x (fun z => by have := hq x z; omega)
  have := a.2.2 x hx hp
  exact ⟨f.1.trans this.1, f.2.1.trans this.2.1, f.2.2.trans this.2.2⟩
theorem Sh.ch {h h' : Hp} (S : Sh h) (a : Ch NoC h h') : Sh h' := by
  have hN0 := S.2.2.2.2.2.2.2.2
  have t : ∀ b, b ≤ 245 → hT h' b = hT h b := fun b hb => a.2.1 b (by omega)
  have r : ∀ b, b ≤ 245 → hR h' b = hR h b := fun b hb => (a.2.2 b (by omega) (fun z => z)).2.2
  obtain ⟨s1, s2, s3, s4, s5, s6, s7, s8, s9⟩ := S
  refine ⟨fun T tT d hd => ?_, fun T tT => ?_, ?_, ?_, ?_, ?_, ?_, ?_, Nat.le_trans s9 a.1⟩
  · have := tT.pos
    rw [t _ (by omega)]
    exact s1 T tT d hd
  · have := tT.pos
    obtain ⟨a1, a2, a3, a4, a5⟩ := s2 T tT
    rw [r T (by omega), r (T + 2) (by omega), r (T + 3) (by omega)]
    refine ⟨a1, a2, a3, fun i hi => ?_, a5⟩
    rw [r (T + 7 + 2 * i) (by omega)]
    exact a4 i hi
  · rw [t 1 (by omega), r 1 (by omega)]; exact s3
  · rw [t 101 (by omega), r 101 (by omega), t 102 (by omega)]; exact s4
  · rw [t 235 (by omega), r 235 (by omega), t 236 (by omega), t 237 (by omega), t 238 (by omega)]; exact s5
  · rw [t 239 (by omega), r 239 (by omega), t 240 (by omega)]; exact s6
  · rw [t 241 (by omega)]; exact s7
  · rw [t 242 (by omega), t 243 (by omega), t 244 (by omega), t 245 (by omega)]; exact s8
theorem hT_nO (h : Hp) (c n b : Nat) : hT (nO h c n) b = if b = hN h + 1 then (c, n) else hT h b := rfl
theorem hI_nO (h : Hp) (c n b j : Nat) : hI (nO h c n) b j = if b = hN h + 1 then 0 else hI h b j := rfl
theorem hR_nO (h : Hp) (c n b j : Nat) : hR (nO h c n) b j = if b = hN h + 1 then 0 else hR h b j := rfl
theorem hN_nO (h : Hp) (c n : Nat) : hN (nO h c n) = hN h + 1 := rfl
theorem newA_nI {α : Type} (h : Hp) (c n cap : Nat) (hn : n ≤ cap) (hn2 : n < 2 ^ 31) (f : Nat → Hp → Option α) : newA h c (nI n) cap f = f (hN h + 1) (nO h c n) := by
  unfold newA
  rw [nI_clamp hn2, if_pos ⟨nI_pos' hn2, hn⟩]
theorem c_newProg {h : Hp} {np : Nat} (h1 : 1 ≤ np) (h60 : np < 64) :
    ∃ g, s_X4_init (hN h + 1) (nI np) (nO h 4 0) = some ((), g) ∧ Ch NoC h g ∧ PO g (hN h + 1) np ∧ (∀ j, hI g (hN h + 1 + 2) j = 0) ∧ hN g = hN h + 3 := by
  obtain ⟨P, hP⟩ : ∃ P, P = hN h + 1 := ⟨_, rfl⟩
  rw [← hP]
  obtain ⟨g1, e1⟩ : ∃ g1, g1 = sI (nO h 4 0) P 0 (nI np) := ⟨_, rfl⟩
  obtain ⟨g2, e2⟩ : ∃ g2, g2 = nO g1 21 np := ⟨_, rfl⟩
  obtain ⟨g3, e3⟩ : ∃ g3, g3 = sR g2 P 1 (P + 1) := ⟨_, rfl⟩
  obtain ⟨g4, e4⟩ : ∃ g4, g4 = nO g3 20 np := ⟨_, rfl⟩
  obtain ⟨g5, e5⟩ : ∃ g5, g5 = sR g4 P 2 (P + 2) := ⟨_, rfl⟩
  have n1 : hN g1 = P := by rw [e1, hP]; rfl
  have n2 : hN g2 = P + 1 := by rw [e2, hN_nO, n1]
  have n3 : hN g3 = P + 1 := by rw [e3, hN_sR, n2]
  have n4 : hN g4 = P + 2 := by rw [e4, hN_nO, n3]
  have n5 : hN g5 = P + 2 := by rw [e5, hN_sR, n4]
  have t0 : hT (nO h 4 0) P = (4, 0) := by rw [hT_nO, if_pos hP]
  have t1 : hT g1 P = (4, 0) := by rw [e1, hT_sI]; exact t0
  have t2 : hT g2 P = (4, 0) := by rw [e2, hT_nO, n1, if_neg (by omega)]; exact t1
  have t3 : hT g3 P = (4, 0) := by rw [e3, hT_sR]; exact t2
  have t4 : hT g4 P = (4, 0) := by rw [e4, hT_nO, n3, if_neg (by omega)]; exact t3
  have i1 : hI g1 P 0 = nI np := by rw [e1, hI_sI, if_pos ⟨rfl, rfl⟩]
  have i2 : hI g2 P 0 = nI np := by rw [e2, hI_nO, n1, if_neg (by omega)]; exact i1
  have i3 : hI g3 P 0 = nI np := by rw [e3, hI_sR]; exact i2
  have i4 : hI g4 P 0 = nI np := by rw [e4, hI_nO, n3, if_neg (by omega)]; exact i3
  refine ⟨g5, ?_, ?_, ⟨?_, ?_, ?_, ?_, ?_, ?_, h60⟩, fun j => ?_, by rw [n5]; omega⟩
  · unfold s_X4_init
    have pos : (0 : Int32) < nI np := by rw [show (0 : Int32) = nI 0 from rfl, nI_ltE (by omega) (by omega)]; omega
    simp only [putI, getI, t0, if_true, if_pos pos]
    rw [← e1]
    simp only [i1, newA_nI _ _ _ _ (show np ≤ 64 by omega) (show np < 2 ^ 31 by omega), t1, if_true]
    rw [← e2, n1]
    simp only [putR, t2, true_and, show ¬ (P + 1 = 0) by omega, ne_eq, not_false_eq_true, if_true]
    rw [← e3]
    simp only [t3, if_true, i3, newA_nI _ _ _ _ (show np ≤ 64 by omega) (show np < 2 ^ 31 by omega)]
    rw [← e4, n3]
    simp only [t4, true_and, show ¬ (P + 1 + 1 = 0) by omega, not_false_eq_true, if_true, retU]
    rw [e5]
  · rw [e5, e4, e3, e2, e1]
    exact ch_sR (ch_nO (ch_sR (ch_nO (ch_sI (ch_nO (Ch.rfl' (P := NoC) (h := h)) 4 0) _ _ _ (by omega)) 21 np) _ _ _ (by omega)) 20 np) _ _ _ (by omega)
  · rw [e5, hT_sR]; exact t4
  · rw [e5, hR_sR, if_neg (by omega), e4, hR_nO, n3, if_neg (by omega), e3, hR_sR, if_pos ⟨rfl, rfl⟩]
  · rw [e5, hR_sR, if_pos ⟨rfl, rfl⟩]
  · rw [e5, hI_sR]; exact i4
  · rw [e5, hT_sR, e4, hT_nO, n3, if_neg (by omega), e3, hT_sR, e2, hT_nO, n1, if_pos rfl]
  · rw [e5, hT_sR, e4, hT_nO, n3, if_pos (by omega)]
  · rw [e5, hI_sR, e4, hI_nO, n3, if_pos (by omega)]
/-- the program of a text without a fault -/
theorem c_toProgram {h : Hp} (S : Sh h) {m f : Nat} {L : List (Int32 × Int32)} (hm : hI h 239 1 = nI m) (m60 : m ≤ 60) (e : prs (hI h 240) m 61 0 = (f, some L)) (hl : L.length ≤ 60) :
    ∃ g, s_X5_toProgram 239 h = some (hN h + 1, g) ∧ Ch NoC h g ∧ Sh g ∧ PO g (hN h + 1) L.length ∧ hN g = hN h + 3 ∧ AtL (hI g (hN h + 1 + 1)) (hI g (hN h + 1 + 2)) 0 L := by
  have hN0 : 245 ≤ hN h := S.2.2.2.2.2.2.2.2
  have l0 : L.length ≠ 0 := fun z => (prs_PV 61 0 f L e).1 (List.length_eq_zero_iff.mp z)
  have S0 : Sh (nO h 4 0) := S.ch (ch_nO (Ch.rfl' (P := NoC)) 4 0)
  have m0 : hI (nO h 4 0) 239 1 = nI m := by rw [hI_nO, if_neg (by omega)]; exact hm
  have C0 : hI (nO h 4 0) 240 = hI h 240 := zr2_ne _ _ (by omega)
  have sp : s_X5_separators 239 (nO h 4 0) = some (nI (0 + (L.length - 1)), nO h 4 0) := sep_L S0 m0 m60 61 0 f 100000 0 L (by rw [C0]; exact e) (by omega) (by omega)
  obtain ⟨g1, a1, a2, a3, a4, a5⟩ := c_newProg (h := h) (np := L.length) (by omega) (by omega)
  have S1 : Sh g1 := S.ch a2
  have m1 : hI g1 239 1 = nI m := by rw [(a2.2.2 239 (by omega) (fun z => z)).1]; exact hm
  have C1 : hI g1 240 = hI h 240 := (a2.2.2 240 (by omega) (fun z => z)).1
  obtain ⟨g, b1, b2, b3, -, b5⟩ := tp_L (P := hN h + 1) (np := L.length) (by omega) m60 61 0 f 0 100000 g1 L e S1 m1 C1 (by omega) (by omega) a3 (by omega) (fun j _ _ => a4 j)
  refine ⟨g, ?_, ch_fr a2 b2 (fun x hx => by unfold PGc at hx; omega), S1.of b3 b2.1 (Nat.le_of_eq b2.2.1.symm), a3.fr b2 b3, by rw [b2.2.1, a5], b5⟩
  unfold s_X5_toProgram newO
  simp only [T_ui S0, sp, bnd]
  rw [nI_1, show 0 + (L.length - 1) + 1 = L.length by omega, a1]
  exact b1
