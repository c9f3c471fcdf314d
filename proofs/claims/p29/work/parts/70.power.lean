/-! power, the call -/
theorem c_pow1 {g : Hp} {e : Ent} {v : Int32} (S : Sh g) (R : SRe g 2 e) : Ch (fun x => x = 2) g (sI g 2 7 v) ∧ SR (sI g 2 7 v) 2 (upd e.1 1 v) e.2.1 e.2.2 := by
  have st2 : isSt 2 := Or.inl rfl
  obtain ⟨z1, z2, z3, z4, z5, z6, z7, z8⟩ := R.2.1
  have c1 : Ch (fun x => x = 2) g (sI g 2 7 v) := (Ch.rfl' (P := fun x => x = 2)).sI 2 7 _ rfl
  refine ⟨c1, SR.scal st2 S R c1 (Nat.le_refl _) (fun j hj => upd_ne _ _ (by omega)) (upd_ne _ _ (by omega)) (by rw [upd_ne _ _ (by omega)]; exact R.1.2.2.1) (fun k hk => upd_ne _ _ (by omega)) ?_⟩
  simp only [hI_sI, upd_eq, upd_ne e.1 (k := 1) _ (show (2 : Nat) ≠ 1 by omega), upd_ne e.1 (k := 1) _ (show (8 : Nat) ≠ 1 by omega), upd_ne e.1 (k := 1) _ (show (0 : Nat) ≠ 1 by omega), upd_ne e.1 (k := 1) _ (show (11 : Nat) ≠ 1 by omega), upd_ne e.1 (k := 1) _ (show (7 : Nat) ≠ 1 by omega), upd_ne e.1 (k := 1) _ (show (13 : Nat) ≠ 1 by omega), upd_ne e.1 (k := 1) _ (show (14 : Nat) ≠ 1 by omega), z1, z2, z3, z4, z6, z7, z8]
  simp
def powR (w : Row) (n : Nat) (v : Int32) : Row := if v = 0 then upd w 1 0 else itF spinF 0 n (upd w 1 v)
theorem c_switch {g : Hp} {e : Ent} {t : Nat} {v : Int32} (hv : v = 0 ∨ v = 1) (S : Sh g) (R : SRe g 2 e) (F : WFe e t) :
    ∃ g', s_X6_switchPower 2 v g = some ((), g') ∧ Ch (ST 2) g g' ∧ hR g' = hR g ∧ Sh g' ∧ SR g' 2 (powR e.1 e.2.1 v) e.2.1 e.2.2 ∧ WF (powR e.1 e.2.1 v) e.2.1 e.2.2 t := by
  obtain ⟨c1, c2⟩ := c_pow1 (v := v) S R
  have F1 := WF.pow (v := v) hv F
  have S1 : Sh (sI g 2 7 v) := S
  unfold s_X6_switchPower powR
  simp only [putZ, S.t0 (show isSt 2 from Or.inl rfl), hv, true_and, and_self, if_true]
  by_cases q : v = 0
  · subst q
    refine ⟨sI g 2 7 0, ?_, c1.mono (fun x hx => by rw [hx]; exact ST.T), rfl, S1, ?_, ?_⟩
    · exact (by rw [show (100000 : Nat) = 99999 + 1 from rfl, s_X6_switchPower_L7, if_pos rfl]; rfl : s_X6_switchPower_L7 100000 2 0 0 (sI g 2 7 0) = some ((), sI g 2 7 0))
    · rw [if_pos rfl]; exact c2
    · rw [if_pos rfl]; exact F1
  · obtain ⟨g', b1, b2, b3, b4, b5⟩ := c_powL (v1 := v) q e.2.1 0 100000 (sI g 2 7 v) (upd e.1 1 v) (by omega) (by have := R.1.2.1; omega) S1 c2 F1
    refine ⟨g', b1, (c1.mono (fun x hx => by rw [hx]; exact ST.T)).trans b2.ch, b3, S1.of b3 b2.1 (Nat.le_of_eq b2.2.1.symm), ?_, ?_⟩
    · rw [if_neg q]; exact b4
    · rw [if_neg q]; exact b5
