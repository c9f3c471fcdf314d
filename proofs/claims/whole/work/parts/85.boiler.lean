/-! boiler -/
theorem c_wantL {h : Hp} {e : Ent} {t : Nat} (ht : t ≤ 40000) (S : Sh h) (R : SRe h 2 e) (F : WFe e t) : ∀ (d k f x : Nat), k + d = e.2.1 → d < f → s_X6_wantedHeat_L4 f 2 (nI x) (nI k) h = some (nI (x + sumNN (wanN e.1) d k), h)
  | 0, k, f, x, hk, hf => by
    obtain ⟨m, rfl, -⟩ := fuel_succ hf
    have n8 : e.2.1 ≤ 8 := R.1.2.1
    have e3 : hI h 2 3 = nI e.2.1 := by rw [R.2.1.1, R.1.1]
    rw [s_X6_wantedHeat_L4]
    simp only [get6 S, e3, nI_leE (show e.2.1 < 2 ^ 31 by omega) (show k < 2 ^ 31 by omega), show e.2.1 ≤ k by omega, if_true, retI]
    rfl
  | d + 1, k, f, x, hk, hf => by
    obtain ⟨m, rfl, hm⟩ := fuel_succ hf
    have n8 : e.2.1 ≤ 8 := R.1.2.1
    have hk8 : k < 8 := by omega
    have e3 : hI h 2 3 = nI e.2.1 := by rw [R.2.1.1, R.1.1]
    have cw := c_want (S.tW (show isSt 2 from Or.inl rfl) hk8) (R.hr (show k < e.2.1 by omega)).w (F.2.2.2.2.1 k (by omega)) ht
    rw [s_X6_wantedHeat_L4]
    simp only [get6 S, e3, nI_leE (show e.2.1 < 2 ^ 31 by omega) (show k < 2 ^ 31 by omega), show ¬ (e.2.1 ≤ k) by omega, if_false, inv6 S, c_washerOf S (show isSt 2 from Or.inl rfl) hk8, bnd, invW S hk8, cw, nI_1, nI_add]
    rw [c_wantL ht S R F d (k + 1) m (x + wanN e.1 k) (by omega) (by omega), Nat.add_assoc]
    rfl
theorem r_boilerL {h : Hp} {w a b : Row} {n nl t : Nat} (ht : t ≤ 40000) (S : Sh h) (F : WF w n nl t) (a1 : Int32) (kf : Nat → Int32 → Int32 → Hp → Rv Int32) : ∀ (d k f x : Nat), k + d = n → d < f → s_X9_boiler_L4 kf f 241 a1 (nI x) (nI k) (sQ h w a b) = kf 241 a1 (nI (x + sumNN (wanN w) d k)) (sQ h w a b)
  | 0, k, f, x, hk, hf => by
    obtain ⟨m, rfl, -⟩ := fuel_succ hf
    have n8 := F.1.1
    rw [s_X9_boiler_L4]
    simp only [qg S, ql_2 S, F.1.2.2.1, nI_leE (show n < 2 ^ 31 by omega) (show k < 2 ^ 31 by omega), show n ≤ k by omega, if_true]
    rfl
  | d + 1, k, f, x, hk, hf => by
    obtain ⟨m, rfl, hm⟩ := fuel_succ hf
    have n8 := F.1.1
    have hk8 : k < 8 := by omega
    rw [s_X9_boiler_L4]
    simp only [qg S, ql_2 S, F.1.2.2.1, nI_leE (show n < 2 ^ 31 by omega) (show k < 2 ^ 31 by omega), show ¬ (n ≤ k) by omega, if_false, q_inv S, r_wantOf S hk8 (F.2.2.2.2.1 k (by omega)) ht, bnd, nI_1, nI_add]
    rw [r_boilerL ht S F a1 kf d (k + 1) m (x + wanN w k) (by omega) (by omega), Nat.add_assoc]
    rfl
theorem p_boiler (t : Nat) (ht : t ≤ 38000) (a1 : Int32) : Pair (s_X8_boiler 1 a1) (s_X9_boiler 241 a1) t := by
  intro h R
  have R' := R
  obtain ⟨e, c, u, sn, v, C, Q, W, X⟩ := R
  have S := C.1
  have st2 : isSt 2 := Or.inl rfl
  obtain ⟨z1, z2, z3, z4, z5, z6, z7, z8⟩ := C.2.1.2.1
  have cs : ∀ k, k < 4 → ∀ {α : Type} (f : Int32 → Option α), (getR h 2 6 0 fun x6 => ldI h x6 20 (nI k) f) = f (e.1 (3 + k)) := fun k hk α f => by
    have t1 : hT h 3 = (20, 4) := S.t1 st2
    have r0 : hR h 2 0 = 3 := S.r0 st2
    have s0 : hI h 3 k = e.1 (3 + k) := C.2.1.2.2.1 k hk
    simp only [getR, ldI, S.t0 st2, r0, t1, true_and, show ((3 : Nat) = 0) = False from eq_false (by decide), ne_eq, not_false_eq_true, if_true, nI_ge0 (show k < 2 ^ 31 by omega), nI_clamp (show k < 2 ^ 31 by omega), hk, s0]
  have gl : ∀ k, k < 401 → ∀ {α : Type} (f : Int32 → Option α), (getR h 241 9 0 fun x2 => ldI h x2 20 (nI k) f) = f (e.1 k) := fun k hk α f => by
    rw [sQ_of Q.1, qg S, q_ldk S _ _ _ hk]
  have cw : s_X6_wantedHeat 2 h = some (nI (0 + sumNN (wanN e.1) e.2.1 0), h) := c_wantL (by omega) S C.2.1 W.1 e.2.1 0 100000 0 (by omega) (by have := W.1.1.1; omega)
  have rw1 : ∀ kf, s_X9_boiler_L4 kf 100000 241 a1 0 0 h = kf 241 a1 (nI (0 + sumNN (wanN e.1) e.2.1 0)) h := fun kf => by
    have k := r_boilerL (a := hI h 247) (b := hI h 248) (by omega) S W.1 a1 kf e.2.1 0 100000 0 (by omega) (by have := W.1.1.1; omega)
    rw [← sQ_of Q.1] at k
    exact k
  by_cases q0 : a1 = 0
  · subst q0
    refine Pair.same (x := fun h => _) (m := fun h => _) R' (e.1 7) ?_ ?_
    · unfold s_X8_boiler
      rw [if_pos rfl, S.x0, get6 S, z6]
      rfl
    · unfold s_X9_boiler
      rw [rw1]
      exact gl 7 (by omega) _
  by_cases q1 : a1 = 1
  · subst q1
    refine Pair.same (x := fun h => _) (m := fun h => _) R' (e.1 3) ?_ ?_
    · unfold s_X8_boiler
      rw [if_neg (by decide), if_pos rfl, S.x0]
      exact cs 0 (by omega) _
    · unfold s_X9_boiler
      rw [rw1]
      exact gl 3 (by omega) _
  by_cases q2 : a1 = 2
  · subst q2
    refine Pair.same (x := fun h => _) (m := fun h => _) R' (e.1 4) ?_ ?_
    · unfold s_X8_boiler
      rw [if_neg (by decide), if_neg (by decide), if_pos rfl, S.x0]
      exact cs 1 (by omega) _
    · unfold s_X9_boiler
      rw [rw1]
      exact gl 4 (by omega) _
  by_cases q3 : a1 = 3
  · subst q3
    refine Pair.same (x := fun h => _) (m := fun h => _) R' (e.1 5) ?_ ?_
    · unfold s_X8_boiler
      rw [if_neg (by decide), if_neg (by decide), if_neg (by decide), if_pos rfl, S.x0]
      exact cs 2 (by omega) _
    · unfold s_X9_boiler
      rw [rw1]
      exact gl 5 (by omega) _
  by_cases q4 : a1 = 4
  · subst q4
    refine Pair.same (x := fun h => _) (m := fun h => _) R' (e.1 13) ?_ ?_
    · unfold s_X8_boiler
      rw [if_neg (by decide), if_neg (by decide), if_neg (by decide), if_neg (by decide), if_pos rfl, S.x0, get6 S, z7]
      rfl
    · unfold s_X9_boiler
      rw [rw1]
      exact gl 13 (by omega) _
  by_cases q5 : a1 = 5
  · subst q5
    refine Pair.same (x := fun h => _) (m := fun h => _) R' (e.1 14) ?_ ?_
    · unfold s_X8_boiler
      rw [if_neg (by decide), if_neg (by decide), if_neg (by decide), if_neg (by decide), if_neg (by decide), if_pos rfl, S.x0, get6 S, z8]
      rfl
    · unfold s_X9_boiler
      rw [rw1]
      exact gl 14 (by omega) _
  by_cases q6 : a1 = 6
  · subst q6
    refine Pair.same (x := fun h => _) (m := fun h => _) R' (nI (0 + sumNN (wanN e.1) e.2.1 0)) ?_ ?_
    · unfold s_X8_boiler
      rw [if_neg (by decide), if_neg (by decide), if_neg (by decide), if_neg (by decide), if_neg (by decide), if_neg (by decide), if_pos rfl, S.x0, inv6 S, cw]
      rfl
    · unfold s_X9_boiler
      rw [rw1]
      rfl
  by_cases q7 : a1 = 7
  · subst q7
    refine Pair.same (x := fun h => _) (m := fun h => _) R' (e.1 6) ?_ ?_
    · unfold s_X8_boiler
      rw [if_neg (by decide), if_neg (by decide), if_neg (by decide), if_neg (by decide), if_neg (by decide), if_neg (by decide), if_neg (by decide), if_pos rfl, S.x0]
      exact cs 3 (by omega) _
    · unfold s_X9_boiler
      rw [rw1]
      exact gl 6 (by omega) _
  · refine Pair.same (x := fun h => _) (m := fun h => _) R' (-2) ?_ ?_
    · unfold s_X8_boiler
      rw [if_neg q0, if_neg q1, if_neg q2, if_neg q3, if_neg q4, if_neg q5, if_neg q6, if_neg q7]
      rfl
    · unfold s_X9_boiler
      rw [rw1]
      show (if a1 = 0 then _ else _) = _
      rw [if_neg q0, if_neg q1, if_neg q2, if_neg q3, if_neg q4, if_neg q5, if_neg q6, if_neg q7]
      rfl
