/-! boiler -/
theorem c_wantL {h : Hp} {e : Ent} {t : Nat} (ht : t ≤ 40000) (S : Sh h) (R : SRe h 2 e) (F : WFe e t) : ∀ (d k f x : Nat), k + d = e.2.1 → d < f → s_X6_wantedHeat_L4 f 2 (nI x) (nI k) h = some (nI (x + sumNN (wanN e.1) d k), h)
  | 0, k, f, x, hk, hf => by
    obtain ⟨m, rfl, -⟩ := fuel_succ hf
    have n8 : e.2.1 ≤ 8 := R.1.2.1
    have e3 : hI h 2 3 = nI e.2.1 := by rw [R.2.1.1, R.1.1]
    rw [s_X6_wantedHeat_L4]
    simp only [get6 S, e3, nI_leE (show e.2.1 < 2 ^ 31 by omega) (show k < 2 ^ 31 by omega), show e.2.1 ≤ k by omega, if_true, retI]
    rfl
  | d + 1, k, f, x, hk, hf => by
    obtain ⟨m, rfl, hm⟩ := fuel_succ hf
    have n8 : e.2.1 ≤ 8 := R.1.2.1
    have hk8 : k < 8 := by omega
    have e3 : hI h 2 3 = nI e.2.1 := by rw [R.2.1.1, R.1.1]
    have cw := c_want (S.tW (show isSt 2 from Or.inl rfl) hk8) (R.hr (show k < e.2.1 by omega)).w (F.2.2.2.2.1 k (by omega)) ht
    rw [s_X6_wantedHeat_L4]
    simp only [get6 S, e3, nI_leE (show e.2.1 < 2 ^ 31 by omega) (show k < 2 ^ 31 by omega), show ¬ (e.2.1 ≤ k) by omega, if_false, inv6 S, c_washerOf S (show isSt 2 from Or.inl rfl) hk8, bnd, invW S hk8, cw, nI_1, nI_add]
    rw [c_wantL ht S R F d (k + 1) m (x + wanN e.1 k) (by omega) (by omega), Nat.add_assoc]
    rfl
