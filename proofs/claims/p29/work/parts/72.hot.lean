/-! doors that are not locked over too warm water -/
def hotF (w : Row) (x : Int32) : Nat → Nat → Bool
  | 0, _ => false
  | d + 1, k => if pt w k 13 = 2 then hotF w x d (k + 1) else if nI (tmpN (wtN w k) (wmN w k)) ≤ x then hotF w x d (k + 1) else true
def b2I (b : Bool) : Int32 := if b then 1 else 0
theorem c_hotL {h : Hp} {e : Ent} {t : Nat} (ht : t ≤ 40000) (S : Sh h) (R : SRe h 2 e) (F : WFe e t) (x : Int32) : ∀ (d k f : Nat), k + d = e.2.1 → d < f → s_X6_hasUnlockedAbove_L2 f 2 x (nI k) h = some (b2I (hotF e.1 x d k), h)
  | 0, k, f, hk, hf => by
    obtain ⟨m, rfl, -⟩ := fuel_succ hf
    have n8 : e.2.1 ≤ 8 := R.1.2.1
    have e3 : hI h 2 3 = nI e.2.1 := by rw [R.2.1.1, R.1.1]
    rw [s_X6_hasUnlockedAbove_L2]
    simp only [get6 S, e3, nI_leE (show e.2.1 < 2 ^ 31 by omega) (show k < 2 ^ 31 by omega), show e.2.1 ≤ k by omega, if_true, retZ, true_or]
    rfl
  | d + 1, k, f, hk, hf => by
    obtain ⟨m, rfl, hm⟩ := fuel_succ hf
    have n8 : e.2.1 ≤ 8 := R.1.2.1
    have hk8 : k < 8 := by omega
    have e3 : hI h 2 3 = nI e.2.1 := by rw [R.2.1.1, R.1.1]
    have WRk := (R.hr (show k < e.2.1 by omega)).w
    have b5 : hI h (2 + 8 + 2 * k) 2 = pt e.1 k 13 := WRk.1.2.2.2.2.1
    have ct := c_tmp S hk8 (F.2.2.2.2.1 k (by omega)) ht WRk
    rw [s_X6_hasUnlockedAbove_L2]
    simp only [get6 S, e3, nI_leE (show e.2.1 < 2 ^ 31 by omega) (show k < 2 ^ 31 by omega), show ¬ (e.2.1 ≤ k) by omega, if_false, inv6 S, c_washerOf S (show isSt 2 from Or.inl rfl) hk8, bnd, getW S hk8, b5, invW S hk8, ct, nI_1]
    unfold hotF
    by_cases q : pt e.1 k 13 = 2
    · rw [if_pos q, if_pos q]
      exact c_hotL ht S R F x d (k + 1) m (by omega) (by omega)
    · rw [if_neg q, if_neg q]
      by_cases y : nI (tmpN (wtN e.1 k) (wmN e.1 k)) ≤ x
      · rw [if_pos y, if_pos y]
        exact c_hotL ht S R F x d (k + 1) m (by omega) (by omega)
      · rw [if_neg y, if_neg y]
        rfl
