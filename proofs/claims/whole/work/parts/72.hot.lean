/-! doors that are not locked over too warm water -/
def hotF (w : Row) (x : Int32) : Nat → Nat → Bool
  | 0, _ => false
  | d + 1, k => if pt w k 13 = 2 then hotF w x d (k + 1) else if nI (tmpN (wtN w k) (wmN w k)) ≤ x then hotF w x d (k + 1) else true
def b2I (b : Bool) : Int32 := if b then 1 else 0
theorem c_hotL {h : Hp} {e : Ent} {t : Nat} (ht : t ≤ 40000) (S : Sh h) (R : SRe h 2 e) (F : WFe e t) (x : Int32) : ∀ (d k f : Nat), k + d = e.2.1 → d < f → s_X6_hasUnlockedAbove_L2 f 2 x (nI k) h = some (b2I (hotF e.1 x d k), h)
  | 0, k, f, hk, hf => by
    obtain ⟨m, rfl, -⟩ := fuel_succ hf
    have n8 : e.2.1 ≤ 8 := R.1.2.1
    have e3 : hI h 2 3 = nI e.2.1 := by rw [R.2.1.1, R.1.1]
    rw [s_X6_hasUnlockedAbove_L2]
    simp only [get6 S, e3, nI_leE (show e.2.1 < 2 ^ 31 by omega) (show k < 2 ^ 31 by omega), show e.2.1 ≤ k by omega, if_true, retZ, true_or]
    rfl
  | d + 1, k, f, hk, hf => by
    obtain ⟨m, rfl, hm⟩ := fuel_succ hf
    have n8 : e.2.1 ≤ 8 := R.1.2.1
    have hk8 : k < 8 := by omega
    have e3 : hI h 2 3 = nI e.2.1 := by rw [R.2.1.1, R.1.1]
    have WRk := (R.hr (show k < e.2.1 by omega)).w
    have b5 : hI h (2 + 8 + 2 * k) 2 = pt e.1 k 13 := WRk.1.2.2.2.2.1
    have ct := c_tmp S hk8 (F.2.2.2.2.1 k (by omega)) ht WRk
    rw [s_X6_hasUnlockedAbove_L2]
    simp only [get6 S, e3, nI_leE (show e.2.1 < 2 ^ 31 by omega) (show k < 2 ^ 31 by omega), show ¬ (e.2.1 ≤ k) by omega, if_false, inv6 S, c_washerOf S (show isSt 2 from Or.inl rfl) hk8, bnd, getW S hk8, b5, invW S hk8, ct, nI_1]
    unfold hotF
    by_cases q : pt e.1 k 13 = 2
    · rw [if_pos q, if_pos q]
      exact c_hotL ht S R F x d (k + 1) m (by omega) (by omega)
    · rw [if_neg q, if_neg q]
      by_cases y : nI (tmpN (wtN e.1 k) (wmN e.1 k)) ≤ x
      · rw [if_pos y, if_pos y]
        exact c_hotL ht S R F x d (k + 1) m (by omega) (by omega)
      · rw [if_neg y, if_neg y]
        rfl
theorem r_hotL {h : Hp} {w a b : Row} {n nl t : Nat} (ht : t ≤ 40000) (S : Sh h) (F : WF w n nl t) (x : Int32) : ∀ (d k f : Nat) (v : Bool), k + d = n → d < f → s_X9_isTooHot_L4 f 241 x (b2I v) (nI k) (sQ h w a b) = some (b2I (v || hotF w x d k), sQ h w a b)
  | 0, k, f, v, hk, hf => by
    obtain ⟨m, rfl, -⟩ := fuel_succ hf
    have n8 := F.1.1
    rw [s_X9_isTooHot_L4]
    simp only [qg S, ql_2 S, F.1.2.2.1, nI_leE (show n < 2 ^ 31 by omega) (show k < 2 ^ 31 by omega), show n ≤ k by omega, if_true]
    cases v <;> rfl
  | d + 1, k, f, v, hk, hf => by
    obtain ⟨m, rfl, hm⟩ := fuel_succ hf
    have n8 := F.1.1
    have hk8 : k < 8 := by omega
    have rt := r_tmp S hk8 (F.2.2.2.2.1 k (by omega)) ht a b
    rw [s_X9_isTooHot_L4]
    simp only [qg S, ql_2 S, F.1.2.2.1, nI_leE (show n < 2 ^ 31 by omega) (show k < 2 ^ 31 by omega), show ¬ (n ≤ k) by omega, if_false, q_inv S, rp_13 S hk8, rt, bnd, nI_1]
    cases v with
    | true =>
      rw [if_neg (show ¬ (b2I true = 0) by decide)]
      exact r_hotL ht S F x d (k + 1) m true (by omega) (by omega)
    | false =>
      rw [if_pos (show b2I false = 0 from rfl)]
      unfold hotF
      by_cases q : pt w k 13 = 2
      · rw [if_pos q, if_pos q]
        exact r_hotL ht S F x d (k + 1) m false (by omega) (by omega)
      · rw [if_neg q, if_neg q]
        by_cases y : nI (tmpN (wtN w k) (wmN w k)) ≤ x
        · rw [if_pos y, if_pos y]
          exact r_hotL ht S F x d (k + 1) m false (by omega) (by omega)
        · rw [if_neg y, if_neg y]
          exact r_hotL ht S F x d (k + 1) m true (by omega) (by omega)
