/-! the reference's split -/
def nonB (want g : Nat → Nat) (n : Nat) : Prop := ∀ i, n ≤ i → i < 8 → ¬ g i < want i
theorem allF_ext {want sh g : Nat → Nat} : ∀ (d e k : Nat), (∀ i, k + d ≤ i → i < k + d + e → ¬ g i < want i) → allF want sh g (d + e) k = allF want sh g d k
  | 0, 0, _, _ => rfl
  | 0, e + 1, k, h => by
    rw [show 0 + (e + 1) = (0 + e) + 1 by omega]
    unfold allF
    rw [if_neg (h k (by omega) (by omega)), Nat.zero_add, allF_ext 0 e (k + 1) (fun i h1 h2 => h i (by omega) (by omega))]
    rfl
  | d + 1, e, k, h => by
    rw [show d + 1 + e = (d + e) + 1 by omega]
    unfold allF
    rw [allF_ext d e (k + 1) (fun i h1 h2 => h i (by omega) (by omega))]
theorem gvF_ext {want sh g : Nat → Nat} {all beg : Nat} : ∀ (d e k : Nat), (∀ i, k + d ≤ i → i < k + d + e → ¬ g i < want i) → gvF want sh g all beg (d + e) k = gvF want sh g all beg d k
  | 0, 0, _, _ => rfl
  | 0, e + 1, k, h => by
    rw [show 0 + (e + 1) = (0 + e) + 1 by omega]
    unfold gvF
    rw [prt_0 (h k (by omega) (by omega)), Nat.zero_add, gvF_ext 0 e (k + 1) (fun i h1 h2 => h i (by omega) (by omega))]
    rfl
  | d + 1, e, k, h => by
    rw [show d + 1 + e = (d + e) + 1 by omega]
    unfold gvF
    rw [gvF_ext d e (k + 1) (fun i h1 h2 => h i (by omega) (by omega))]
theorem lowF_ext {want g : Nat → Nat} : ∀ (d e k : Nat), (∀ i, k + d ≤ i → i < k + d + e → ¬ g i < want i) → lowF want g (d + e) k = lowF want g d k
  | 0, 0, _, _ => rfl
  | 0, e + 1, k, h => by
    rw [show 0 + (e + 1) = (0 + e) + 1 by omega]
    unfold lowF
    rw [if_neg (h k (by omega) (by omega)), lowF_ext 0 e (k + 1) (fun i h1 h2 => h i (by omega) (by omega))]
    rfl
  | d + 1, e, k, h => by
    rw [show d + 1 + e = (d + e) + 1 by omega]
    unfold lowF
    rw [lowF_ext d e (k + 1) (fun i h1 h2 => h i (by omega) (by omega))]
theorem giveF_ext {want sh g : Nat → Nat} {all beg d e k : Nat} (h : ∀ i, k + d ≤ i → i < k + d + e → ¬ g i < want i) : giveF want sh g all beg (d + e) k = giveF want sh g all beg d k := by
  funext i
  unfold giveF
  by_cases q : k ≤ i ∧ i < k + d
  · rw [if_pos q, if_pos (by omega)]
  · by_cases r : k ≤ i ∧ i < k + (d + e)
    · rw [if_pos r, if_neg q, prt_0 (h i (by omega) (by omega)), Nat.add_zero]
    · rw [if_neg r, if_neg q]
def loI (lo : Nat) : Int32 := if lo = 8 then -5 else nI lo
theorem loI_ne {lo : Nat} (h : lo < 8) : ¬ (nI lo = -5) := by
  intro z
  have := congrArg Int32.toInt z
  rw [nI_toInt (by omega), show (-5 : Int32).toInt = -5 from by decide] at this
  omega
