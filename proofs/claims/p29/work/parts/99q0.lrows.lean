/-! the law's five rows: q 241, houses 242, programs 243, leases 244, what was got 245 -/
def sV (h : Hp) (q o p l g : Row) : Hp := (fun c => if c = 241 then q else if c = 242 then o else if c = 243 then p else if c = 244 then l else if c = 245 then g else hI h c, hL h, hR h, hT h, hN h)
theorem sV_self (h : Hp) : sV h (hI h 241) (hI h 242) (hI h 243) (hI h 244) (hI h 245) = h := by
  unfold sV
  refine Prod.ext ?_ rfl
  funext c
  dsimp only
  by_cases q1 : c = 241
  · rw [if_pos q1, q1]; rfl
  · rw [if_neg q1]
    by_cases q2 : c = 242
    · rw [if_pos q2, q2]; rfl
    · rw [if_neg q2]
      by_cases q3 : c = 243
      · rw [if_pos q3, q3]; rfl
      · rw [if_neg q3]
        by_cases q4 : c = 244
        · rw [if_pos q4, q4]; rfl
        · rw [if_neg q4]
          by_cases q5 : c = 245
          · rw [if_pos q5, q5]; rfl
          · rw [if_neg q5]; rfl
theorem hI_sV1 (h : Hp) (q o p l g : Row) : hI (sV h q o p l g) 241 = q := rfl
theorem hI_sV2 (h : Hp) (q o p l g : Row) : hI (sV h q o p l g) 242 = o := rfl
theorem hI_sV3 (h : Hp) (q o p l g : Row) : hI (sV h q o p l g) 243 = p := rfl
theorem hI_sV4 (h : Hp) (q o p l g : Row) : hI (sV h q o p l g) 244 = l := rfl
theorem hI_sV5 (h : Hp) (q o p l g : Row) : hI (sV h q o p l g) 245 = g := rfl
theorem hI_sVn (h : Hp) (q o p l g : Row) (c : Nat) (hc : c < 241 ∨ 245 < c) : hI (sV h q o p l g) c = hI h c := by
  show (if c = 241 then q else if c = 242 then o else if c = 243 then p else if c = 244 then l else if c = 245 then g else hI h c) = _
  rw [if_neg (by omega), if_neg (by omega), if_neg (by omega), if_neg (by omega), if_neg (by omega)]
theorem hT_sV (h : Hp) (q o p l g : Row) : hT (sV h q o p l g) = hT h := rfl
theorem hR_sV (h : Hp) (q o p l g : Row) : hR (sV h q o p l g) = hR h := rfl
theorem hL_sV (h : Hp) (q o p l g : Row) : hL (sV h q o p l g) = hL h := rfl
theorem hN_sV (h : Hp) (q o p l g : Row) : hN (sV h q o p l g) = hN h := rfl
/-- the kinds of the five cells -/
def LT5 (h : Hp) : Prop := hT h 241 = (20, 16) ∧ hT h 242 = (20, 48) ∧ hT h 243 = (20, 32) ∧ hT h 244 = (20, 20) ∧ hT h 245 = (20, 4)
theorem Sh.lt5 {h : Hp} (S : Sh h) : LT5 h := ⟨S.2.2.2.2.2.2.1, S.2.2.2.2.2.2.2.1.1, S.2.2.2.2.2.2.2.1.2.1, S.2.2.2.2.2.2.2.1.2.2.1, S.2.2.2.2.2.2.2.1.2.2.2⟩
theorem sI_sV1 (h : Hp) (q o p l g : Row) (k : Nat) (v : Int32) : sI (sV h q o p l g) 241 k v = sV h (upd q k v) o p l g := by
  unfold sV sI
  refine Prod.ext ?_ rfl
  funext c j
  show up2 (hI (sV h q o p l g)) 241 k v c j = hI (sV h (upd q k v) o p l g) c j
  unfold up2
  by_cases e : c = 241
  · subst e
    by_cases y : j = k
    · rw [if_pos ⟨rfl, y⟩]
      show v = upd q k v j
      rw [y, upd_eq]
    · rw [if_neg (fun z => y z.2)]
      show q j = upd q k v j
      rw [upd_ne _ _ y]
  · rw [if_neg (fun z => e z.1)]
    show (if c = 241 then q else if c = 242 then o else if c = 243 then p else if c = 244 then l else if c = 245 then g else hI h c) j = (if c = 241 then upd q k v else if c = 242 then o else if c = 243 then p else if c = 244 then l else if c = 245 then g else hI h c) j
    rcases (show c = 241 ∨ c = 242 ∨ c = 243 ∨ c = 244 ∨ c = 245 ∨ (c ≠ 241 ∧ c ≠ 242 ∧ c ≠ 243 ∧ c ≠ 244 ∧ c ≠ 245) by omega) with y | y | y | y | y | y
    · subst y; first | rfl | exact absurd rfl e
    · subst y; first | rfl | exact absurd rfl e
    · subst y; first | rfl | exact absurd rfl e
    · subst y; first | rfl | exact absurd rfl e
    · subst y; first | rfl | exact absurd rfl e
    · simp only [if_neg y.1, if_neg y.2.1, if_neg y.2.2.1, if_neg y.2.2.2.1, if_neg y.2.2.2.2]
theorem vq_ {h : Hp} (T : LT5 h) (q o p l g : Row) {α : Type} {k : Nat} (hk : k < 16) (f : Int32 → Option α) : ldI (sV h q o p l g) 241 20 (nI k) f = f (q k) := by
  simp only [ldI, hT_sV, T.1, hI_sV1, nI_ge0 (show k < 2 ^ 31 by omega), nI_clamp (show k < 2 ^ 31 by omega), hk, true_and, and_self, if_true]
theorem wq_ {h : Hp} (T : LT5 h) (q o p l g : Row) {α : Type} {k : Nat} (hk : k < 16) (v : Int32) (f : Hp → Option α) : stI (sV h q o p l g) 241 20 (nI k) v f = f (sV h (upd q k v) o p l g) := by
  simp only [stI, hT_sV, T.1, sI_sV1, nI_ge0 (show k < 2 ^ 31 by omega), nI_clamp (show k < 2 ^ 31 by omega), hk, true_and, and_self, if_true]
theorem sI_sV2 (h : Hp) (q o p l g : Row) (k : Nat) (v : Int32) : sI (sV h q o p l g) 242 k v = sV h q (upd o k v) p l g := by
  unfold sV sI
  refine Prod.ext ?_ rfl
  funext c j
  show up2 (hI (sV h q o p l g)) 242 k v c j = hI (sV h q (upd o k v) p l g) c j
  unfold up2
  by_cases e : c = 242
  · subst e
    by_cases y : j = k
    · rw [if_pos ⟨rfl, y⟩]
      show v = upd o k v j
      rw [y, upd_eq]
    · rw [if_neg (fun z => y z.2)]
      show o j = upd o k v j
      rw [upd_ne _ _ y]
  · rw [if_neg (fun z => e z.1)]
    show (if c = 241 then q else if c = 242 then o else if c = 243 then p else if c = 244 then l else if c = 245 then g else hI h c) j = (if c = 241 then q else if c = 242 then upd o k v else if c = 243 then p else if c = 244 then l else if c = 245 then g else hI h c) j
    rcases (show c = 241 ∨ c = 242 ∨ c = 243 ∨ c = 244 ∨ c = 245 ∨ (c ≠ 241 ∧ c ≠ 242 ∧ c ≠ 243 ∧ c ≠ 244 ∧ c ≠ 245) by omega) with y | y | y | y | y | y
    · subst y; first | rfl | exact absurd rfl e
    · subst y; first | rfl | exact absurd rfl e
    · subst y; first | rfl | exact absurd rfl e
    · subst y; first | rfl | exact absurd rfl e
    · subst y; first | rfl | exact absurd rfl e
    · simp only [if_neg y.1, if_neg y.2.1, if_neg y.2.2.1, if_neg y.2.2.2.1, if_neg y.2.2.2.2]
theorem vo_ {h : Hp} (T : LT5 h) (q o p l g : Row) {α : Type} {k : Nat} (hk : k < 48) (f : Int32 → Option α) : ldI (sV h q o p l g) 242 20 (nI k) f = f (o k) := by
  simp only [ldI, hT_sV, T.2.1, hI_sV2, nI_ge0 (show k < 2 ^ 31 by omega), nI_clamp (show k < 2 ^ 31 by omega), hk, true_and, and_self, if_true]
theorem wo_ {h : Hp} (T : LT5 h) (q o p l g : Row) {α : Type} {k : Nat} (hk : k < 48) (v : Int32) (f : Hp → Option α) : stI (sV h q o p l g) 242 20 (nI k) v f = f (sV h q (upd o k v) p l g) := by
  simp only [stI, hT_sV, T.2.1, sI_sV2, nI_ge0 (show k < 2 ^ 31 by omega), nI_clamp (show k < 2 ^ 31 by omega), hk, true_and, and_self, if_true]
theorem sI_sV3 (h : Hp) (q o p l g : Row) (k : Nat) (v : Int32) : sI (sV h q o p l g) 243 k v = sV h q o (upd p k v) l g := by
  unfold sV sI
  refine Prod.ext ?_ rfl
  funext c j
  show up2 (hI (sV h q o p l g)) 243 k v c j = hI (sV h q o (upd p k v) l g) c j
  unfold up2
  by_cases e : c = 243
  · subst e
    by_cases y : j = k
    · rw [if_pos ⟨rfl, y⟩]
      show v = upd p k v j
      rw [y, upd_eq]
    · rw [if_neg (fun z => y z.2)]
      show p j = upd p k v j
      rw [upd_ne _ _ y]
  · rw [if_neg (fun z => e z.1)]
    show (if c = 241 then q else if c = 242 then o else if c = 243 then p else if c = 244 then l else if c = 245 then g else hI h c) j = (if c = 241 then q else if c = 242 then o else if c = 243 then upd p k v else if c = 244 then l else if c = 245 then g else hI h c) j
    rcases (show c = 241 ∨ c = 242 ∨ c = 243 ∨ c = 244 ∨ c = 245 ∨ (c ≠ 241 ∧ c ≠ 242 ∧ c ≠ 243 ∧ c ≠ 244 ∧ c ≠ 245) by omega) with y | y | y | y | y | y
    · subst y; first | rfl | exact absurd rfl e
    · subst y; first | rfl | exact absurd rfl e
    · subst y; first | rfl | exact absurd rfl e
    · subst y; first | rfl | exact absurd rfl e
    · subst y; first | rfl | exact absurd rfl e
    · simp only [if_neg y.1, if_neg y.2.1, if_neg y.2.2.1, if_neg y.2.2.2.1, if_neg y.2.2.2.2]
theorem vp_ {h : Hp} (T : LT5 h) (q o p l g : Row) {α : Type} {k : Nat} (hk : k < 32) (f : Int32 → Option α) : ldI (sV h q o p l g) 243 20 (nI k) f = f (p k) := by
  simp only [ldI, hT_sV, T.2.2.1, hI_sV3, nI_ge0 (show k < 2 ^ 31 by omega), nI_clamp (show k < 2 ^ 31 by omega), hk, true_and, and_self, if_true]
theorem wp_ {h : Hp} (T : LT5 h) (q o p l g : Row) {α : Type} {k : Nat} (hk : k < 32) (v : Int32) (f : Hp → Option α) : stI (sV h q o p l g) 243 20 (nI k) v f = f (sV h q o (upd p k v) l g) := by
  simp only [stI, hT_sV, T.2.2.1, sI_sV3, nI_ge0 (show k < 2 ^ 31 by omega), nI_clamp (show k < 2 ^ 31 by omega), hk, true_and, and_self, if_true]
theorem sI_sV4 (h : Hp) (q o p l g : Row) (k : Nat) (v : Int32) : sI (sV h q o p l g) 244 k v = sV h q o p (upd l k v) g := by
  unfold sV sI
  refine Prod.ext ?_ rfl
  funext c j
  show up2 (hI (sV h q o p l g)) 244 k v c j = hI (sV h q o p (upd l k v) g) c j
  unfold up2
  by_cases e : c = 244
  · subst e
    by_cases y : j = k
    · rw [if_pos ⟨rfl, y⟩]
      show v = upd l k v j
      rw [y, upd_eq]
    · rw [if_neg (fun z => y z.2)]
      show l j = upd l k v j
      rw [upd_ne _ _ y]
  · rw [if_neg (fun z => e z.1)]
    show (if c = 241 then q else if c = 242 then o else if c = 243 then p else if c = 244 then l else if c = 245 then g else hI h c) j = (if c = 241 then q else if c = 242 then o else if c = 243 then p else if c = 244 then upd l k v else if c = 245 then g else hI h c) j
    rcases (show c = 241 ∨ c = 242 ∨ c = 243 ∨ c = 244 ∨ c = 245 ∨ (c ≠ 241 ∧ c ≠ 242 ∧ c ≠ 243 ∧ c ≠ 244 ∧ c ≠ 245) by omega) with y | y | y | y | y | y
    · subst y; first | rfl | exact absurd rfl e
    · subst y; first | rfl | exact absurd rfl e
    · subst y; first | rfl | exact absurd rfl e
    · subst y; first | rfl | exact absurd rfl e
    · subst y; first | rfl | exact absurd rfl e
    · simp only [if_neg y.1, if_neg y.2.1, if_neg y.2.2.1, if_neg y.2.2.2.1, if_neg y.2.2.2.2]
theorem vl_ {h : Hp} (T : LT5 h) (q o p l g : Row) {α : Type} {k : Nat} (hk : k < 20) (f : Int32 → Option α) : ldI (sV h q o p l g) 244 20 (nI k) f = f (l k) := by
  simp only [ldI, hT_sV, T.2.2.2.1, hI_sV4, nI_ge0 (show k < 2 ^ 31 by omega), nI_clamp (show k < 2 ^ 31 by omega), hk, true_and, and_self, if_true]
theorem wl_ {h : Hp} (T : LT5 h) (q o p l g : Row) {α : Type} {k : Nat} (hk : k < 20) (v : Int32) (f : Hp → Option α) : stI (sV h q o p l g) 244 20 (nI k) v f = f (sV h q o p (upd l k v) g) := by
  simp only [stI, hT_sV, T.2.2.2.1, sI_sV4, nI_ge0 (show k < 2 ^ 31 by omega), nI_clamp (show k < 2 ^ 31 by omega), hk, true_and, and_self, if_true]
theorem sI_sV5 (h : Hp) (q o p l g : Row) (k : Nat) (v : Int32) : sI (sV h q o p l g) 245 k v = sV h q o p l (upd g k v) := by
  unfold sV sI
  refine Prod.ext ?_ rfl
  funext c j
  show up2 (hI (sV h q o p l g)) 245 k v c j = hI (sV h q o p l (upd g k v)) c j
  unfold up2
  by_cases e : c = 245
  · subst e
    by_cases y : j = k
    · rw [if_pos ⟨rfl, y⟩]
      show v = upd g k v j
      rw [y, upd_eq]
    · rw [if_neg (fun z => y z.2)]
      show g j = upd g k v j
      rw [upd_ne _ _ y]
  · rw [if_neg (fun z => e z.1)]
    show (if c = 241 then q else if c = 242 then o else if c = 243 then p else if c = 244 then l else if c = 245 then g else hI h c) j = (if c = 241 then q else if c = 242 then o else if c = 243 then p else if c = 244 then l else if c = 245 then upd g k v else hI h c) j
    rcases (show c = 241 ∨ c = 242 ∨ c = 243 ∨ c = 244 ∨ c = 245 ∨ (c ≠ 241 ∧ c ≠ 242 ∧ c ≠ 243 ∧ c ≠ 244 ∧ c ≠ 245) by omega) with y | y | y | y | y | y
    · subst y; first | rfl | exact absurd rfl e
    · subst y; first | rfl | exact absurd rfl e
    · subst y; first | rfl | exact absurd rfl e
    · subst y; first | rfl | exact absurd rfl e
    · subst y; first | rfl | exact absurd rfl e
    · simp only [if_neg y.1, if_neg y.2.1, if_neg y.2.2.1, if_neg y.2.2.2.1, if_neg y.2.2.2.2]
theorem vg_ {h : Hp} (T : LT5 h) (q o p l g : Row) {α : Type} {k : Nat} (hk : k < 4) (f : Int32 → Option α) : ldI (sV h q o p l g) 245 20 (nI k) f = f (g k) := by
  simp only [ldI, hT_sV, T.2.2.2.2, hI_sV5, nI_ge0 (show k < 2 ^ 31 by omega), nI_clamp (show k < 2 ^ 31 by omega), hk, true_and, and_self, if_true]
theorem wg_ {h : Hp} (T : LT5 h) (q o p l g : Row) {α : Type} {k : Nat} (hk : k < 4) (v : Int32) (f : Hp → Option α) : stI (sV h q o p l g) 245 20 (nI k) v f = f (sV h q o p l (upd g k v)) := by
  simp only [stI, hT_sV, T.2.2.2.2, sI_sV5, nI_ge0 (show k < 2 ^ 31 by omega), nI_clamp (show k < 2 ^ 31 by omega), hk, true_and, and_self, if_true]
theorem vq_0 {h : Hp} (T : LT5 h) (q o p l g : Row) {α : Type} (f : Int32 → Option α) : ldI (sV h q o p l g) 241 20 0 f = f (q 0) := vq_ T q o p l g (k := 0) (by decide) f
theorem wq_0 {h : Hp} (T : LT5 h) (q o p l g : Row) {α : Type} (v : Int32) (f : Hp → Option α) : stI (sV h q o p l g) 241 20 0 v f = f (sV h (upd q 0 v) o p l g) := wq_ T q o p l g (k := 0) (by decide) v f
theorem vq_1 {h : Hp} (T : LT5 h) (q o p l g : Row) {α : Type} (f : Int32 → Option α) : ldI (sV h q o p l g) 241 20 1 f = f (q 1) := vq_ T q o p l g (k := 1) (by decide) f
theorem wq_1 {h : Hp} (T : LT5 h) (q o p l g : Row) {α : Type} (v : Int32) (f : Hp → Option α) : stI (sV h q o p l g) 241 20 1 v f = f (sV h (upd q 1 v) o p l g) := wq_ T q o p l g (k := 1) (by decide) v f
theorem vq_2 {h : Hp} (T : LT5 h) (q o p l g : Row) {α : Type} (f : Int32 → Option α) : ldI (sV h q o p l g) 241 20 2 f = f (q 2) := vq_ T q o p l g (k := 2) (by decide) f
theorem wq_2 {h : Hp} (T : LT5 h) (q o p l g : Row) {α : Type} (v : Int32) (f : Hp → Option α) : stI (sV h q o p l g) 241 20 2 v f = f (sV h (upd q 2 v) o p l g) := wq_ T q o p l g (k := 2) (by decide) v f
theorem vq_3 {h : Hp} (T : LT5 h) (q o p l g : Row) {α : Type} (f : Int32 → Option α) : ldI (sV h q o p l g) 241 20 3 f = f (q 3) := vq_ T q o p l g (k := 3) (by decide) f
theorem wq_3 {h : Hp} (T : LT5 h) (q o p l g : Row) {α : Type} (v : Int32) (f : Hp → Option α) : stI (sV h q o p l g) 241 20 3 v f = f (sV h (upd q 3 v) o p l g) := wq_ T q o p l g (k := 3) (by decide) v f
theorem vq_4 {h : Hp} (T : LT5 h) (q o p l g : Row) {α : Type} (f : Int32 → Option α) : ldI (sV h q o p l g) 241 20 4 f = f (q 4) := vq_ T q o p l g (k := 4) (by decide) f
theorem wq_4 {h : Hp} (T : LT5 h) (q o p l g : Row) {α : Type} (v : Int32) (f : Hp → Option α) : stI (sV h q o p l g) 241 20 4 v f = f (sV h (upd q 4 v) o p l g) := wq_ T q o p l g (k := 4) (by decide) v f
theorem vq_5 {h : Hp} (T : LT5 h) (q o p l g : Row) {α : Type} (f : Int32 → Option α) : ldI (sV h q o p l g) 241 20 5 f = f (q 5) := vq_ T q o p l g (k := 5) (by decide) f
theorem wq_5 {h : Hp} (T : LT5 h) (q o p l g : Row) {α : Type} (v : Int32) (f : Hp → Option α) : stI (sV h q o p l g) 241 20 5 v f = f (sV h (upd q 5 v) o p l g) := wq_ T q o p l g (k := 5) (by decide) v f
theorem vq_6 {h : Hp} (T : LT5 h) (q o p l g : Row) {α : Type} (f : Int32 → Option α) : ldI (sV h q o p l g) 241 20 6 f = f (q 6) := vq_ T q o p l g (k := 6) (by decide) f
theorem wq_6 {h : Hp} (T : LT5 h) (q o p l g : Row) {α : Type} (v : Int32) (f : Hp → Option α) : stI (sV h q o p l g) 241 20 6 v f = f (sV h (upd q 6 v) o p l g) := wq_ T q o p l g (k := 6) (by decide) v f
theorem vq_7 {h : Hp} (T : LT5 h) (q o p l g : Row) {α : Type} (f : Int32 → Option α) : ldI (sV h q o p l g) 241 20 7 f = f (q 7) := vq_ T q o p l g (k := 7) (by decide) f
theorem wq_7 {h : Hp} (T : LT5 h) (q o p l g : Row) {α : Type} (v : Int32) (f : Hp → Option α) : stI (sV h q o p l g) 241 20 7 v f = f (sV h (upd q 7 v) o p l g) := wq_ T q o p l g (k := 7) (by decide) v f
theorem vq_8 {h : Hp} (T : LT5 h) (q o p l g : Row) {α : Type} (f : Int32 → Option α) : ldI (sV h q o p l g) 241 20 8 f = f (q 8) := vq_ T q o p l g (k := 8) (by decide) f
theorem wq_8 {h : Hp} (T : LT5 h) (q o p l g : Row) {α : Type} (v : Int32) (f : Hp → Option α) : stI (sV h q o p l g) 241 20 8 v f = f (sV h (upd q 8 v) o p l g) := wq_ T q o p l g (k := 8) (by decide) v f
theorem vq_9 {h : Hp} (T : LT5 h) (q o p l g : Row) {α : Type} (f : Int32 → Option α) : ldI (sV h q o p l g) 241 20 9 f = f (q 9) := vq_ T q o p l g (k := 9) (by decide) f
theorem wq_9 {h : Hp} (T : LT5 h) (q o p l g : Row) {α : Type} (v : Int32) (f : Hp → Option α) : stI (sV h q o p l g) 241 20 9 v f = f (sV h (upd q 9 v) o p l g) := wq_ T q o p l g (k := 9) (by decide) v f
theorem vq_10 {h : Hp} (T : LT5 h) (q o p l g : Row) {α : Type} (f : Int32 → Option α) : ldI (sV h q o p l g) 241 20 10 f = f (q 10) := vq_ T q o p l g (k := 10) (by decide) f
theorem wq_10 {h : Hp} (T : LT5 h) (q o p l g : Row) {α : Type} (v : Int32) (f : Hp → Option α) : stI (sV h q o p l g) 241 20 10 v f = f (sV h (upd q 10 v) o p l g) := wq_ T q o p l g (k := 10) (by decide) v f
theorem vq_11 {h : Hp} (T : LT5 h) (q o p l g : Row) {α : Type} (f : Int32 → Option α) : ldI (sV h q o p l g) 241 20 11 f = f (q 11) := vq_ T q o p l g (k := 11) (by decide) f
theorem wq_11 {h : Hp} (T : LT5 h) (q o p l g : Row) {α : Type} (v : Int32) (f : Hp → Option α) : stI (sV h q o p l g) 241 20 11 v f = f (sV h (upd q 11 v) o p l g) := wq_ T q o p l g (k := 11) (by decide) v f
theorem vq_12 {h : Hp} (T : LT5 h) (q o p l g : Row) {α : Type} (f : Int32 → Option α) : ldI (sV h q o p l g) 241 20 12 f = f (q 12) := vq_ T q o p l g (k := 12) (by decide) f
theorem wq_12 {h : Hp} (T : LT5 h) (q o p l g : Row) {α : Type} (v : Int32) (f : Hp → Option α) : stI (sV h q o p l g) 241 20 12 v f = f (sV h (upd q 12 v) o p l g) := wq_ T q o p l g (k := 12) (by decide) v f
def ho (o : Row) (i c : Nat) : Int32 := o (16 * i + c)
def so (o : Row) (i c : Nat) (v : Int32) : Row := upd o (16 * i + c) v
theorem ho_so (o : Row) (i c d : Nat) (v : Int32) : ho (so o i c v) i d = if d = c then v else ho o i d := by
  unfold ho so upd
  by_cases q : d = c
  · simp [q]
  · rw [if_neg (by omega), if_neg q]
theorem ho_so_ne (o : Row) {i j c d : Nat} (v : Int32) (hij : i ≠ j) (hc : c < 16) (hd : d < 16) : ho (so o i c v) j d = ho o j d := by
  unfold ho so upd
  rw [if_neg (by omega)]
theorem ix16 (i c : Nat) : (16 : Int32) * nI i + nI c = nI (16 * i + c) := by
  rw [show (16 : Int32) = nI 16 from rfl, nI_mul, nI_add]
theorem ix8 (i c : Nat) : (8 : Int32) * nI i + nI c = nI (8 * i + c) := by
  rw [show (8 : Int32) = nI 8 from rfl, nI_mul, nI_add]
theorem ix5 (i c : Nat) : (5 : Int32) * nI i + nI c = nI (5 * i + c) := by
  rw [show (5 : Int32) = nI 5 from rfl, nI_mul, nI_add]
theorem vo_0 {h : Hp} (T : LT5 h) (q o p l g : Row) {α : Type} {i : Nat} (hi : i < 3) (f : Int32 → Option α) : ldI (sV h q o p l g) 242 20 (16 * nI i) f = f (ho o i 0) := by
  rw [show (16 : Int32) * nI i = nI (16 * i + 0) from by rw [show (16 : Int32) = nI 16 from rfl, nI_mul]; rfl, vo_ T q o p l g (by omega)]
  rfl
theorem wo_0 {h : Hp} (T : LT5 h) (q o p l g : Row) {α : Type} {i : Nat} (hi : i < 3) (v : Int32) (f : Hp → Option α) : stI (sV h q o p l g) 242 20 (16 * nI i) v f = f (sV h q (so o i 0 v) p l g) := by
  rw [show (16 : Int32) * nI i = nI (16 * i + 0) from by rw [show (16 : Int32) = nI 16 from rfl, nI_mul]; rfl, wo_ T q o p l g (by omega)]
  rfl
theorem vo_1 {h : Hp} (T : LT5 h) (q o p l g : Row) {α : Type} {i : Nat} (hi : i < 3) (f : Int32 → Option α) : ldI (sV h q o p l g) 242 20 ((16 * nI i) + 1) f = f (ho o i 1) := by
  rw [show (16 : Int32) * nI i + 1 = nI (16 * i + 1) from ix16 i 1, vo_ T q o p l g (by omega)]
  rfl
theorem wo_1 {h : Hp} (T : LT5 h) (q o p l g : Row) {α : Type} {i : Nat} (hi : i < 3) (v : Int32) (f : Hp → Option α) : stI (sV h q o p l g) 242 20 ((16 * nI i) + 1) v f = f (sV h q (so o i 1 v) p l g) := by
  rw [show (16 : Int32) * nI i + 1 = nI (16 * i + 1) from ix16 i 1, wo_ T q o p l g (by omega)]
  rfl
theorem vo_2 {h : Hp} (T : LT5 h) (q o p l g : Row) {α : Type} {i : Nat} (hi : i < 3) (f : Int32 → Option α) : ldI (sV h q o p l g) 242 20 ((16 * nI i) + 2) f = f (ho o i 2) := by
  rw [show (16 : Int32) * nI i + 2 = nI (16 * i + 2) from ix16 i 2, vo_ T q o p l g (by omega)]
  rfl
theorem wo_2 {h : Hp} (T : LT5 h) (q o p l g : Row) {α : Type} {i : Nat} (hi : i < 3) (v : Int32) (f : Hp → Option α) : stI (sV h q o p l g) 242 20 ((16 * nI i) + 2) v f = f (sV h q (so o i 2 v) p l g) := by
  rw [show (16 : Int32) * nI i + 2 = nI (16 * i + 2) from ix16 i 2, wo_ T q o p l g (by omega)]
  rfl
theorem vo_3 {h : Hp} (T : LT5 h) (q o p l g : Row) {α : Type} {i : Nat} (hi : i < 3) (f : Int32 → Option α) : ldI (sV h q o p l g) 242 20 ((16 * nI i) + 3) f = f (ho o i 3) := by
  rw [show (16 : Int32) * nI i + 3 = nI (16 * i + 3) from ix16 i 3, vo_ T q o p l g (by omega)]
  rfl
theorem wo_3 {h : Hp} (T : LT5 h) (q o p l g : Row) {α : Type} {i : Nat} (hi : i < 3) (v : Int32) (f : Hp → Option α) : stI (sV h q o p l g) 242 20 ((16 * nI i) + 3) v f = f (sV h q (so o i 3 v) p l g) := by
  rw [show (16 : Int32) * nI i + 3 = nI (16 * i + 3) from ix16 i 3, wo_ T q o p l g (by omega)]
  rfl
theorem vo_4 {h : Hp} (T : LT5 h) (q o p l g : Row) {α : Type} {i : Nat} (hi : i < 3) (f : Int32 → Option α) : ldI (sV h q o p l g) 242 20 ((16 * nI i) + 4) f = f (ho o i 4) := by
  rw [show (16 : Int32) * nI i + 4 = nI (16 * i + 4) from ix16 i 4, vo_ T q o p l g (by omega)]
  rfl
theorem wo_4 {h : Hp} (T : LT5 h) (q o p l g : Row) {α : Type} {i : Nat} (hi : i < 3) (v : Int32) (f : Hp → Option α) : stI (sV h q o p l g) 242 20 ((16 * nI i) + 4) v f = f (sV h q (so o i 4 v) p l g) := by
  rw [show (16 : Int32) * nI i + 4 = nI (16 * i + 4) from ix16 i 4, wo_ T q o p l g (by omega)]
  rfl
theorem vo_5 {h : Hp} (T : LT5 h) (q o p l g : Row) {α : Type} {i : Nat} (hi : i < 3) (f : Int32 → Option α) : ldI (sV h q o p l g) 242 20 ((16 * nI i) + 5) f = f (ho o i 5) := by
  rw [show (16 : Int32) * nI i + 5 = nI (16 * i + 5) from ix16 i 5, vo_ T q o p l g (by omega)]
  rfl
theorem wo_5 {h : Hp} (T : LT5 h) (q o p l g : Row) {α : Type} {i : Nat} (hi : i < 3) (v : Int32) (f : Hp → Option α) : stI (sV h q o p l g) 242 20 ((16 * nI i) + 5) v f = f (sV h q (so o i 5 v) p l g) := by
  rw [show (16 : Int32) * nI i + 5 = nI (16 * i + 5) from ix16 i 5, wo_ T q o p l g (by omega)]
  rfl
theorem vo_6 {h : Hp} (T : LT5 h) (q o p l g : Row) {α : Type} {i : Nat} (hi : i < 3) (f : Int32 → Option α) : ldI (sV h q o p l g) 242 20 ((16 * nI i) + 6) f = f (ho o i 6) := by
  rw [show (16 : Int32) * nI i + 6 = nI (16 * i + 6) from ix16 i 6, vo_ T q o p l g (by omega)]
  rfl
theorem wo_6 {h : Hp} (T : LT5 h) (q o p l g : Row) {α : Type} {i : Nat} (hi : i < 3) (v : Int32) (f : Hp → Option α) : stI (sV h q o p l g) 242 20 ((16 * nI i) + 6) v f = f (sV h q (so o i 6 v) p l g) := by
  rw [show (16 : Int32) * nI i + 6 = nI (16 * i + 6) from ix16 i 6, wo_ T q o p l g (by omega)]
  rfl
theorem vo_7 {h : Hp} (T : LT5 h) (q o p l g : Row) {α : Type} {i : Nat} (hi : i < 3) (f : Int32 → Option α) : ldI (sV h q o p l g) 242 20 ((16 * nI i) + 7) f = f (ho o i 7) := by
  rw [show (16 : Int32) * nI i + 7 = nI (16 * i + 7) from ix16 i 7, vo_ T q o p l g (by omega)]
  rfl
theorem wo_7 {h : Hp} (T : LT5 h) (q o p l g : Row) {α : Type} {i : Nat} (hi : i < 3) (v : Int32) (f : Hp → Option α) : stI (sV h q o p l g) 242 20 ((16 * nI i) + 7) v f = f (sV h q (so o i 7 v) p l g) := by
  rw [show (16 : Int32) * nI i + 7 = nI (16 * i + 7) from ix16 i 7, wo_ T q o p l g (by omega)]
  rfl
theorem vo_8 {h : Hp} (T : LT5 h) (q o p l g : Row) {α : Type} {i : Nat} (hi : i < 3) (f : Int32 → Option α) : ldI (sV h q o p l g) 242 20 ((16 * nI i) + 8) f = f (ho o i 8) := by
  rw [show (16 : Int32) * nI i + 8 = nI (16 * i + 8) from ix16 i 8, vo_ T q o p l g (by omega)]
  rfl
theorem wo_8 {h : Hp} (T : LT5 h) (q o p l g : Row) {α : Type} {i : Nat} (hi : i < 3) (v : Int32) (f : Hp → Option α) : stI (sV h q o p l g) 242 20 ((16 * nI i) + 8) v f = f (sV h q (so o i 8 v) p l g) := by
  rw [show (16 : Int32) * nI i + 8 = nI (16 * i + 8) from ix16 i 8, wo_ T q o p l g (by omega)]
  rfl
theorem vo_9 {h : Hp} (T : LT5 h) (q o p l g : Row) {α : Type} {i : Nat} (hi : i < 3) (f : Int32 → Option α) : ldI (sV h q o p l g) 242 20 ((16 * nI i) + 9) f = f (ho o i 9) := by
  rw [show (16 : Int32) * nI i + 9 = nI (16 * i + 9) from ix16 i 9, vo_ T q o p l g (by omega)]
  rfl
theorem wo_9 {h : Hp} (T : LT5 h) (q o p l g : Row) {α : Type} {i : Nat} (hi : i < 3) (v : Int32) (f : Hp → Option α) : stI (sV h q o p l g) 242 20 ((16 * nI i) + 9) v f = f (sV h q (so o i 9 v) p l g) := by
  rw [show (16 : Int32) * nI i + 9 = nI (16 * i + 9) from ix16 i 9, wo_ T q o p l g (by omega)]
  rfl
theorem vo_10 {h : Hp} (T : LT5 h) (q o p l g : Row) {α : Type} {i : Nat} (hi : i < 3) (f : Int32 → Option α) : ldI (sV h q o p l g) 242 20 ((16 * nI i) + 10) f = f (ho o i 10) := by
  rw [show (16 : Int32) * nI i + 10 = nI (16 * i + 10) from ix16 i 10, vo_ T q o p l g (by omega)]
  rfl
theorem wo_10 {h : Hp} (T : LT5 h) (q o p l g : Row) {α : Type} {i : Nat} (hi : i < 3) (v : Int32) (f : Hp → Option α) : stI (sV h q o p l g) 242 20 ((16 * nI i) + 10) v f = f (sV h q (so o i 10 v) p l g) := by
  rw [show (16 : Int32) * nI i + 10 = nI (16 * i + 10) from ix16 i 10, wo_ T q o p l g (by omega)]
  rfl
theorem vo_11 {h : Hp} (T : LT5 h) (q o p l g : Row) {α : Type} {i : Nat} (hi : i < 3) (f : Int32 → Option α) : ldI (sV h q o p l g) 242 20 ((16 * nI i) + 11) f = f (ho o i 11) := by
  rw [show (16 : Int32) * nI i + 11 = nI (16 * i + 11) from ix16 i 11, vo_ T q o p l g (by omega)]
  rfl
theorem wo_11 {h : Hp} (T : LT5 h) (q o p l g : Row) {α : Type} {i : Nat} (hi : i < 3) (v : Int32) (f : Hp → Option α) : stI (sV h q o p l g) 242 20 ((16 * nI i) + 11) v f = f (sV h q (so o i 11 v) p l g) := by
  rw [show (16 : Int32) * nI i + 11 = nI (16 * i + 11) from ix16 i 11, wo_ T q o p l g (by omega)]
  rfl
theorem vo_12 {h : Hp} (T : LT5 h) (q o p l g : Row) {α : Type} {i : Nat} (hi : i < 3) (f : Int32 → Option α) : ldI (sV h q o p l g) 242 20 ((16 * nI i) + 12) f = f (ho o i 12) := by
  rw [show (16 : Int32) * nI i + 12 = nI (16 * i + 12) from ix16 i 12, vo_ T q o p l g (by omega)]
  rfl
theorem wo_12 {h : Hp} (T : LT5 h) (q o p l g : Row) {α : Type} {i : Nat} (hi : i < 3) (v : Int32) (f : Hp → Option α) : stI (sV h q o p l g) 242 20 ((16 * nI i) + 12) v f = f (sV h q (so o i 12 v) p l g) := by
  rw [show (16 : Int32) * nI i + 12 = nI (16 * i + 12) from ix16 i 12, wo_ T q o p l g (by omega)]
  rfl
theorem vo_13 {h : Hp} (T : LT5 h) (q o p l g : Row) {α : Type} {i : Nat} (hi : i < 3) (f : Int32 → Option α) : ldI (sV h q o p l g) 242 20 ((16 * nI i) + 13) f = f (ho o i 13) := by
  rw [show (16 : Int32) * nI i + 13 = nI (16 * i + 13) from ix16 i 13, vo_ T q o p l g (by omega)]
  rfl
theorem wo_13 {h : Hp} (T : LT5 h) (q o p l g : Row) {α : Type} {i : Nat} (hi : i < 3) (v : Int32) (f : Hp → Option α) : stI (sV h q o p l g) 242 20 ((16 * nI i) + 13) v f = f (sV h q (so o i 13 v) p l g) := by
  rw [show (16 : Int32) * nI i + 13 = nI (16 * i + 13) from ix16 i 13, wo_ T q o p l g (by omega)]
  rfl
theorem vo_14 {h : Hp} (T : LT5 h) (q o p l g : Row) {α : Type} {i : Nat} (hi : i < 3) (f : Int32 → Option α) : ldI (sV h q o p l g) 242 20 ((16 * nI i) + 14) f = f (ho o i 14) := by
  rw [show (16 : Int32) * nI i + 14 = nI (16 * i + 14) from ix16 i 14, vo_ T q o p l g (by omega)]
  rfl
theorem wo_14 {h : Hp} (T : LT5 h) (q o p l g : Row) {α : Type} {i : Nat} (hi : i < 3) (v : Int32) (f : Hp → Option α) : stI (sV h q o p l g) 242 20 ((16 * nI i) + 14) v f = f (sV h q (so o i 14 v) p l g) := by
  rw [show (16 : Int32) * nI i + 14 = nI (16 * i + 14) from ix16 i 14, wo_ T q o p l g (by omega)]
  rfl
theorem vo_15 {h : Hp} (T : LT5 h) (q o p l g : Row) {α : Type} {i : Nat} (hi : i < 3) (f : Int32 → Option α) : ldI (sV h q o p l g) 242 20 ((16 * nI i) + 15) f = f (ho o i 15) := by
  rw [show (16 : Int32) * nI i + 15 = nI (16 * i + 15) from ix16 i 15, vo_ T q o p l g (by omega)]
  rfl
theorem wo_15 {h : Hp} (T : LT5 h) (q o p l g : Row) {α : Type} {i : Nat} (hi : i < 3) (v : Int32) (f : Hp → Option α) : stI (sV h q o p l g) 242 20 ((16 * nI i) + 15) v f = f (sV h q (so o i 15 v) p l g) := by
  rw [show (16 : Int32) * nI i + 15 = nI (16 * i + 15) from ix16 i 15, wo_ T q o p l g (by omega)]
  rfl
theorem vp_c {h : Hp} (T : LT5 h) (q o p l g : Row) {α : Type} {i c : Nat} (hi : i < 3) (hc : c < 8) (f : Int32 → Option α) : ldI (sV h q o p l g) 243 20 ((8 * nI i) + nI c) f = f (p (8 * i + c)) := by
  rw [ix8, vp_ T q o p l g (by omega)]
theorem wp_c {h : Hp} (T : LT5 h) (q o p l g : Row) {α : Type} {i c : Nat} (hi : i < 3) (hc : c < 8) (v : Int32) (f : Hp → Option α) : stI (sV h q o p l g) 243 20 ((8 * nI i) + nI c) v f = f (sV h q o (upd p (8 * i + c) v) l g) := by
  rw [ix8, wp_ T q o p l g (by omega)]
theorem vl_c {h : Hp} (T : LT5 h) (q o p l g : Row) {α : Type} {i c : Nat} (hi : i < 4) (hc : c < 5) (f : Int32 → Option α) : ldI (sV h q o p l g) 244 20 ((5 * nI i) + nI c) f = f (l (5 * i + c)) := by
  rw [ix5, vl_ T q o p l g (by omega)]
theorem wl_c {h : Hp} (T : LT5 h) (q o p l g : Row) {α : Type} {i c : Nat} (hi : i < 4) (hc : c < 5) (v : Int32) (f : Hp → Option α) : stI (sV h q o p l g) 244 20 ((5 * nI i) + nI c) v f = f (sV h q o p (upd l (5 * i + c) v) g) := by
  rw [ix5, wl_ T q o p l g (by omega)]
theorem vl_0 {h : Hp} (T : LT5 h) (q o p l g : Row) {α : Type} {i : Nat} (hi : i < 4) (f : Int32 → Option α) : ldI (sV h q o p l g) 244 20 (5 * nI i) f = f (l (5 * i + 0)) := by
  rw [show (5 : Int32) * nI i = nI (5 * i + 0) from by rw [show (5 : Int32) = nI 5 from rfl, nI_mul]; rfl, vl_ T q o p l g (by omega)]
theorem wl_0 {h : Hp} (T : LT5 h) (q o p l g : Row) {α : Type} {i : Nat} (hi : i < 4) (v : Int32) (f : Hp → Option α) : stI (sV h q o p l g) 244 20 (5 * nI i) v f = f (sV h q o p (upd l (5 * i + 0) v) g) := by
  rw [show (5 : Int32) * nI i = nI (5 * i + 0) from by rw [show (5 : Int32) = nI 5 from rfl, nI_mul]; rfl, wl_ T q o p l g (by omega)]
theorem vl_1 {h : Hp} (T : LT5 h) (q o p l g : Row) {α : Type} {i : Nat} (hi : i < 4) (f : Int32 → Option α) : ldI (sV h q o p l g) 244 20 ((5 * nI i) + 1) f = f (l (5 * i + 1)) := vl_c T q o p l g (c := 1) hi (by decide) f
theorem wl_1 {h : Hp} (T : LT5 h) (q o p l g : Row) {α : Type} {i : Nat} (hi : i < 4) (v : Int32) (f : Hp → Option α) : stI (sV h q o p l g) 244 20 ((5 * nI i) + 1) v f = f (sV h q o p (upd l (5 * i + 1) v) g) := wl_c T q o p l g (c := 1) hi (by decide) v f
theorem vl_2 {h : Hp} (T : LT5 h) (q o p l g : Row) {α : Type} {i : Nat} (hi : i < 4) (f : Int32 → Option α) : ldI (sV h q o p l g) 244 20 ((5 * nI i) + 2) f = f (l (5 * i + 2)) := vl_c T q o p l g (c := 2) hi (by decide) f
theorem wl_2 {h : Hp} (T : LT5 h) (q o p l g : Row) {α : Type} {i : Nat} (hi : i < 4) (v : Int32) (f : Hp → Option α) : stI (sV h q o p l g) 244 20 ((5 * nI i) + 2) v f = f (sV h q o p (upd l (5 * i + 2) v) g) := wl_c T q o p l g (c := 2) hi (by decide) v f
theorem vl_3 {h : Hp} (T : LT5 h) (q o p l g : Row) {α : Type} {i : Nat} (hi : i < 4) (f : Int32 → Option α) : ldI (sV h q o p l g) 244 20 ((5 * nI i) + 3) f = f (l (5 * i + 3)) := vl_c T q o p l g (c := 3) hi (by decide) f
theorem wl_3 {h : Hp} (T : LT5 h) (q o p l g : Row) {α : Type} {i : Nat} (hi : i < 4) (v : Int32) (f : Hp → Option α) : stI (sV h q o p l g) 244 20 ((5 * nI i) + 3) v f = f (sV h q o p (upd l (5 * i + 3) v) g) := wl_c T q o p l g (c := 3) hi (by decide) v f
theorem vl_4 {h : Hp} (T : LT5 h) (q o p l g : Row) {α : Type} {i : Nat} (hi : i < 4) (f : Int32 → Option α) : ldI (sV h q o p l g) 244 20 ((5 * nI i) + 4) f = f (l (5 * i + 4)) := vl_c T q o p l g (c := 4) hi (by decide) f
theorem wl_4 {h : Hp} (T : LT5 h) (q o p l g : Row) {α : Type} {i : Nat} (hi : i < 4) (v : Int32) (f : Hp → Option α) : stI (sV h q o p l g) 244 20 ((5 * nI i) + 4) v f = f (sV h q o p (upd l (5 * i + 4) v) g) := wl_c T q o p l g (c := 4) hi (by decide) v f
theorem vg_0 {h : Hp} (T : LT5 h) (q o p l g : Row) {α : Type} (f : Int32 → Option α) : ldI (sV h q o p l g) 245 20 0 f = f (g 0) := vg_ T q o p l g (k := 0) (by decide) f
theorem vg_1 {h : Hp} (T : LT5 h) (q o p l g : Row) {α : Type} (f : Int32 → Option α) : ldI (sV h q o p l g) 245 20 1 f = f (g 1) := vg_ T q o p l g (k := 1) (by decide) f
theorem vg_2 {h : Hp} (T : LT5 h) (q o p l g : Row) {α : Type} (f : Int32 → Option α) : ldI (sV h q o p l g) 245 20 2 f = f (g 2) := vg_ T q o p l g (k := 2) (by decide) f
theorem and_nn (v : Int32) : ∃ a, v &&& 2147483647 = nI a ∧ a < 2 ^ 31 := by
  refine nI_ofI ?_
  rw [Int32.le_iff_toInt_le, show (0 : Int32).toInt = 0 from by decide]
  show 0 ≤ (v &&& 2147483647).toBitVec.toInt
  rw [Int32.toBitVec_and]
  have hm : (v.toBitVec &&& (2147483647 : Int32).toBitVec).msb = false := by
    rw [BitVec.msb_and, show (2147483647 : Int32).toBitVec.msb = false from by decide, Bool.and_false]
  rw [BitVec.toInt_eq_msb_cond, hm]
  exact Int.natCast_nonneg _
def lowN (v : Int32) (k : Nat) : Nat := (v &&& 2147483647).toNatClampNeg % k
theorem lowN_lt (v : Int32) {k : Nat} (hk : 0 < k) : lowN v k < k := Nat.mod_lt _ hk
theorem remI_n {α : Type} {a k : Nat} (ha : a < 2 ^ 31) (hk : 0 < k) (hk2 : k < 2 ^ 31) (f : Int32 → Option α) : remI (nI a) (nI k) f = f (nI (a % k)) := by
  have h0 : ¬ nI k = 0 := fun z => by have := (nI_0' k hk2).mp z; omega
  unfold remI
  rw [if_neg h0, nI_div ha hk2 (by omega), nI_mul, nI_sub (Nat.div_mul_le_self a k)]
  have : a - a / k * k = a % k := by
    have := Nat.div_add_mod a k
    rw [Nat.mul_comm] at this
    omega
  rw [this]
theorem l_low (v : Int32) {k : Nat} (hk : 0 < k) (hk2 : k < 2 ^ 31) (h : Hp) : s_X10_low v (nI k) h = some (nI (lowN v k), h) := by
  obtain ⟨a, e, ha⟩ := and_nn v
  unfold s_X10_low lowN
  rw [e, remI_n ha hk hk2, nI_clamp ha]
  rfl
theorem l_low300 (v : Int32) (h : Hp) : s_X10_low v 300 h = some (nI (lowN v 300), h) := l_low v (k := 300) (by decide) (by decide) h
theorem l_low500 (v : Int32) (h : Hp) : s_X10_low v 500 h = some (nI (lowN v 500), h) := l_low v (k := 500) (by decide) (by decide) h
theorem l_low20 (v : Int32) (h : Hp) : s_X10_low v 20 h = some (nI (lowN v 20), h) := l_low v (k := 20) (by decide) (by decide) h
theorem l_low50 (v : Int32) (h : Hp) : s_X10_low v 50 h = some (nI (lowN v 50), h) := l_low v (k := 50) (by decide) (by decide) h
theorem l_low400 (v : Int32) (h : Hp) : s_X10_low v 400 h = some (nI (lowN v 400), h) := l_low v (k := 400) (by decide) (by decide) h
theorem l_low8 (v : Int32) (h : Hp) : s_X10_low v 8 h = some (nI (lowN v 8), h) := l_low v (k := 8) (by decide) (by decide) h
theorem l_low3 (v : Int32) (h : Hp) : s_X10_low v 3 h = some (nI (lowN v 3), h) := l_low v (k := 3) (by decide) (by decide) h
theorem l_low2 (v : Int32) (h : Hp) : s_X10_low v 2 h = some (nI (lowN v 2), h) := l_low v (k := 2) (by decide) (by decide) h
theorem l_low9 (v : Int32) (h : Hp) : s_X10_low v 9 h = some (nI (lowN v 9), h) := l_low v (k := 9) (by decide) (by decide) h
theorem l_low5 (v : Int32) (h : Hp) : s_X10_low v 5 h = some (nI (lowN v 5), h) := l_low v (k := 5) (by decide) (by decide) h
theorem l_low100 (v : Int32) (h : Hp) : s_X10_low v 100 h = some (nI (lowN v 100), h) := l_low v (k := 100) (by decide) (by decide) h
theorem l_low12 (v : Int32) (h : Hp) : s_X10_low v 12 h = some (nI (lowN v 12), h) := l_low v (k := 12) (by decide) (by decide) h
theorem l_low4 (v : Int32) (h : Hp) : s_X10_low v 4 h = some (nI (lowN v 4), h) := l_low v (k := 4) (by decide) (by decide) h
theorem l_low6 (v : Int32) (h : Hp) : s_X10_low v 6 h = some (nI (lowN v 6), h) := l_low v (k := 6) (by decide) (by decide) h
theorem l_low60 (v : Int32) (h : Hp) : s_X10_low v 60 h = some (nI (lowN v 60), h) := l_low v (k := 60) (by decide) (by decide) h
