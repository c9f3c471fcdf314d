/-! a whole street copied -/
theorem isSt.sep {A B : Nat} (a : isSt A) (b : isSt B) (h : A ≠ B) : A + 33 ≤ B ∨ B + 33 ≤ A := by
  unfold isSt at a b
  omega
theorem c_cpS {h : Hp} {A B : Nat} (S : Sh h) (sa : isSt A) (sb : isSt B) (hab : A ≠ B) {k25 : Nat → Nat → Hp → Rv Unit} : ∀ (d k f : Nat) (h1 : Hp), k + d = 4 → d < f → Fr (fun x => x = A + 1) h h1 → hR h1 = hR h → (∀ j, j < k → hI h1 (A + 1) j = hI h (B + 1) j) →
    ∃ h', s_X6_copyFrom_L2 k25 f A B (nI k) h1 = k25 A B h' ∧ Fr (fun x => x = A + 1) h h' ∧ hR h' = hR h ∧ ∀ j, j < 4 → hI h' (A + 1) j = hI h (B + 1) j
  | 0, k, f, h1, hk, hf, F, hr, H => by
    obtain ⟨m, rfl, -⟩ := fuel_succ hf
    refine ⟨h1, ?_, F, hr, fun j hj => H j (by omega)⟩
    rw [s_X6_copyFrom_L2, show (4 : Int32) = nI 4 from rfl]
    simp only [nI_leE (show 4 < 2 ^ 31 by omega) (show k < 2 ^ 31 by omega), show 4 ≤ k by omega, if_true]
  | d + 1, k, f, h1, hk, hf, F, hr, H => by
    obtain ⟨m, rfl, hm⟩ := fuel_succ hf
    have S1 : Sh h1 := S.of hr F.1 (Nat.le_of_eq F.2.1.symm)
    have ap := sa.pos
    have bp := sb.pos
    have sep := sa.sep sb hab
    have fb := (F.2.2 (B + 1) (by omega)).1
    obtain ⟨h', c1, c2, c3, c4⟩ := c_cpS S sa sb hab (k25 := k25) d (k + 1) m (sI h1 (A + 1) k (hI h (B + 1) k)) (by omega) (by omega) (F.sI (A + 1) k _ rfl) hr (fun j hj => by
      rw [hI_sI]
      by_cases q : j = k
      · rw [if_pos ⟨rfl, q⟩, q]
      · rw [if_neg (fun z => q z.2)]
        exact H j (by omega))
    refine ⟨h', ?_, c2, c3, c4⟩
    rw [s_X6_copyFrom_L2, show (4 : Int32) = nI 4 from rfl]
    simp only [nI_leE (show 4 < 2 ^ 31 by omega) (show k < 2 ^ 31 by omega), show ¬ (4 ≤ k) by omega, if_false, getR, ldI, stI, S1.t0 sa, S1.t0 sb, S1.t1 sa, S1.t1 sb, S1.r0 sa, S1.r0 sb, nI_ge0 (show k < 2 ^ 31 by omega), nI_clamp (show k < 2 ^ 31 by omega), show k < 4 by omega, show ¬ (A + 1 = 0) by omega, show ¬ (B + 1 = 0) by omega, true_and, and_self, ne_eq, not_false_eq_true, if_true, fb, nI_1]
    exact c1
def CHs (h h1 : Hp) (A B i : Nat) : Prop :=
  (hI h1 (A + 8 + 2 * i) 1 = hI h (B + 8 + 2 * i) 1 ∧ hI h1 (A + 8 + 2 * i) 2 = hI h (B + 8 + 2 * i) 2 ∧ hI h1 (A + 8 + 2 * i) 3 = hI h (B + 8 + 2 * i) 3 ∧ hI h1 (A + 8 + 2 * i) 4 = hI h (B + 8 + 2 * i) 4 ∧ hI h1 (A + 8 + 2 * i) 5 = hI h (B + 8 + 2 * i) 5 ∧ hI h1 (A + 8 + 2 * i) 7 = hI h (B + 8 + 2 * i) 7) ∧ hL h1 (A + 8 + 2 * i) 6 = hL h (B + 8 + 2 * i) 6 ∧ hR h1 (A + 8 + 2 * i) 0 = hR h (B + 8 + 2 * i) 0 ∧
  (hI h1 (A + 7 + 2 * i) 1 = hI h (B + 7 + 2 * i) 1 ∧ hI h1 (A + 7 + 2 * i) 2 = hI h (B + 7 + 2 * i) 2 ∧ hI h1 (A + 7 + 2 * i) 3 = hI h (B + 7 + 2 * i) 3 ∧ hI h1 (A + 7 + 2 * i) 4 = hI h (B + 7 + 2 * i) 4 ∧ hI h1 (A + 7 + 2 * i) 5 = hI h (B + 7 + 2 * i) 5 ∧ hI h1 (A + 7 + 2 * i) 6 = hI h (B + 7 + 2 * i) 6 ∧ hI h1 (A + 7 + 2 * i) 7 = hI h (B + 7 + 2 * i) 7 ∧ hI h1 (A + 7 + 2 * i) 8 = hI h (B + 7 + 2 * i) 8 ∧ hI h1 (A + 7 + 2 * i) 9 = hI h (B + 7 + 2 * i) 9)
def HZ (A x : Nat) : Prop := A + 7 ≤ x ∧ x < A + 23
theorem c_cpH {h : Hp} {A B : Nat} (S : Sh h) (sa : isSt A) (sb : isSt B) (hab : A ≠ B) (hz : ∀ i, i < 8 → hR h (B + 8 + 2 * i) 0 ≠ 0) {k54 : Nat → Nat → Hp → Rv Unit} : ∀ (d k f : Nat) (h1 : Hp), k + d = 8 → d < f → Fr (HZ A) h h1 → (∀ x, ¬ isW x → hR h1 x = hR h x) → (∀ i, i < k → CHs h h1 A B i) →
    ∃ h', s_X6_copyFrom_L27 k54 f A B (nI k) h1 = k54 A B h' ∧ Fr (HZ A) h h' ∧ (∀ x, ¬ isW x → hR h' x = hR h x) ∧ ∀ i, i < 8 → CHs h h' A B i
  | 0, k, f, h1, hk, hf, F, hr, H => by
    obtain ⟨m, rfl, -⟩ := fuel_succ hf
    refine ⟨h1, ?_, F, hr, fun j hj => H j (by omega)⟩
    rw [s_X6_copyFrom_L27, show (8 : Int32) = nI 8 from rfl]
    simp only [nI_leE (show 8 < 2 ^ 31 by omega) (show k < 2 ^ 31 by omega), show 8 ≤ k by omega, if_true]
  | d + 1, k, f, h1, hk, hf, F, hr, H => by
    obtain ⟨m, rfl, hm⟩ := fuel_succ hf
    have S1 : Sh h1 := S.wr F.1 (Nat.le_of_eq F.2.1.symm) (fun x hx _ => hr x hx)
    have hk8 : k < 8 := by omega
    have ap := sa.pos
    have bp := sb.pos
    have sep := sa.sep sb hab
    have fB := F.2.2 (B + 8 + 2 * k) (fun z => by have := z.1; have := z.2; omega)
    have fBh := F.2.2 (B + 7 + 2 * k) (fun z => by have := z.1; have := z.2; omega)
    obtain ⟨h2, c1, c2, c3, c4, c5, c6, c7⟩ := c_copyH (h := h1) (a := A + 7 + 2 * k) (b := B + 7 + 2 * k) (wa := A + 8 + 2 * k) (wb := B + 8 + 2 * k) (S1.tH sa hk8) (S1.tH sb hk8) (S1.rW sa hk8) (S1.rW sb hk8) (S1.tW sa hk8) (S1.tW sb hk8) (by omega) (by omega) (by rw [fB.2.2]; exact hz k hk8) (by omega) (by omega) (by omega) (by omega) (by omega) (by omega)
    obtain ⟨h', d1, d2, d3, d4⟩ := c_cpH S sa sb hab hz (k54 := k54) d (k + 1) m h2 (by omega) (by omega) (F.trans (c2.mono (fun x hx => by unfold HZ; omega))) (fun x hx => by
      rw [← hr x hx]
      by_cases q : x = A + 7 + 2 * k
      · rw [q]; exact c6
      · exact (c2.2.2 x (fun z => by
          rcases z with z | z
          · exact q z
          · exact hx ⟨A, k, sa, hk8, z⟩)).2.2) (fun i hi => by
      by_cases q : i = k
      · subst q
        unfold CHs
        rw [fB.1, fB.2.1] at *
        rw [fB.2.2] at c5
        rw [fBh.1] at c7
        exact ⟨c3, c4, c5, c7⟩
      · have f1 := c2.2.2 (A + 8 + 2 * i) (by omega)
        have f2 := c2.2.2 (A + 7 + 2 * i) (by omega)
        have := H i (by omega)
        unfold CHs at this ⊢
        rw [f1.1, f1.2.1, f1.2.2, f2.1]
        exact this)
    refine ⟨h', ?_, d2, d3, d4⟩
    rw [s_X6_copyFrom_L27, show (8 : Int32) = nI 8 from rfl]
    simp only [nI_leE (show 8 < 2 ^ 31 by omega) (show k < 2 ^ 31 by omega), show ¬ (8 ≤ k) by omega, if_false, getR, ldR, inv, bnd, S1.t0 sa, S1.t0 sb, S1.t2 sa, S1.t2 sb, S1.r1 sa, S1.r1 sb, S1.rH sa hk8, S1.rH sb hk8, S1.tH sa hk8, nI_ge0 (show k < 2 ^ 31 by omega), nI_clamp (show k < 2 ^ 31 by omega), hk8, show ¬ (A + 2 = 0) by omega, show ¬ (B + 2 = 0) by omega, show ¬ (A + 7 + 2 * k = 0) by omega, show ¬ (B + 7 + 2 * k = 0) by omega, true_and, and_self, ne_eq, not_false_eq_true, if_true, c1, nI_1]
    exact d1
def LZ (A x : Nat) : Prop := A + 23 ≤ x ∧ x < A + 33
theorem c_cpLs {h : Hp} {A B : Nat} (S : Sh h) (sa : isSt A) (sb : isSt B) (hab : A ≠ B) (hp : hI h B 7 = 0 ∨ hI h B 7 = 1) : ∀ (d k f : Nat) (h1 : Hp), k + d = 10 → d < f → Fr (LZ A) h h1 → hR h1 = hR h → (∀ j, j < k → ∀ q, q < 5 → hI h1 (A + 23 + j) q = hI h (B + 23 + j) q) →
    ∃ h', s_X6_copyFrom_L56 f A B (nI k) h1 = some ((), sI (sI (sI (sI (sI (sI (sI (sI h' A 3 (hI h B 3)) A 4 (hI h B 4)) A 5 (hI h B 5)) A 6 (hI h B 6)) A 7 (hI h B 7)) A 8 (hI h B 8)) A 9 (hI h B 9)) A 10 (hI h B 10)) ∧ Fr (LZ A) h h' ∧ hR h' = hR h ∧ ∀ j, j < 10 → ∀ q, q < 5 → hI h' (A + 23 + j) q = hI h (B + 23 + j) q
  | 0, k, f, h1, hk, hf, F, hr, H => by
    obtain ⟨m, rfl, -⟩ := fuel_succ hf
    have S1 : Sh h1 := S.of hr F.1 (Nat.le_of_eq F.2.1.symm)
    have sep := sa.sep sb hab
    have fb := (F.2.2 B (fun z => by have := z.1; have := z.2; omega)).1
    refine ⟨h1, ?_, F, hr, fun j hj => H j (by omega)⟩
    rw [s_X6_copyFrom_L56, show (10 : Int32) = nI 10 from rfl]
    simp only [getI, getL, getR, putI, putZ, putL, putR, ldI, ldR, stI, stR, divI, divL, bnd, inv, retI, retZ, retC, retR, retU, hT_sI, hT_sL, hT_sR, hR_sI, hR_sL, hN_sI, hN_sL, hN_sR, hI_sL, hI_sR, hL_sI, hL_sR, ↓reduceIte, true_and, and_true, and_self, ne_eq, not_false_eq_true, not_true_eq_false, reduceCtorEq, if_true, if_false, nI_leE (show 10 < 2 ^ 31 by omega) (show k < 2 ^ 31 by omega), show 10 ≤ k by omega, S1.t0 sa, S1.t0 sb, hI_sI, fb, show (B = A) = False from eq_false (Ne.symm hab), false_and, eq_true hp]
  | d + 1, k, f, h1, hk, hf, F, hr, H => by
    obtain ⟨m, rfl, hm⟩ := fuel_succ hf
    have S1 : Sh h1 := S.of hr F.1 (Nat.le_of_eq F.2.1.symm)
    have hk10 : k < 10 := by omega
    have ap := sa.pos
    have bp := sb.pos
    have sep := sa.sep sb hab
    have fB := (F.2.2 (B + 23 + k) (fun z => by have := z.1; have := z.2; omega)).1
    obtain ⟨h2, c1, c2, c3, c4⟩ := c_copyL (S1.tL sa hk10) (S1.tL sb hk10) (show B + 23 + k ≠ A + 23 + k by omega)
    obtain ⟨h', d1, d2, d3, d4⟩ := c_cpLs S sa sb hab hp d (k + 1) m h2 (by omega) (by omega) (F.trans (c2.mono (fun x hx => by unfold LZ; omega))) (c3.trans hr) (fun j hj q hq => by
      by_cases e : j = k
      · rw [e, c4 q hq, fB]
      · rw [(c2.2.2 (A + 23 + j) (by omega)).1]
        exact H j (by omega) q hq)
    refine ⟨h', ?_, d2, d3, d4⟩
    rw [s_X6_copyFrom_L56, show (10 : Int32) = nI 10 from rfl]
    simp only [nI_leE (show 10 < 2 ^ 31 by omega) (show k < 2 ^ 31 by omega), show ¬ (10 ≤ k) by omega, if_false, getR, ldR, inv, bnd, S1.t0 sa, S1.t0 sb, S1.t3 sa, S1.t3 sb, S1.r2 sa, S1.r2 sb, S1.rL sa hk10, S1.rL sb hk10, S1.tL sa hk10, nI_ge0 (show k < 2 ^ 31 by omega), nI_clamp (show k < 2 ^ 31 by omega), hk10, show ¬ (A + 3 = 0) by omega, show ¬ (B + 3 = 0) by omega, show ¬ (A + 23 + k = 0) by omega, show ¬ (B + 23 + k = 0) by omega, true_and, and_self, ne_eq, not_false_eq_true, if_true, c1, nI_1]
    exact d1
theorem SR.z {h : Hp} {T n nl : Nat} {w : Row} (R : SR h T w n nl) (t : isSt T) : ∀ i, i < 8 → pOK (hR h (T + 8 + 2 * i) 0) ∧ hR h (T + 8 + 2 * i) 0 ≠ 0 := by
  intro i hi
  have p0 : ∀ p, pOK p → p ≠ 0 := fun p q => by
    rcases q with z | ⟨T, z, z2⟩
    · omega
    · omega
  by_cases q : i < n
  · have := (R.2.2.2.1 i q).2.2.1
    exact ⟨this, p0 _ this⟩
  · have := (R.2.2.2.2.1 i (by omega) hi).2.2.1
    exact ⟨this, p0 _ this⟩
/-- the street A becomes what the street B is -/
theorem c_copyFrom {h : Hp} {A B n nl : Nat} {w : Row} (S : Sh h) (sa : isSt A) (sb : isSt B) (hab : A ≠ B) (R : SR h B w n nl) (hp : w 1 = 0 ∨ w 1 = 1) :
    ∃ h', s_X6_copyFrom A B h = some ((), h') ∧ Fr (ST A) h h' ∧ (∀ x, ¬ isW x → hR h' x = hR h x) ∧ Sh h' ∧ SR h' A w n nl := by
  obtain ⟨v1, v2, v3, v4, v5, v6, v7, v8⟩ := R.2.1
  have ap := sa.pos
  have bp := sb.pos
  have sep := sa.sep sb hab
  have hN0 : 245 ≤ hN h := S.2.2.2.2.2.2.2.2
  obtain ⟨h1, a1, a2, a3, a4⟩ := c_cpS S sa sb hab (k25 := fun y0 y1 h => s_X6_copyFrom_L27 (fun y0 y1 h => s_X6_copyFrom_L56 100000 y0 y1 0 h) 100000 y0 y1 0 h) 4 0 100000 h (by omega) (by omega) Fr.rfl' rfl (fun j hj => by omega)
  have S1 : Sh h1 := S.of a3 a2.1 (Nat.le_of_eq a2.2.1.symm)
  obtain ⟨h2, b1, b2, b3, b4⟩ := c_cpH S1 sa sb hab (fun i hi => by rw [a3]; exact (R.z sb i hi).2) (k54 := fun y0 y1 h => s_X6_copyFrom_L56 100000 y0 y1 0 h) 8 0 100000 h1 (by omega) (by omega) Fr.rfl' (fun _ _ => rfl) (fun i hi => by omega)
  have S2 : Sh h2 := S1.wr b2.1 (Nat.le_of_eq b2.2.1.symm) (fun x hx _ => b3 x hx)
  have fB1 : ∀ x, B ≤ x → x < B + 33 → hI h1 x = hI h x ∧ hL h1 x = hL h x ∧ hR h1 x = hR h x := fun x h1 h2 => a2.2.2 x (by omega)
  have fB2 : ∀ x, B ≤ x → x < B + 33 → hI h2 x = hI h x := fun x h1 h2 => ((b2.2.2 x (fun z => by have := z.1; have := z.2; omega)).1).trans (fB1 x h1 h2).1
  obtain ⟨h3, c1, c2, c3, c4⟩ := c_cpLs S2 sa sb hab (by rw [fB2 B (by omega) (by omega), v5]; exact hp) 10 0 100000 h2 (by omega) (by omega) Fr.rfl' rfl (fun j hj => by omega)
  rw [fB2 B (by omega) (by omega)] at c1
  have F3 : Fr (ST A) h h3 := (a2.mono (fun x hx => by unfold ST; omega)).trans ((b2.mono (fun x hx => by unfold ST; unfold HZ at hx; omega)).trans (c2.mono (fun x hx => by unfold ST; unfold LZ at hx; omega)))
  have F4 : Fr (ST A) h (sI (sI (sI (sI (sI (sI (sI (sI h3 A 3 (hI h B 3)) A 4 (hI h B 4)) A 5 (hI h B 5)) A 6 (hI h B 6)) A 7 (hI h B 7)) A 8 (hI h B 8)) A 9 (hI h B 9)) A 10 (hI h B 10)) := (((((((F3.sI A 3 _ ST.T).sI A 4 _ ST.T).sI A 5 _ ST.T).sI A 6 _ ST.T).sI A 7 _ ST.T).sI A 8 _ ST.T).sI A 9 _ ST.T).sI A 10 _ ST.T
  have r3 : ∀ x, ¬ isW x → hR h3 x = hR h x := fun x hx => by rw [c3, b3 x hx, a3]
  refine ⟨_, a1.trans (b1.trans c1), F4, r3, S.wr F4.1 (Nat.le_of_eq F4.2.1.symm) (fun x hx _ => r3 x hx), ?_⟩
  have hPm : ∀ x, ST A x → Mut x := fun x hx => ST.mut sa hx
  have iN : ∀ x, x ≠ A → hI (sI (sI (sI (sI (sI (sI (sI (sI h3 A 3 (hI h B 3)) A 4 (hI h B 4)) A 5 (hI h B 5)) A 6 (hI h B 6)) A 7 (hI h B 7)) A 8 (hI h B 8)) A 9 (hI h B 9)) A 10 (hI h B 10)) x = hI h3 x := fun x hx => by
    rw [hI_sIn _ _ _ _ _ hx, hI_sIn _ _ _ _ _ hx, hI_sIn _ _ _ _ _ hx, hI_sIn _ _ _ _ _ hx, hI_sIn _ _ _ _ _ hx, hI_sIn _ _ _ _ _ hx, hI_sIn _ _ _ _ _ hx, hI_sIn _ _ _ _ _ hx]
  have eH : ∀ i, i < 8 → hI h3 (A + 7 + 2 * i) = hI h2 (A + 7 + 2 * i) := fun i hi => (c2.2.2 _ (fun z => by have := z.1; omega)).1
  have eW : ∀ i, i < 8 → hI h3 (A + 8 + 2 * i) = hI h2 (A + 8 + 2 * i) ∧ hL h3 (A + 8 + 2 * i) = hL h2 (A + 8 + 2 * i) := fun i hi => ⟨(c2.2.2 _ (fun z => by have := z.1; omega)).1, (c2.2.2 _ (fun z => by have := z.1; omega)).2.1⟩
  refine ⟨R.1, ?_, fun k hk => ?_, fun i hi => ?_, fun i i1 i2 => ?_, fun j hj k hk => ?_⟩
  · simp only [hI_sI, true_and, show ((3 : Nat) = 4) = False from eq_false (by decide)]
    simp [v1, v2, v3, v4, v5, v6, v7, v8]
  · rw [iN _ (by omega), (c2.2.2 (A + 1) (fun z => by have := z.1; omega)).1, (b2.2.2 (A + 1) (fun z => by have := z.1; omega)).1, a4 k hk]
    exact R.2.2.1 k hk
  · have hi8 : i < 8 := by have := R.n8; omega
    obtain ⟨⟨g1, g2, g3, g4, g5, g6⟩, g7, g8, g9⟩ := b4 i hi8
    obtain ⟨q1, ⟨p1, p2, p3, p4, p5, p6⟩, q3⟩ := R.2.2.2.1 i hi
    have x1 := fB1 (B + 8 + 2 * i) (by omega) (by omega)
    have x2 := fB1 (B + 7 + 2 * i) (by omega) (by omega)
    rw [x1.1] at g1 g2 g3 g4 g5 g6
    rw [x1.2.1] at g7
    rw [x1.2.2] at g8
    rw [x2.1] at g9
    refine ⟨?_, ?_, ?_⟩
    · rw [iN _ (by omega), eH i hi8]
      obtain ⟨y1, y2, y3, y4, y5, y6, y7, y8, y9⟩ := g9
      rw [y1, y2, y3, y4, y5, y6, y7, y8, y9]
      exact q1
    · rw [iN _ (by omega), (eW i hi8).1]
      have eL : hL (sI (sI (sI (sI (sI (sI (sI (sI h3 A 3 (hI h B 3)) A 4 (hI h B 4)) A 5 (hI h B 5)) A 6 (hI h B 6)) A 7 (hI h B 7)) A 8 (hI h B 8)) A 9 (hI h B 9)) A 10 (hI h B 10)) (A + 8 + 2 * i) 6 = hL h2 (A + 8 + 2 * i) 6 := by
        show hL h3 (A + 8 + 2 * i) 6 = _
        rw [(eW i hi8).2]
      rw [eL, g1, g2, g3, g4, g5, g6, g7]
      exact ⟨p1, p2, p3, p4, p5, p6⟩
    · have eR : hR (sI (sI (sI (sI (sI (sI (sI (sI h3 A 3 (hI h B 3)) A 4 (hI h B 4)) A 5 (hI h B 5)) A 6 (hI h B 6)) A 7 (hI h B 7)) A 8 (hI h B 8)) A 9 (hI h B 9)) A 10 (hI h B 10)) (A + 8 + 2 * i) 0 = hR h (B + 8 + 2 * i) 0 := by
        show hR h3 (A + 8 + 2 * i) 0 = _
        rw [c3, g8]
      rw [eR]
      exact q3.ch F4.ch hPm (fun _ _ _ _ _ => rfl)
  · obtain ⟨⟨g1, g2, g3, g4, g5, g6⟩, g7, g8, g9⟩ := b4 i i2
    obtain ⟨q1, ⟨p1, p3, p4, p5, p6⟩, q3, q4, q5⟩ := R.2.2.2.2.1 i i1 i2
    have x1 := fB1 (B + 8 + 2 * i) (by omega) (by omega)
    have x2 := fB1 (B + 7 + 2 * i) (by omega) (by omega)
    rw [x1.1] at g1 g2 g3 g4 g5 g6
    rw [x1.2.1] at g7
    rw [x1.2.2] at g8
    rw [x2.1] at g9
    have eR : hR (sI (sI (sI (sI (sI (sI (sI (sI h3 A 3 (hI h B 3)) A 4 (hI h B 4)) A 5 (hI h B 5)) A 6 (hI h B 6)) A 7 (hI h B 7)) A 8 (hI h B 8)) A 9 (hI h B 9)) A 10 (hI h B 10)) (A + 8 + 2 * i) 0 = hR h (B + 8 + 2 * i) 0 := by
      show hR h3 (A + 8 + 2 * i) 0 = _
      rw [c3, g8]
    refine ⟨?_, ?_, ?_⟩
    · rw [iN _ (by omega), eH i i2]
      obtain ⟨y1, y2, y3, y4, y5, y6, y7, y8, y9⟩ := g9
      rw [y4, y5, y6, y7, y8, y9]
      exact q1
    · rw [iN _ (by omega), (eW i i2).1]
      have eL : hL (sI (sI (sI (sI (sI (sI (sI (sI h3 A 3 (hI h B 3)) A 4 (hI h B 4)) A 5 (hI h B 5)) A 6 (hI h B 6)) A 7 (hI h B 7)) A 8 (hI h B 8)) A 9 (hI h B 9)) A 10 (hI h B 10)) (A + 8 + 2 * i) 6 = hL h2 (A + 8 + 2 * i) 6 := by
        show hL h3 (A + 8 + 2 * i) 6 = _
        rw [(eW i i2).2]
      rw [eL, g1, g2, g5, g6, g7]
      exact ⟨p1, p3, p4, p5, p6⟩
    · rw [eR]
      exact ⟨q3, Nat.le_trans q4 (Nat.le_of_eq F4.2.1.symm), q5.ch F4.ch hPm q3 q4⟩
  · rw [iN _ (by omega), c4 j (by have := R.1.2.2.2; omega) k hk, fB2 _ (by omega) (by have := R.1.2.2.2; omega)]
    exact R.2.2.2.2.2 j hj k hk
