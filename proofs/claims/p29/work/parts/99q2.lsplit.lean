/-! the law's split -/
theorem sV_sI (h : Hp) (q o p l g : Row) {a : Nat} (ha : 245 < a) (k : Nat) (v : Int32) : sI (sV h q o p l g) a k v = sV (sI h a k v) q o p l g := by
  unfold sV sI
  refine Prod.ext ?_ rfl
  funext c j
  show up2 (hI (sV h q o p l g)) a k v c j = hI (sV (sI h a k v) q o p l g) c j
  by_cases e : c < 241 ∨ 245 < c
  · rw [hI_sVn _ _ _ _ _ _ _ e]
    unfold up2
    rw [hI_sVn _ _ _ _ _ _ _ e]
    rfl
  · unfold up2
    rw [if_neg (fun z => by omega)]
    rcases (show c = 241 ∨ c = 242 ∨ c = 243 ∨ c = 244 ∨ c = 245 by omega) with y | y | y | y | y <;> (subst y; rfl)
theorem sV_nO (h : Hp) (q o p l g : Row) (hN0 : 245 ≤ hN h) (c n : Nat) : nO (sV h q o p l g) c n = sV (nO h c n) q o p l g := by
  unfold sV nO
  refine Prod.ext ?_ rfl
  funext b
  show zr2 (hI (sV h q o p l g)) (hN h + 1) 0 b = hI (sV (nO h c n) q o p l g) b
  by_cases e : b < 241 ∨ 245 < b
  · rw [hI_sVn _ _ _ _ _ _ _ e]
    by_cases y : b = hN h + 1
    · rw [y, zr2_eq]
      exact (zr2_eq _ _ _).symm
    · rw [zr2_ne _ _ y, hI_sVn _ _ _ _ _ _ _ e]
      exact (zr2_ne _ _ y).symm
  · rw [zr2_ne _ _ (by omega)]
    rcases (show b = 241 ∨ b = 242 ∨ b = 243 ∨ b = 244 ∨ b = 245 by omega) with y | y | y | y | y <;> (subst y; rfl)
theorem LT5.sX {h : Hp} (T : LT5 h) (P : Nat) (f : Row) : LT5 (sX h P f) := T
/-- what the split stands on -/
def SPL (h : Hp) (P : Nat) (q o p l : Row) (want sh : Nat → Nat) : Prop :=
  LT5 h ∧ hT h P = (20, 3) ∧ 245 < P ∧ (∀ i, want i ≤ 250 ∧ sh i ≤ 1000 ∧ (3 ≤ i → want i = 0)) ∧
  ∀ i, i < 3 → ∀ (h : Hp) (g : Row), LT5 h → s_X10_want (nI i) 242 243 (sV h q o p l g) = some (nI (want i), sV h q o p l g) ∧ s_X10_shares (nI i) 241 242 244 (sV h q o p l g) = some (nI (sh i), sV h q o p l g)
theorem SPL.ld {h : Hp} {P : Nat} {q o p l : Row} {want sh : Nat → Nat} (A : SPL h P q o p l want sh) (f g : Row) {α : Type} {k : Nat} (hk : k < 3) (F : Int32 → Option α) : ldI (sV (sX h P f) q o p l g) P 20 (nI k) F = F (f k) := by
  have t : hT (sV (sX h P f) q o p l g) P = (20, 3) := A.2.1
  have e : hI (sV (sX h P f) q o p l g) P = f := by rw [hI_sVn _ _ _ _ _ _ _ (Or.inr A.2.2.1), hI_sX]
  simp only [ldI, t, e, nI_ge0 (show k < 2 ^ 31 by omega), nI_clamp (show k < 2 ^ 31 by omega), hk, true_and, and_self, if_true]
theorem SPL.st {h : Hp} {P : Nat} {q o p l : Row} {want sh : Nat → Nat} (A : SPL h P q o p l want sh) (f g : Row) {α : Type} {k : Nat} (hk : k < 3) (v : Int32) (F : Hp → Option α) : stI (sV (sX h P f) q o p l g) P 20 (nI k) v F = F (sV (sX h P (upd f k v)) q o p l g) := by
  have t : hT (sV (sX h P f) q o p l g) P = (20, 3) := A.2.1
  have e : sI (sV (sX h P f) q o p l g) P k v = sV (sX h P (upd f k v)) q o p l g := by rw [sV_sI _ _ _ _ _ _ A.2.2.1, sI_sX]
  simp only [stI, t, e, nI_ge0 (show k < 2 ^ 31 by omega), nI_clamp (show k < 2 ^ 31 by omega), hk, true_and, and_self, if_true]
theorem l_z {h : Hp} {P : Nat} {q o p l : Row} {want sh : Nat → Nat} (A : SPL h P q o p l want sh) {v6 : Int32} {k29 : Nat → Nat → Nat → Nat → Nat → Int32 → Nat → Hp → Rv Unit} {f g : Row} : ∃ g', (∀ i, i < 3 → g' i = nI 0) ∧ s_X10_split_L11 k29 100000 241 242 243 244 245 v6 P 0 (sV (sX h P f) q o p l g) = k29 241 242 243 244 245 v6 P (sV (sX h P f) q o p l g') := by
  have T := A.1.sX P f
  have st : ∀ x n (g : Row), x < 3 → s_X10_split_L11 k29 (n + 1) 241 242 243 244 245 v6 P (nI x) (sV (sX h P f) q o p l g) = s_X10_split_L11 k29 n 241 242 243 244 245 v6 P (nI (x + 1)) (sV (sX h P f) q o p l (upd g x 0)) := fun x n g hx => by
    rw [s_X10_split_L11, show (3 : Int32) = nI 3 from rfl, if_neg (by rw [nI_leE (by omega) (by omega)]; omega), wg_ T _ _ _ _ _ (by omega), nI_1]
  refine ⟨upd (upd (upd g 0 0) 1 0) 2 0, fun i hi => ?_, ?_⟩
  · rcases (show i = 0 ∨ i = 1 ∨ i = 2 by omega) with y | y | y <;> subst y
    · rw [upd_ne _ _ (by omega), upd_ne _ _ (by omega), upd_eq]; rfl
    · rw [upd_ne _ _ (by omega), upd_eq]; rfl
    · rw [upd_eq]; rfl
  · rw [show (0 : Int32) = nI 0 from rfl, show (100000 : Nat) = 99996 + 1 + 1 + 1 + 1 from rfl, st 0 _ _ (by omega), st (0 + 1) _ _ (by omega), st (0 + 1 + 1) _ _ (by omega), s_X10_split_L11, if_pos (by decide)]
    rfl
theorem l_sA {h : Hp} {P : Nat} {q o p l : Row} {want sh gn : Nat → Nat} (A : SPL h P q o p l want sh) {v6 v8 v9 v10 : Int32} {k101 : Nat → Nat → Nat → Nat → Nat → Int32 → Nat → Int32 → Int32 → Int32 → Hp → Rv Unit} {f g : Row} (hg : ∀ i, i < 3 → g i = nI (gn i)) (hl : ∀ i, gn i ≤ want i) {x n : Nat} (hx : x < 3) : s_X10_split_L54 k101 (n + 1) 241 242 243 244 245 v6 P v8 v9 v10 (nI x) (sV (sX h P f) q o p l g) = s_X10_split_L54 k101 n 241 242 243 244 245 v6 P v8 (if gn x < want x then v9 + nI (sh x) else v9) (if gn x < want x then nI x else v10) (nI x + (-1)) (sV (sX h P f) q o p l g) := by
  have T := A.1.sX P f
  obtain ⟨w1, w2⟩ := A.2.2.2.2 x hx (sX h P f) g T
  have b := A.2.2.2.1 x
  have c := hl x
  rw [s_X10_split_L54, if_neg (nI_pos (by omega)), vg_ T _ _ _ _ _ (by omega), w1, hg x hx]
  simp only [bnd, nI_eqE (show gn x < 2 ^ 31 by omega) (show want x < 2 ^ 31 by omega), w2]
  by_cases y : gn x < want x
  · rw [if_neg (by omega), if_pos y, if_pos y]
  · rw [if_pos (by omega), if_neg y, if_neg y]
theorem l_A {h : Hp} {P : Nat} {q o p l : Row} {want sh gn : Nat → Nat} (A : SPL h P q o p l want sh) {v6 v8 : Int32} {k101 : Nat → Nat → Nat → Nat → Nat → Int32 → Nat → Int32 → Int32 → Int32 → Hp → Rv Unit} {f g : Row} (hg : ∀ i, i < 3 → g i = nI (gn i)) (hl : ∀ i, gn i ≤ want i) : s_X10_split_L54 k101 100000 241 242 243 244 245 v6 P v8 0 (-1) 2 (sV (sX h P f) q o p l g) = k101 241 242 243 244 245 v6 P v8 (nI (allF want sh gn 3 0)) (if lowF want gn 3 0 = 8 then -1 else nI (lowF want gn 3 0)) (sV (sX h P f) q o p l g) := by
  rw [show (2 : Int32) = nI 2 from rfl, show (100000 : Nat) = 99996 + 1 + 1 + 1 + 1 from rfl, l_sA A hg hl (by omega), show nI 2 + (-1) = nI 1 from by decide, l_sA A hg hl (by omega), show nI 1 + (-1) = nI 0 from by decide, l_sA A hg hl (by omega), s_X10_split_L54, if_pos (by decide)]
  unfold allF allF allF allF lowF lowF lowF lowF
  rw [show (0 : Int32) = nI 0 from rfl]
  by_cases c0 : gn 0 < want 0 <;> by_cases c1 : gn (0 + 1) < want (0 + 1) <;> by_cases c2 : gn (0 + 1 + 1) < want (0 + 1 + 1)
  all_goals (simp only [Nat.zero_add, Nat.reduceAdd] at c1 c2; simp only [Nat.zero_add, Nat.reduceAdd, c0, c1, c2, if_true, if_false, nI_add, Nat.add_zero, Nat.zero_add, show ((0 : Nat) = 8) = False from eq_false (by decide), show ((1 : Nat) = 8) = False from eq_false (by decide), show ((2 : Nat) = 8) = False from eq_false (by decide)])
  all_goals (first | done | rfl | rw [show sh 2 + sh 1 + sh 0 = sh 0 + (sh 1 + sh 2) by omega] | rw [show sh 2 + sh 1 = sh 1 + sh 2 by omega] | rw [show sh 2 + sh 0 = sh 0 + sh 2 by omega] | rw [show sh 1 + sh 0 = sh 0 + sh 1 by omega])
theorem l_sB {h : Hp} {P : Nat} {q o p l : Row} {want sh gn : Nat → Nat} (A : SPL h P q o p l want sh) {v6 v8 v10 : Int32} {all beg : Nat} (ha : all < 2 ^ 20) (hb : beg ≤ 2000) {k222 : Nat → Nat → Nat → Nat → Nat → Int32 → Nat → Int32 → Int32 → Hp → Rv Unit} {f g : Row} (hg : ∀ i, i < 3 → g i = nI (gn i)) (hl : ∀ i, gn i ≤ want i) {x n : Nat} (hx : x < 3) : s_X10_split_L114 k222 (n + 1) 241 242 243 244 245 v6 P v8 (nI all) v10 (nI beg) (nI x) (sV (sX h P f) q o p l g) = s_X10_split_L114 k222 n 241 242 243 244 245 v6 P v8 (nI all) v10 (nI beg) (nI (x + 1)) (sV (sX h P (upd f x (nI (prt want sh all beg (gn x) x)))) q o p l g) := by
  have b := A.2.2.2.1 x
  have c := hl x
  have wsh : ∀ f g, s_X10_want (nI x) 242 243 (sV (sX h P f) q o p l g) = some (nI (want x), sV (sX h P f) q o p l g) ∧ s_X10_shares (nI x) 241 242 244 (sV (sX h P f) q o p l g) = some (nI (sh x), sV (sX h P f) q o p l g) := fun f g => A.2.2.2.2 x hx (sX h P f) g (A.1.sX P f)
  have vg : ∀ f {α : Type} (F : Int32 → Option α), ldI (sV (sX h P f) q o p l g) 245 20 (nI x) F = F (nI (gn x)) := fun f α F => by rw [vg_ (A.1.sX P f) _ _ _ _ _ (by omega), hg x hx]
  rw [s_X10_split_L114, show (3 : Int32) = nI 3 from rfl, if_neg (by rw [nI_leE (by omega) (by omega)]; omega), A.st _ _ hx, vg, (wsh _ _).1]
  simp only [bnd, nI_eqE (show gn x < 2 ^ 31 by omega) (show want x < 2 ^ 31 by omega), nI_1]
  by_cases y : gn x < want x
  · rw [if_neg (by omega)]
    by_cases z : all = 0
    · rw [if_pos (by rw [z]; rfl)]
      unfold prt
      rw [if_pos z, Nat.zero_min]
      rfl
    · have hm : beg * sh x ≤ 2000 * 1000 := Nat.mul_le_mul hb b.2.1
      have hd : beg * sh x / all ≤ beg * sh x := Nat.div_le_self _ _
      rw [if_neg (fun w => z ((nI_0' all (by omega)).mp w)), (wsh _ _).2]
      simp only [bnd]
      unfold divI
      rw [if_neg (fun w => z ((nI_0' all (by omega)).mp w)), nI_mul, nI_div (by omega) (by omega) z]
      dsimp only
      rw [A.st _ _ hx, A.ld _ _ hx, (wsh _ _).1]
      simp only [bnd, upd_eq, vg]
      rw [nI_sub c]
      have cmp : (nI (beg * sh x / all) ≤ nI (want x - gn x)) = (beg * sh x / all ≤ want x - gn x) := nI_leE (by omega) (by omega)
      unfold prt
      rw [if_neg z]
      by_cases r : beg * sh x / all ≤ want x - gn x
      · rw [if_pos (cmp ▸ r), A.ld _ _ hx, upd_eq, A.st _ _ hx, Nat.min_eq_left r]
        rw [upd_upd, upd_upd]
      · rw [if_neg (fun y => r (cmp ▸ y))]
        rw [(wsh _ _).1]
        simp only [bnd, vg]
        rw [nI_sub c, A.st _ _ hx, Nat.min_eq_right (by omega), upd_upd, upd_upd]
  · rw [if_pos (by omega), prt_0 y]
    rfl
theorem l_B {h : Hp} {P : Nat} {q o p l : Row} {want sh gn : Nat → Nat} (A : SPL h P q o p l want sh) {v6 v8 v10 : Int32} {all beg : Nat} (ha : all < 2 ^ 20) (hb : beg ≤ 2000) {k222 : Nat → Nat → Nat → Nat → Nat → Int32 → Nat → Int32 → Int32 → Hp → Rv Unit} {f g : Row} (hg : ∀ i, i < 3 → g i = nI (gn i)) (hl : ∀ i, gn i ≤ want i) : ∃ f', (∀ i, i < 3 → f' i = nI (prt want sh all beg (gn i) i)) ∧ s_X10_split_L114 k222 100000 241 242 243 244 245 v6 P v8 (nI all) v10 (nI beg) 0 (sV (sX h P f) q o p l g) = k222 241 242 243 244 245 v6 P v8 v10 (sV (sX h P f') q o p l g) := by
  refine ⟨upd (upd (upd f 0 (nI (prt want sh all beg (gn 0) 0))) (0 + 1) (nI (prt want sh all beg (gn (0 + 1)) (0 + 1)))) (0 + 1 + 1) (nI (prt want sh all beg (gn (0 + 1 + 1)) (0 + 1 + 1))), fun i hi => ?_, ?_⟩
  · rcases (show i = 0 ∨ i = 1 ∨ i = 2 by omega) with y | y | y <;> subst y
    · rw [upd_ne _ _ (by omega), upd_ne _ _ (by omega), upd_eq]
    · rw [upd_ne _ _ (by omega), show (1 : Nat) = 0 + 1 from rfl, upd_eq]
    · rw [show (2 : Nat) = 0 + 1 + 1 from rfl, upd_eq]
  · rw [show (0 : Int32) = nI 0 from rfl, show (100000 : Nat) = 99996 + 1 + 1 + 1 + 1 from rfl, l_sB A ha hb hg hl (by omega), l_sB A ha hb hg hl (by omega), l_sB A ha hb hg hl (by omega), s_X10_split_L114, if_pos (by decide)]
theorem l_sC {h : Hp} {P : Nat} {q o p l : Row} {want sh : Nat → Nat} (A : SPL h P q o p l want sh) {v6 v8 : Int32} {k283 : Nat → Nat → Nat → Nat → Nat → Int32 → Nat → Int32 → Hp → Rv Unit} {f g : Row} {x n : Nat} (hx : x < 3) : s_X10_split_L248 k283 (n + 1) 241 242 243 244 245 v6 P v8 (nI x) (sV (sX h P f) q o p l g) = s_X10_split_L248 k283 n 241 242 243 244 245 (v6 - f x) P v8 (nI (x + 1)) (sV (sX h P f) q o p l (upd g x (g x + f x))) := by
  have T := A.1.sX P f
  rw [s_X10_split_L248, show (3 : Int32) = nI 3 from rfl, if_neg (by rw [nI_leE (by omega) (by omega)]; omega), vg_ T _ _ _ _ _ (by omega), A.ld _ _ hx, wg_ T _ _ _ _ _ (by omega), A.ld _ _ hx, nI_1]
theorem l_C {h : Hp} {P : Nat} {q o p l : Row} {want sh gn fn : Nat → Nat} (A : SPL h P q o p l want sh) {v8 : Int32} {l0 : Nat} {k283 : Nat → Nat → Nat → Nat → Nat → Int32 → Nat → Int32 → Hp → Rv Unit} {f g : Row} (hg : ∀ i, i < 3 → g i = nI (gn i)) (hf : ∀ i, i < 3 → f i = nI (fn i)) (hs : fn 0 + fn 1 + fn 2 ≤ l0) : ∃ g', (∀ i, i < 3 → g' i = nI (gn i + fn i)) ∧ s_X10_split_L248 k283 100000 241 242 243 244 245 (nI l0) P v8 0 (sV (sX h P f) q o p l g) = k283 241 242 243 244 245 (nI (l0 - (fn 0 + fn 1 + fn 2))) P v8 (sV (sX h P f) q o p l g') := by
  refine ⟨upd (upd (upd g 0 (g 0 + f 0)) (0 + 1) (upd g 0 (g 0 + f 0) (0 + 1) + f (0 + 1))) (0 + 1 + 1) (upd (upd g 0 (g 0 + f 0)) (0 + 1) (upd g 0 (g 0 + f 0) (0 + 1) + f (0 + 1)) (0 + 1 + 1) + f (0 + 1 + 1)), fun i hi => ?_, ?_⟩
  · rcases (show i = 0 ∨ i = 1 ∨ i = 2 by omega) with y | y | y <;> subst y
    · rw [upd_ne _ _ (by omega), upd_ne _ _ (by omega), upd_eq, hg 0 hi, hf 0 hi, nI_add]
    · rw [upd_ne _ _ (by omega), show (1 : Nat) = 0 + 1 from rfl, upd_eq, upd_ne _ _ (by omega), hg _ hi, hf _ hi, nI_add]
    · rw [show (2 : Nat) = 0 + 1 + 1 from rfl, upd_eq, upd_ne _ _ (by omega), upd_ne _ _ (by omega), hg _ hi, hf _ hi, nI_add]
  · rw [show (0 : Int32) = nI 0 from rfl, show (100000 : Nat) = 99996 + 1 + 1 + 1 + 1 from rfl, l_sC A (by omega), l_sC A (by omega), l_sC A (by omega), s_X10_split_L248, if_pos (by decide)]
    rw [hf 0 (by omega), show 0 + 1 = 1 from rfl, hf 1 (by omega), show 1 + 1 = 2 from rfl, hf 2 (by omega), nI_sub (by omega), nI_sub (by omega), nI_sub (by omega), show l0 - fn 0 - fn 1 - fn 2 = l0 - (fn 0 + fn 1 + fn 2) by omega]
theorem three {want g : Nat → Nat} (hw : ∀ i, 3 ≤ i → want i = 0) : ∀ i, 0 + 3 ≤ i → i < 0 + 3 + 5 → ¬ g i < want i := fun i h1 _ => by rw [hw i (by omega)]; omega
theorem l_L32 {h : Hp} {P : Nat} {q o p l : Row} {want sh : Nat → Nat} (A : SPL h P q o p l want sh) : ∀ (l0 fu r : Nat) (gn : Nat → Nat) (f g : Row), l0 < fu → r + l0 ≤ 2000 → (∀ i, i < 3 → g i = nI (gn i)) → (∀ i, gn i ≤ want i) →
    ∃ f' g', s_X10_split_L32 fu 241 242 243 244 245 (nI l0) P (nI r) (sV (sX h P f) q o p l g) = some ((), sV (sX h P f') q o p l g') ∧ ∀ i, i < 3 → g' i = nI ((splN want sh l0 gn l0).1 i) := by
  intro l0
  induction l0 using Nat.strongRecOn with
  | ind l0 ih =>
    intro fu r gn f g hf hr hg hl
    obtain ⟨m, rfl, hm⟩ := fuel_succ hf
    rw [s_X10_split_L32]
    by_cases h0 : l0 = 0
    · subst h0
      refine ⟨f, g, ?_, fun i hi => hg i hi⟩
      by_cases q : (2000 : Int32) ≤ nI r
      · rw [if_pos q]; rfl
      · rw [if_neg q, if_pos (show nI 0 ≤ 0 by decide)]; rfl
    · have c1 : ¬ ((2000 : Int32) ≤ nI r) := by
        rw [show (2000 : Int32) = nI 2000 from rfl, nI_leE (by omega) (by omega)]
        omega
      have c2 : ¬ (nI l0 ≤ 0) := by
        rw [show (0 : Int32) = nI 0 from rfl, nI_leE (by omega) (by omega)]
        omega
      rw [if_neg c1, if_neg c2, l_A A hg hl]
      obtain ⟨l', rfl⟩ : ∃ l', l0 = l' + 1 := ⟨l0 - 1, by omega⟩
      have hw : ∀ i, 3 ≤ i → want i = 0 := fun i hi => (A.2.2.2.1 i).2.2 hi
      have eL : lowF want gn 8 0 = lowF want gn 3 0 := lowF_ext 3 5 0 (three hw)
      have eA : allF want sh gn 8 0 = allF want sh gn 3 0 := allF_ext 3 5 0 (three hw)
      by_cases h8 : lowF want gn 3 0 = 8
      · rw [if_pos h8, if_neg (by decide)]
        refine ⟨f, g, rfl, fun i hi => ?_⟩
        have e : splN want sh (l' + 1) gn (l' + 1) = (gn, l' + 1) := by
          unfold splN
          rw [if_pos (Or.inr (eL.trans h8))]
        rw [e]
        exact hg i hi
      · rcases lowF_is (want := want) (g := gn) 3 0 (by omega) with ⟨a, -⟩ | ⟨a, b, c, -⟩
        · exact absurd a h8
        · have ha := allF_le (want := want) (g := gn) (fun i hi => (A.2.2.2.1 i).2.1) 3 0 (by omega)
          rw [if_neg h8, if_pos (nI_pos' (by omega))]
          obtain ⟨f1, hf1, e1⟩ := l_B A (v6 := nI (l' + 1)) (v8 := nI r) (v10 := nI (lowF want gn 3 0)) (all := allF want sh gn 3 0) (beg := l' + 1) (by omega) (by omega) (k222 := fun y0 y1 y2 y3 y4 y5 y6 y7 y8 h => ldI h y6 20 0 fun x15 =>
            ldI h y6 20 1 fun x16 =>
            ldI h y6 20 2 fun x17 =>
            if ((x15 + x16) + x17) = 0 then stI h y6 20 y8 1 fun h =>
            s_X10_split_L248 (fun y0 y1 y2 y3 y4 y5 y6 y7 h => s_X10_split_L32 m y0 y1 y2 y3 y4 y5 y6 (y7 + 1) h) 100000 y0 y1 y2 y3 y4 y5 y6 y7 0 h
            else s_X10_split_L248 (fun y0 y1 y2 y3 y4 y5 y6 y7 h => s_X10_split_L32 m y0 y1 y2 y3 y4 y5 y6 (y7 + 1) h) 100000 y0 y1 y2 y3 y4 y5 y6 y7 0 h) (f := f) (g := g) hg hl
          rw [e1]
          have x0 := fun {α : Type} (F : Int32 → Option α) => A.ld f1 g (k := 0) (by omega) F
          have x1 := fun {α : Type} (F : Int32 → Option α) => A.ld f1 g (k := 1) (by omega) F
          have x2 := fun {α : Type} (F : Int32 → Option α) => A.ld f1 g (k := 2) (by omega) F
          rw [show (0 : Int32) = nI 0 from rfl, show (1 : Int32) = nI 1 from rfl, show (2 : Int32) = nI 2 from rfl, x0, x1, x2, hf1 0 (by omega), hf1 1 (by omega), hf1 2 (by omega), nI_add, nI_add]
          have gv : gvF want sh gn (allF want sh gn 3 0) (l' + 1) 3 0 = prt want sh (allF want sh gn 3 0) (l' + 1) (gn 0) 0 + prt want sh (allF want sh gn 3 0) (l' + 1) (gn 1) 1 + prt want sh (allF want sh gn 3 0) (l' + 1) (gn 2) 2 := by
            show prt want sh (allF want sh gn 3 0) (l' + 1) (gn 0) 0 + (prt want sh (allF want sh gn 3 0) (l' + 1) (gn 1) 1 + (prt want sh (allF want sh gn 3 0) (l' + 1) (gn 2) 2 + 0)) = _
            omega
          have gle : gvF want sh gn (allF want sh gn 3 0) (l' + 1) 3 0 ≤ l' + 1 := gv_left 3 0
          have gv8 : gvF want sh gn (allF want sh gn 8 0) (l' + 1) 8 0 = gvF want sh gn (allF want sh gn 3 0) (l' + 1) 3 0 := by
            rw [eA]
            exact gvF_ext 3 5 0 (three hw)
          have pl : ∀ i, i < 3 → prt want sh (allF want sh gn 3 0) (l' + 1) (gn i) i ≤ want i - gn i := fun i _ => Nat.min_le_right _ _
          rw [← gv]
          have fin : ∀ (fn : Nat → Nat) (f2 : Row), (∀ i, i < 3 → f2 i = nI (fn i)) → fn 0 + fn 1 + fn 2 ≤ l' + 1 → fn 0 + fn 1 + fn 2 ≠ 0 → (∀ i, i < 3 → (rnd want sh gn (l' + 1)).1 i = gn i + fn i) → (rnd want sh gn (l' + 1)).2 = l' + 1 - (fn 0 + fn 1 + fn 2) →
              ∃ f' g', s_X10_split_L248 (fun y0 y1 y2 y3 y4 y5 y6 y7 h => s_X10_split_L32 m y0 y1 y2 y3 y4 y5 y6 (y7 + nI 1) h) 100000 241 242 243 244 245 (nI (l' + 1)) P (nI r) (nI 0) (sV (sX h P f2) q o p l g) = some ((), sV (sX h P f') q o p l g') ∧ ∀ i, i < 3 → g' i = nI ((splN want sh (l' + 1) gn (l' + 1)).1 i) := fun fn f2 hf2 s1 s2 r1 r2 => by
            obtain ⟨g2, hg2, e2⟩ := l_C A (v8 := nI r) (l0 := l' + 1) (k283 := fun y0 y1 y2 y3 y4 y5 y6 y7 h => s_X10_split_L32 m y0 y1 y2 y3 y4 y5 y6 (y7 + nI 1) h) (f := f2) (g := g) hg hf2 s1
            rw [show nI 0 = (0 : Int32) from rfl, e2]
            rw [nI_add]
            have es : splN want sh (l' + 1) gn (l' + 1) = splN want sh l' (rnd want sh gn (l' + 1)).1 (rnd want sh gn (l' + 1)).2 := by
              conv => lhs; unfold splN
              rw [if_neg (fun z => z.elim (fun y => h0 y) (fun y => h8 (eL.symm.trans y)))]
            have lt := rnd_lt (want := want) (sh := sh) (g := gn) h0
            have rle := rnd_le (want := want) (sh := sh) (l := l' + 1) hl (fun y => h8 (eL.symm.trans y))
            rw [es, splN_stable l' (rnd want sh gn (l' + 1)).2 _ _ (by omega) (Nat.le_refl _), ← r2]
            exact ih _ lt m (r + 1) (rnd want sh gn (l' + 1)).1 f2 g2 (by omega) (by omega) (fun i hi => by rw [hg2 i hi, r1 i hi]) rle
          by_cases gz : gvF want sh gn (allF want sh gn 3 0) (l' + 1) 3 0 = 0
          · rw [gz, if_pos rfl, A.st _ _ (show lowF want gn 3 0 < 3 by omega)]
            have p0 : ∀ i, i < 3 → prt want sh (allF want sh gn 3 0) (l' + 1) (gn i) i = 0 := fun i hi => by
              rcases (show i = 0 ∨ i = 1 ∨ i = 2 by omega) with y | y | y <;> (subst y; omega)
            refine fin (fun i => if i = lowF want gn 3 0 then 1 else 0) _ (fun i hi => ?_) ?_ ?_ (fun i hi => ?_) ?_
            · by_cases y : i = lowF want gn 3 0
              · rw [y, upd_eq, if_pos rfl]
              · rw [upd_ne _ _ y, hf1 i hi, p0 i hi, if_neg y]
            · rcases (show lowF want gn 3 0 = 0 ∨ lowF want gn 3 0 = 1 ∨ lowF want gn 3 0 = 2 by omega) with y | y | y <;> (rw [y]; simp)
            · rcases (show lowF want gn 3 0 = 0 ∨ lowF want gn 3 0 = 1 ∨ lowF want gn 3 0 = 2 by omega) with y | y | y <;> (rw [y]; simp)
            · unfold rnd
              rw [gv8, if_pos gz, eL]
              show (if i = lowF want gn 3 0 then gn (lowF want gn 3 0) + 1 else gn i) = gn i + (if i = lowF want gn 3 0 then 1 else 0)
              by_cases y : i = lowF want gn 3 0
              · rw [if_pos y, if_pos y, y]
              · rw [if_neg y, if_neg y]; rfl
            · unfold rnd
              rw [gv8, if_pos gz]
              rcases (show lowF want gn 3 0 = 0 ∨ lowF want gn 3 0 = 1 ∨ lowF want gn 3 0 = 2 by omega) with y | y | y <;> (rw [y]; simp)
          · have gn0 : ¬ nI (gvF want sh gn (allF want sh gn 3 0) (l' + 1) 3 0) = nI 0 := fun z => gz ((nI_0' _ (by omega)).mp z)
            rw [if_neg gn0]
            refine fin (fun i => prt want sh (allF want sh gn 3 0) (l' + 1) (gn i) i) f1 hf1 ?_ ?_ (fun i hi => ?_) ?_
            · show prt want sh (allF want sh gn 3 0) (l' + 1) (gn 0) 0 + prt want sh (allF want sh gn 3 0) (l' + 1) (gn 1) 1 + prt want sh (allF want sh gn 3 0) (l' + 1) (gn 2) 2 ≤ l' + 1
              omega
            · show prt want sh (allF want sh gn 3 0) (l' + 1) (gn 0) 0 + prt want sh (allF want sh gn 3 0) (l' + 1) (gn 1) 1 + prt want sh (allF want sh gn 3 0) (l' + 1) (gn 2) 2 ≠ 0
              omega
            · unfold rnd
              rw [gv8, if_neg gz, eA]
              show giveF want sh gn (allF want sh gn 3 0) (l' + 1) 8 0 i = _
              unfold giveF
              rw [if_pos (by omega)]
            · unfold rnd
              rw [gv8, if_neg gz]
              show l' + 1 - _ = l' + 1 - (prt want sh (allF want sh gn 3 0) (l' + 1) (gn 0) 0 + prt want sh (allF want sh gn 3 0) (l' + 1) (gn 1) 1 + prt want sh (allF want sh gn 3 0) (l' + 1) (gn 2) 2)
              rw [← gv]
/-- the whole split of the law -/
theorem l_split {h : Hp} (S5 : LT5 h) (hN0 : 245 ≤ hN h) (q o p l g : Row) {want sh : Nat → Nat} (hb : ∀ i, want i ≤ 250 ∧ sh i ≤ 1000 ∧ (3 ≤ i → want i = 0)) (hw : ∀ i, i < 3 → ∀ (h : Hp) (g : Row), LT5 h → s_X10_want (nI i) 242 243 (sV h q o p l g) = some (nI (want i), sV h q o p l g) ∧ s_X10_shares (nI i) 241 242 244 (sV h q o p l g) = some (nI (sh i), sV h q o p l g)) {l0 : Nat} (hl : l0 ≤ 2000) :
    ∃ h' g', s_X10_split (nI l0) 241 242 243 244 245 (sV h q o p l g) = some ((), sV h' q o p l g') ∧ Ch NoC h h' ∧ ∀ i, i < 3 → g' i = nI ((splN want sh l0 zeroN l0).1 i) := by
  obtain ⟨P, hP⟩ : ∃ P, P = hN h + 1 := ⟨_, rfl⟩
  have c1 : Ch NoC h (nO h 20 3) := ch_nO Ch.rfl' 20 3
  have T1 : LT5 (nO h 20 3) := by
    obtain ⟨t1, t2, t3, t4, t5⟩ := S5
    have t : ∀ b, b ≤ 245 → hT (nO h 20 3) b = hT h b := fun b hb => c1.2.1 b (by omega)
    exact ⟨by rw [t _ (by omega)]; exact t1, by rw [t _ (by omega)]; exact t2, by rw [t _ (by omega)]; exact t3, by rw [t _ (by omega)]; exact t4, by rw [t _ (by omega)]; exact t5⟩
  have A : SPL (nO h 20 3) P q o p l want sh := by
    refine ⟨T1, ?_, by omega, hb, hw⟩
    show (if P = hN h + 1 then (20, 3) else hT h P) = (20, 3)
    rw [if_pos hP]
  obtain ⟨g1, hg1, e1⟩ := l_z A (v6 := nI l0) (k29 := fun y0 y1 y2 y3 y4 y5 y6 h => s_X10_split_L32 100000 y0 y1 y2 y3 y4 y5 y6 0 h) (f := hI (nO h 20 3) P) (g := g)
  obtain ⟨f', g', e2, hg2⟩ := l_L32 A l0 100000 0 zeroN (hI (nO h 20 3) P) g1 (by omega) (by omega) hg1 (fun i => Nat.zero_le _)
  refine ⟨sX (nO h 20 3) P f', g', ?_, ?_, hg2⟩
  · unfold s_X10_split newA
    rw [if_pos (by decide), show (3 : Int32).toNatClampNeg = 3 from by decide, hN_sV, ← hP, sV_nO _ _ _ _ _ _ hN0]
    rw [sX_self] at e1 e2
    refine e1.trans ?_
    exact e2
  · refine ⟨c1.1, c1.2.1, fun x hx hp => ?_⟩
    obtain ⟨d1, d2, d3⟩ := c1.2.2 x hx hp
    exact ⟨(hI_sXn _ _ _ _ (by omega)).trans d1, d2, d3⟩
