/-! the law's minute: the leases, the whole -/
theorem LL.dec {l w : Row} {nl j : Nat} (A : LL l w nl) (hj : j < nl) : LL (upd l (5 * j + 3) (l (5 * j + 3) - 1)) (decL w j) nl := by
  intro i hi k hk
  unfold decL
  by_cases z : i = j ∧ k = 3
  · obtain ⟨rfl, rfl⟩ := z
    rw [upd_eq, upd_eq, A i hi 3 (by omega)]
  · rw [upd_ne _ _ (by omega), upd_ne _ _ (by omega)]
    exact A i hi k hk
theorem LL.cp {l w : Row} {nl j m c : Nat} (A : LL l w nl) (hj : j < nl) (hm : m < nl) (hc : c < 5) : LL (upd l (5 * m + c) (l (5 * j + c))) (cpS w j m c) nl := by
  intro i hi k hk
  by_cases z : i = m ∧ k = c
  · obtain ⟨rfl, rfl⟩ := z
    rw [upd_eq, cpS_eq, A j hj k hk]
  · rw [upd_ne _ _ (by omega), cpS_ne _ (by omega)]
    exact A i hi k hk
theorem l_cp1 {h : Hp} (T : LT5 h) (q o p g : Row) {l : Row} {j m c n : Nat} {v5 : Int32} {k394 : Nat → Nat → Int32 → Int32 → Int32 → Hp → Rv Int32} (hj : j < 4) (hm : m < 4) (hc : c < 5) (hpos : ¬ l (5 * j + 3) ≤ 0) : s_X10_minute_L353 k394 (n + 1) 241 244 v5 (nI m) (nI j) (nI c) (sV h q o p l g) = s_X10_minute_L353 k394 n 241 244 v5 (nI m) (nI j) (nI (c + 1)) (sV h q o p (upd l (5 * m + c) (l (5 * j + c))) g) := by
  rw [s_X10_minute_L353, show (5 : Int32) = nI 5 from rfl, if_neg (by rw [nI_leE (by omega) (by omega)]; omega)]
  simp only [show nI 5 = (5 : Int32) from rfl, vl_3 T _ _ _ _ _ hj, vl_c T _ _ _ _ _ hj hc, wl_c T _ _ _ _ _ hm hc, nI_1]
  rw [if_neg hpos]
theorem cp_keep {l : Row} {j m c : Nat} (hc : c < 5) : upd l (5 * m + c) (l (5 * j + c)) (5 * j + 3) = l (5 * j + 3) ∨ (m ≠ j ∧ 5 * m + c = 5 * j + 3) := by
  by_cases z : 5 * j + 3 = 5 * m + c
  · by_cases y : m = j
    · left
      subst y
      have : c = 3 := by omega
      subst this
      exact upd_eq _ _ _
    · exact Or.inr ⟨y, z.symm⟩
  · exact Or.inl (upd_ne _ _ z)
theorem l_cp5 {h : Hp} (T : LT5 h) (q o p g : Row) {l w : Row} {j m nl : Nat} {v5 : Int32} {k394 : Nat → Nat → Int32 → Int32 → Int32 → Hp → Rv Int32} (hn : nl ≤ 4) (hj : j < nl) (hm : m ≤ j) (A : LL l w nl) (hpos : ¬ l (5 * j + 3) ≤ 0) :
    ∃ l', s_X10_minute_L353 k394 100000 241 244 v5 (nI m) (nI j) 0 (sV h q o p l g) = k394 241 244 v5 (nI m) (nI j) (sV h q o p l' g) ∧ LL l' (cpL w j m) nl ∧ l' (5 * j + 3) = l (5 * j + 3) := by
  have ck : ∀ (l : Row) c, c < 5 → upd l (5 * m + c) (l (5 * j + c)) (5 * j + 3) = l (5 * j + 3) := fun l c hc => by
    rcases cp_keep (l := l) (j := j) (m := m) hc with z | ⟨z1, z2⟩
    · exact z
    · omega
  have j4 : j < 4 := by omega
  have m4 : m < 4 := by omega
  have e0 := ck l 0 (by omega)
  have p0 : ¬ upd l (5 * m + 0) (l (5 * j + 0)) (5 * j + 3) ≤ 0 := by rw [e0]; exact hpos
  have e1 := ck (upd l (5 * m + 0) (l (5 * j + 0))) 1 (by omega)
  have p1 := fun z => p0 (e1 ▸ z)
  have e2 := ck (upd (upd l (5 * m + 0) (l (5 * j + 0))) (5 * m + 1) (upd l (5 * m + 0) (l (5 * j + 0)) (5 * j + 1))) 2 (by omega)
  have p2 := fun z => p1 (e2 ▸ z)
  obtain ⟨l1, hl1⟩ : ∃ l1, l1 = upd l (5 * m + 0) (l (5 * j + 0)) := ⟨_, rfl⟩
  obtain ⟨l2, hl2⟩ : ∃ l2, l2 = upd l1 (5 * m + 1) (l1 (5 * j + 1)) := ⟨_, rfl⟩
  obtain ⟨l3, hl3⟩ : ∃ l3, l3 = upd l2 (5 * m + 2) (l2 (5 * j + 2)) := ⟨_, rfl⟩
  obtain ⟨l4, hl4⟩ : ∃ l4, l4 = upd l3 (5 * m + 3) (l3 (5 * j + 3)) := ⟨_, rfl⟩
  obtain ⟨l5, hl5⟩ : ∃ l5, l5 = upd l4 (5 * m + 4) (l4 (5 * j + 4)) := ⟨_, rfl⟩
  have k1 : l1 (5 * j + 3) = l (5 * j + 3) := by rw [hl1]; exact ck l 0 (by omega)
  have k2 : l2 (5 * j + 3) = l (5 * j + 3) := by rw [hl2, ck l1 1 (by omega), k1]
  have k3 : l3 (5 * j + 3) = l (5 * j + 3) := by rw [hl3, ck l2 2 (by omega), k2]
  have k4 : l4 (5 * j + 3) = l (5 * j + 3) := by rw [hl4, ck l3 3 (by omega), k3]
  have k5 : l5 (5 * j + 3) = l (5 * j + 3) := by rw [hl5, ck l4 4 (by omega), k4]
  refine ⟨l5, ?_, ?_, k5⟩
  · rw [show (0 : Int32) = nI 0 from rfl, show (100000 : Nat) = 99994 + 1 + 1 + 1 + 1 + 1 + 1 from rfl, l_cp1 T q o p g j4 m4 (by omega) hpos, ← hl1, l_cp1 T q o p g j4 m4 (by omega) (by rw [k1]; exact hpos), ← hl2, l_cp1 T q o p g j4 m4 (by omega) (by rw [k2]; exact hpos), ← hl3, l_cp1 T q o p g j4 m4 (by omega) (by rw [k3]; exact hpos), ← hl4, l_cp1 T q o p g j4 m4 (by omega) (by rw [k4]; exact hpos), ← hl5, s_X10_minute_L353, if_pos (by decide)]
  · rw [hl5, hl4, hl3, hl2, hl1]
    unfold cpL
    exact (((((A.cp hj (by omega) (by omega)).cp hj (by omega) (by omega)).cp hj (by omega) (by omega)).cp hj (by omega) (by omega)).cp hj (by omega) (by omega))
theorem l_leaseL {h : Hp} (T : LT5 h) (q o p g : Row) {nl : Nat} {v5 : Int32} (hn : nl ≤ 4) (hq : q 7 = nI nl) : ∀ (d j m f : Nat) (l w : Row), j + d = nl → m ≤ j → d < f → LL l w nl →
    ∃ l', s_X10_minute_L329 f 241 244 v5 (nI m) (nI j) (sV h q o p l g) = some (v5, sV h (upd (upd q 7 (nI (lsF d j m w).2)) 0 (q 0 + 1)) o p l' g) ∧ LL l' (lsF d j m w).1 nl
  | 0, j, m, f, l, w, hj, hm, hf, A => by
    obtain ⟨n, rfl, -⟩ := fuel_succ hf
    refine ⟨l, ?_, A⟩
    rw [s_X10_minute_L329]
    simp only [vq_7 T, hq, nI_leE (show nl < 2 ^ 31 by omega) (show j < 2 ^ 31 by omega), show nl ≤ j by omega, if_true, wq_7 T, vq_0 T, wq_0 T, upd_ne q (k := 7) _ (show (0 : Nat) ≠ 7 by omega)]
    rfl
  | d + 1, j, m, f, l, w, hj, hm, hf, A => by
    obtain ⟨n, rfl, hnn⟩ := fuel_succ hf
    have j4 : j < 4 := by omega
    have jn : j < nl := by omega
    have A1 := A.dec jn
    have ev : upd l (5 * j + 3) (l (5 * j + 3) - 1) (5 * j + 3) = decL w j (351 + 5 * j + 3) := A1 j jn 3 (by omega)
    rw [s_X10_minute_L329]
    simp only [vq_7 T, hq, nI_leE (show nl < 2 ^ 31 by omega) (show j < 2 ^ 31 by omega), show ¬ (nl ≤ j) by omega, if_false, vl_3 T _ _ _ _ _ j4, wl_3 T _ _ _ _ _ j4]
    generalize hl1 : upd l (5 * j + 3) (l (5 * j + 3) - 1) = l1 at *
    unfold lsF
    by_cases z : decL w j (351 + 5 * j + 3) ≤ 0
    · rw [if_pos z]
      obtain ⟨l', c1, c2⟩ := l_leaseL T q o p g hn hq (v5 := v5) d (j + 1) m n l1 (decL w j) (by omega) (by omega) (by omega) A1
      refine ⟨l', ?_, c2⟩
      rw [show (100000 : Nat) = 99999 + 1 from rfl, s_X10_minute_L353, if_neg (by decide), vl_3 T _ _ _ _ _ j4, ev, if_pos z]
      unfold s_X10_minute_J394
      rw [vl_3 T _ _ _ _ _ j4, ev, if_pos z, show nI m + 0 = nI m from by rw [Int32.add_zero], nI_1]
      exact c1
    · rw [if_neg z]
      obtain ⟨l2, b1, b2, b3⟩ := l_cp5 T q o p g (v5 := v5) (k394 := fun y0 y1 y2 y3 y4 h => s_X10_minute_J394 (fun y0 y1 y2 y3 y4 h => s_X10_minute_L329 n y0 y1 y2 y3 y4 h) y0 y1 y2 y3 y4 h) hn jn hm A1 (by rw [ev]; exact z)
      obtain ⟨l', c1, c2⟩ := l_leaseL T q o p g hn hq (v5 := v5) d (j + 1) (m + 1) n l2 (cpL (decL w j) j m) (by omega) (by omega) (by omega) b2
      refine ⟨l', ?_, c2⟩
      rw [b1]
      unfold s_X10_minute_J394
      rw [vl_3 T _ _ _ _ _ j4, b3, ev, if_neg z, nI_1, nI_1]
      exact c1
def LQ (q w : Row) : Prop := q 0 = w 0 ∧ q 1 = w 1 ∧ q 2 = w 3 ∧ q 3 = w 4 ∧ q 4 = w 5 ∧ q 5 = w 6 ∧ q 6 = w 7 ∧ q 7 = w 8 ∧ q 8 = w 9 ∧ q 9 = w 10 ∧ q 10 = w 11 ∧ q 11 = w 13 ∧ q 12 = w 14
/-- the law's rows against a street's row -/
def LRel (q o p l w : Row) (nl : Nat) : Prop := LQ q w ∧ (∀ i, i < 3 → HA o p w i) ∧ LL l w nl ∧ nl ≤ 4
theorem LL.hi {l w w' : Row} {nl : Nat} (h : ∀ j, 351 ≤ j → w' j = w j) (A : LL l w nl) : LL l w' nl := fun j hj k hk => by
  rw [h _ (by omega)]
  exact A j hj k hk
/-- behind the works: the rest, the leases -/
theorem l_end {h : Hp} (T : LT5 h) (q o p l g : Row) {w wm : Row} {nl t : Nat} {v5 : Int32} (hn : nl ≤ 4) (ht : t ≤ 1000) (hq : LQ q wm) (hA : ∀ i, i < 3 → HA o p wm i) (hH : ∀ i, i < 3 → WH wm i t) (hl : LL l wm nl) (h8 : wm 8 = nI nl) (hp : wm 1 = 0 ∨ wm 1 = 1) (em : midR w 3 nl = wm) :
    ∃ q' o' l', s_X10_minute_L192 (fun y0 y1 y2 h => s_X10_minute_L329 100000 y0 y1 y2 0 0 h) 100000 241 242 244 v5 0 (sV h q o p l g) = some (v5, sV h q' o' p l' g) ∧ LRel q' o' p l' (minR w 3 nl) (minL w 3 nl) := by
  obtain ⟨o', a1, a2⟩ := l_restL T q p l g ht (v5 := v5) (k323 := fun y0 y1 y2 h => s_X10_minute_L329 100000 y0 y1 y2 0 0 h) 3 0 100000 o wm (by omega) (by omega) hA (fun i _ h => hH i h) hq.2.1 hq.2.2.2.2.2.1 hp
  have ea : aftR w 3 nl = itF restF 0 3 wm := by unfold aftR; rw [em]
  have hl2 : LL l (aftR w 3 nl) nl := hl.hi (fun j hj => by
    rw [ea]
    exact itF_keepn (n := 3) (P := fun u => u j = wm j) (fun u i hi h => (restF_off u i j (by omega)).trans h) 3 0 wm (by omega) rfl)
  have lo : ∀ j, j < 15 → aftR w 3 nl j = wm j := fun j hj => by rw [aftR_lo w 3 nl j hj, em]
  have hq7 : q 7 = nI nl := hq.2.2.2.2.2.2.2.1.trans h8
  obtain ⟨l', b1, b2⟩ := l_leaseL T q o' p g hn hq7 (v5 := v5) nl 0 0 100000 l (aftR w 3 nl) (by omega) (Nat.le_refl 0) (by omega) hl2
  have le := lsF_le nl 0 0 (aftR w 3 nl)
  have mlo : ∀ j, j < 15 → j ≠ 8 → j ≠ 0 → minR w 3 nl j = wm j := fun j h1 h2 h3 => (minR_lo w 3 nl h1 h2 h3).trans (by rw [em])
  refine ⟨upd (upd q 7 (nI (lsF nl 0 0 (aftR w 3 nl)).2)) 0 (q 0 + 1), o', l', ?_, ?_, fun i hi => ?_, ?_, ?_⟩
  · rw [show (0 : Int32) = nI 0 from rfl]
    exact a1.trans b1
  · obtain ⟨q0, q1, q2, q3, q4, q5, q6, q7, q8, q9, q10, q11, q12⟩ := hq
    have m8 : minR w 3 nl 8 = nI (lsF nl 0 0 (aftR w 3 nl)).2 := by unfold minR; rw [upd_ne _ _ (by omega), upd_eq]
    have m0 : minR w 3 nl 0 = wm 0 + 1 := by unfold minR; rw [upd_eq, lsF_lo _ _ _ _ _ (by omega), lo 0 (by omega)]
    unfold LQ
    rw [m8, m0, mlo 1 (by omega) (by omega) (by omega), mlo 3 (by omega) (by omega) (by omega), mlo 4 (by omega) (by omega) (by omega), mlo 5 (by omega) (by omega) (by omega), mlo 6 (by omega) (by omega) (by omega), mlo 7 (by omega) (by omega) (by omega), mlo 9 (by omega) (by omega) (by omega), mlo 10 (by omega) (by omega) (by omega), mlo 11 (by omega) (by omega) (by omega), mlo 13 (by omega) (by omega) (by omega), mlo 14 (by omega) (by omega) (by omega)]
    refine ⟨by rw [upd_eq, q0], ?_, ?_, ?_, ?_, ?_, ?_, by rw [upd_ne _ _ (by omega), upd_eq], ?_, ?_, ?_, ?_, ?_⟩
    all_goals (rw [upd_ne _ _ (by omega), upd_ne _ _ (by omega)]; assumption)
  · refine (a2 i hi).congr (fun k hk => ?_)
    rw [← ea]
    unfold minR pt
    rw [upd_ne _ _ (by omega), upd_ne _ _ (by omega)]
    exact lsF_lo _ _ _ _ _ (by omega)
  · intro j hj k hk
    have hj' : j < nl := by unfold minL at hj; omega
    rw [b2 j hj' k hk]
    unfold minR
    rw [upd_ne _ _ (by omega), upd_ne _ _ (by omega)]
  · unfold minL
    omega
theorem midRhi (w : Row) (nl : Nat) {j : Nat} (hj : 351 ≤ j) : midR w 3 nl j = w j := by
  have k1 : ∀ (f : Row → Nat → Row) (w : Row), (∀ w i, i < 3 → f w i j = w j) → itF f 0 3 w j = w j := fun f w hf => itF_keepn (n := 3) (P := fun u => u j = w j) (fun u i hi h => (hf u i hi).trans h) 3 0 w (by omega) rfl
  unfold midR
  split
  · exact upd_ne _ _ (by omega)
  · rw [k1 _ _ (fun w i hi => workF_off _ w i j (by omega) (by omega))]
    unfold givR
    rw [upd_ne _ _ (by omega), upd_ne _ _ (by omega), k1 _ _ (fun w i hi => heatF_off _ w i j (by omega)), upd_ne _ _ (by omega)]
theorem mid_hw {w : Row} {nl : Nat} (h : w 1 ≠ 0) : midR w 3 nl = itF (hwF (getA w 3 nl).1) 0 3 (upd (upd (upd w 13 (w 13 + (nI (filN w) - w 7))) 7 (nI (filN w) - nI (sumNN (getA w 3 nl).1 3 0))) 14 (w 14 + nI (sumNN (getA w 3 nl).1 3 0))) := by
  have e1 : hwF (getA w 3 nl).1 = fun u i => workF (getA w 3 nl).1 (heatF (getA w 3 nl).1 u i) i := rfl
  rw [e1, itF_two (work_heat _) 3 0, itF_upd (fun w i v => heatF_upd _ (by omega) w i v), itF_upd (fun w i v => heatF_upd _ (by omega) w i v)]
  unfold midR
  rw [if_neg h]
  rfl
theorem mid_lo {w : Row} {nl j : Nat} (h : w 1 ≠ 0) (hj : j < 15) (h12 : j ≠ 12) : midR w 3 nl j = (upd (upd (upd w 13 (w 13 + (nI (filN w) - w 7))) 7 (nI (filN w) - nI (sumNN (getA w 3 nl).1 3 0))) 14 (w 14 + nI (sumNN (getA w 3 nl).1 3 0))) j := by
  rw [mid_hw h, itF_lo (fun w i => by
    unfold hwF
    exact (workF_off _ _ i j (by omega) h12).trans (heatF_off _ w i j (by omega)))]
theorem l_minute {h : Hp} (T : LT5 h) (hN0 : 245 ≤ hN h) {q o p l g w : Row} {nl t : Nat} (R : LRel q o p l w nl) (F : WF w 3 nl t) (ht : t ≤ 400) (hm : ∀ i, i < 3 → WH (midR w 3 nl) i (t + 1)) :
    ∃ h' q' o' l' g', s_X10_minute 241 242 243 244 245 (sV h q o p l g) = some (minH w 3 nl, sV h' q' o' p l' g') ∧ Ch NoC h h' ∧ LRel q' o' p l' (minR w 3 nl) (minL w 3 nl) ∧ (w 1 = 1 → ∀ i, i < 3 → g' i = nI ((getA w 3 nl).1 i)) := by
  obtain ⟨hq, hA, hl, hn⟩ := R
  obtain ⟨⟨h8, h10, e2, e8⟩, hp, B, L, H, -⟩ := F
  have hq' := hq
  obtain ⟨q0, q1, q2, q3, q4, q5, q6, q7, q8, q9, q10, q11, q12⟩ := hq
  unfold s_X10_minute minH
  rw [vq_1 T, q1]
  rcases hp with z | z
  · rw [if_neg (by rw [z]; decide), if_pos z]
    have em : midR w 3 nl = upd w 11 (w 11 + 1) := if_pos z
    obtain ⟨q', o', l', c1, c2⟩ := l_end T (upd q 10 (q 10 + 1)) o p l g (w := w) (wm := upd w 11 (w 11 + 1)) (t := t + 1) (v5 := 0) hn (by omega) (by
      unfold LQ upd
      simp only [Nat.reduceEqDiff, if_false, if_true]
      exact ⟨q0, q1, q2, q3, q4, q5, q6, q7, q8, q9, by rw [q10], q11, q12⟩) (fun i hi => (hA i hi).congr (fun k _ => pt_upd _ _ _ _ _ (by omega))) (fun i hi => by rw [← em]; exact hm i hi) (hl.hi (fun j hj => upd_ne _ _ (by omega))) (by rw [upd_ne _ _ (by omega)]; exact e8) (Or.inl (by rw [upd_ne _ _ (by omega)]; exact z)) em
    refine ⟨h, q', o', l', g, ?_, Ch.rfl', c2, fun y => absurd (z.symm.trans y) (by decide)⟩
    simp only [vq_10 T, wq_10 T]
    exact c1
  · rw [if_pos z, if_neg (by rw [z]; decide)]
    have z0 : w 1 ≠ 0 := by rw [z]; decide
    obtain ⟨n3, b3, n4, b4, n5, b5, n7, b7⟩ := B.n
    -- what came, what is filled
    have J : ∀ cm : Int32, cm = nI (filN w) - w 7 → ∃ h' q' o' l' g', s_X10_minute_J38 241 242 243 244 245 cm (sV h q o p l g) = some (nI (sumNN (getA w 3 nl).1 3 0), sV h' q' o' p l' g') ∧ Ch NoC h h' ∧ LRel q' o' p l' (minR w 3 nl) (minL w 3 nl) ∧ (w 1 = 1 → ∀ i, i < 3 → g' i = nI ((getA w 3 nl).1 i)) := fun cm hcm => by
      have hf : filN w ≤ 60000 := Nat.le_trans (Nat.min_le_left _ _) b3
      have e6 : w 7 + cm = nI (filN w) := by rw [hcm, Int32.add_comm, Int32.sub_add_cancel]
      have Q7 : upd (upd q 6 (nI (filN w))) 11 (w 13 + cm) 7 = nI nl := by rw [upd_ne _ _ (by omega), upd_ne _ _ (by omega), q7, e8]
      have hhea : heaN w ≤ 2000 := Nat.le_trans (Nat.min_le_left _ _) b5
      obtain ⟨h1, g1, s1, s2, s3⟩ := l_split T hN0 (upd (upd q 6 (nI (filN w))) 11 (w 13 + cm)) o p l g (want := wanA w 3) (sh := shA w 3 nl) (fun i => by
        refine ⟨?_, ?_, fun hi => if_neg (by omega)⟩
        · unfold wanA
          split
          · exact wanN_le w i
          · omega
        · unfold shA
          split
          · rename_i hi
            exact (sharesF_N L h10 hi).2
          · omega) (fun i hi h2 g2 T2 => by
        constructor
        · have := l_want T2 (upd (upd q 6 (nI (filN w))) 11 (w 13 + cm)) o p l g2 hi (H i hi) (by omega) (hA i hi).2.1 (hA i hi).2.2.1
          unfold wanA
          rw [if_pos hi]
          exact this
        · have := l_shares T2 (q := upd (upd q 6 (nI (filN w))) 11 (w 13 + cm)) (o := o) (p := p) (l := l) (g := g2) hi hn Q7 hl (hA i hi).1.1
          unfold shA
          rw [if_pos hi, ← (sharesF_N L h10 hi).1]
          exact this) (l0 := heaN w) hhea
      have T1 : LT5 h1 := by
        obtain ⟨t1, t2, t3, t4, t5⟩ := T
        have t : ∀ b, b ≤ 245 → hT h1 b = hT h b := fun b hb => s2.2.1 b (by omega)
        exact ⟨by rw [t _ (by omega)]; exact t1, by rw [t _ (by omega)]; exact t2, by rw [t _ (by omega)]; exact t3, by rw [t _ (by omega)]; exact t4, by rw [t _ (by omega)]; exact t5⟩
      have hg1 : ∀ i, i < 3 → g1 i = nI ((getA w 3 nl).1 i) := s3
      have tot : nI ((getA w 3 nl).1 0) + nI ((getA w 3 nl).1 1) + nI ((getA w 3 nl).1 2) = nI (sumNN (getA w 3 nl).1 3 0) := by
        rw [nI_add, nI_add]
        congr 1
        show (getA w 3 nl).1 0 + (getA w 3 nl).1 1 + (getA w 3 nl).1 2 = (getA w 3 nl).1 0 + ((getA w 3 nl).1 1 + ((getA w 3 nl).1 2 + 0))
        omega
      -- the rows behind the split
      have W : ∀ i, i < 3 → WH (upd (upd (upd w 13 (w 13 + (nI (filN w) - w 7))) 7 (nI (filN w) - nI (sumNN (getA w 3 nl).1 3 0))) 14 (w 14 + nI (sumNN (getA w 3 nl).1 3 0))) i t := fun i hi => (((H i hi).lo (by omega)).lo (by omega)).lo (by omega)
      obtain ⟨o2, f1, f2⟩ := l_workL T1 (upd (upd (upd (upd q 6 (nI (filN w))) 11 (w 13 + cm)) 6 (nI (filN w) - nI (sumNN (getA w 3 nl).1 3 0))) 12 (w 14 + nI (sumNN (getA w 3 nl).1 3 0))) p l g1 (gn := (getA w 3 nl).1) (t := t) (v5 := nI (sumNN (getA w 3 nl).1 3 0)) (k178 := fun y0 y1 y2 y3 h => s_X10_minute_L192 (fun y0 y1 y2 h => s_X10_minute_L329 100000 y0 y1 y2 0 0 h) 100000 y0 y1 y2 y3 0 h) (by omega) hg1 (getA_250 h8) 3 0 100000 o _ (by omega) (by omega) (fun i hi => (hA i hi).congr (fun k _ => by rw [pt_upd _ _ _ _ _ (by omega), pt_upd _ _ _ _ _ (by omega), pt_upd _ _ _ _ _ (by omega)])) (fun i _ hi => W i hi)
      rw [← mid_hw z0] at f2
      have ml := fun j hj h12 => mid_lo (w := w) (nl := nl) (j := j) z0 hj h12
      obtain ⟨q', o', l', c1, c2⟩ := l_end T1 (upd (upd (upd (upd q 6 (nI (filN w))) 11 (w 13 + cm)) 6 (nI (filN w) - nI (sumNN (getA w 3 nl).1 3 0))) 12 (w 14 + nI (sumNN (getA w 3 nl).1 3 0))) o2 p l g1 (w := w) (wm := midR w 3 nl) (t := t + 1) (v5 := nI (sumNN (getA w 3 nl).1 3 0)) hn (by omega) (by
        unfold LQ
        rw [ml 0 (by omega) (by omega), ml 1 (by omega) (by omega), ml 3 (by omega) (by omega), ml 4 (by omega) (by omega), ml 5 (by omega) (by omega), ml 6 (by omega) (by omega), ml 7 (by omega) (by omega), ml 8 (by omega) (by omega), ml 9 (by omega) (by omega), ml 10 (by omega) (by omega), ml 11 (by omega) (by omega), ml 13 (by omega) (by omega), ml 14 (by omega) (by omega)]
        unfold upd
        simp only [Nat.reduceEqDiff, if_false, if_true]
        exact ⟨q0, q1, q2, q3, q4, q5, trivial, q7, q8, q9, q10, by rw [hcm], trivial⟩) f2 hm (hl.hi (fun j hj => midRhi w nl hj)) (by
          rw [ml 8 (by omega) (by omega), upd_ne _ _ (by omega), upd_ne _ _ (by omega), upd_ne _ _ (by omega)]
          exact e8) (Or.inr (by
          rw [ml 1 (by omega) (by omega), upd_ne _ _ (by omega), upd_ne _ _ (by omega), upd_ne _ _ (by omega)]
          exact z)) rfl
      refine ⟨h1, q', o', l', g1, ?_, s2, c2, fun _ => hg1⟩
      have X : ∀ x : Int32, x = nI (heaN w) → s_X10_minute_J78 241 242 243 244 245 x (sV h (upd (upd q 6 (nI (filN w))) 11 (w 13 + cm)) o p l g) = some (nI (sumNN (getA w 3 nl).1 3 0), sV h1 q' o' p l' g1) := fun x hx => by
        subst hx
        unfold s_X10_minute_J78
        rw [s1]
        simp only [bnd, vg_0 T1, vg_1 T1, vg_2 T1, hg1 0 (by omega), hg1 1 (by omega), hg1 2 (by omega), tot, vq_6 T1, wq_6 T1, vq_12 T1, wq_12 T1]
        rw [show upd (upd q 6 (nI (filN w))) 11 (w 13 + cm) 6 = nI (filN w) from by rw [upd_ne _ _ (by omega), upd_eq], show upd (upd (upd q 6 (nI (filN w))) 11 (w 13 + cm)) 6 (nI (filN w) - nI (sumNN (getA w 3 nl).1 3 0)) 12 = w 14 from by rw [upd_ne _ _ (by omega), upd_ne _ _ (by omega), upd_ne _ _ (by omega), q12]]
        exact f1.trans c1
      unfold s_X10_minute_J38
      simp only [vq_6 T, wq_6 T, vq_11 T, wq_11 T, vq_4 T]
      rw [show q 6 + cm = nI (filN w) from by rw [q6]; exact e6, show upd q 6 (nI (filN w)) 11 = w 13 from by rw [upd_ne _ _ (by omega), q11], show upd (upd q 6 (nI (filN w))) 11 (w 13 + cm) 4 = nI (outN w) from by rw [upd_ne _ _ (by omega), upd_ne _ _ (by omega), q4, n5], show upd (upd q 6 (nI (filN w))) 11 (w 13 + cm) 6 = nI (filN w) from by rw [upd_ne _ _ (by omega), upd_eq]]
      have cmp : (nI (filN w) ≤ nI (outN w)) = (filN w ≤ outN w) := nI_leE (by omega) (by omega)
      by_cases y : filN w ≤ outN w
      · rw [if_pos (Eq.mpr cmp y)]
        exact X _ (by unfold heaN; rw [Nat.min_eq_right y])
      · rw [if_neg (fun k => y (Eq.mp cmp k))]
        exact X _ (by unfold heaN; rw [Nat.min_eq_left (by omega)])
    simp only [vq_6 T, vq_3 T, vq_2 T, q6, q3, q2, n3, n4, n7, nI_add]
    have cmp : (nI (stoN w + inpN w) ≤ nI (capN w)) = (stoN w + inpN w ≤ capN w) := nI_leE (by omega) (by omega)
    by_cases y : stoN w + inpN w ≤ capN w
    · rw [if_pos (Eq.mpr cmp y)]
      refine J _ ?_
      unfold filN
      rw [Nat.min_eq_right y, n7, nI_sub (by omega), show stoN w + inpN w - stoN w = inpN w by omega]
    · rw [if_neg (fun k => y (Eq.mp cmp k))]
      refine J _ ?_
      unfold filN
      rw [Nat.min_eq_left (by omega), n7]
