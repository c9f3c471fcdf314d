/-! a washer's minute in the system, against the reference's row -/
def WH (w : Row) (i t : Nat) : Prop :=
  (∃ ow, pt w i 0 = nI ow ∧ ow ≤ 20) ∧ (pt w i 9 = 0 ∨ pt w i 9 = 1 ∨ pt w i 9 = 2) ∧
  (∃ wt wm, pt w i 11 = nI wt ∧ pt w i 12 = nI wm ∧ wt ≤ 6 * t ∧ wm ≤ 360 * t ∧ (wt = 0 → wm = 0)) ∧
  ∃ np, pt w i 15 = nI np ∧ np ≤ 12 ∧ (∀ k, k < np → kOK (pt w i (18 + k)) (pt w i (30 + k))) ∧
    (pt w i 9 = 1 → ∃ ph, ph < np ∧ pt w i 10 = nI ph ∧ (pt w i (18 + ph) = 102 → ∃ g m, pt w i 14 = nI g ∧ pt w i 16 = nI (6 * g) ∧ pt w i (30 + ph) = nI m ∧ 6 * g < m ∧ m ≤ 99))
theorem pt_upd (w : Row) (i k j : Nat) (v : Int32) (hj : j < 15) : pt (upd w j v) i k = pt w i k := by
  unfold pt upd
  rw [if_neg (by omega)]
theorem KN.of {h : Hp} {W i ph np : Nat} {w : Row} (e : hT h W = (7, 0)) (P : PR h (hR h W 0) w (15 + 42 * i)) (h3 : hI h W 3 = nI ph) (hn : pt w i 15 = nI np) (h12 : np ≤ 12) (hp : ph < np) (hk : kOK (pt w i (18 + ph)) (pt w i (30 + ph))) : KN h W (pt w i (18 + ph)) (pt w i (30 + ph)) := by
  obtain ⟨p1, p2, np', q1, q2, q3, q4⟩ := P
  have en : np' = np := (nI_eq (by omega) (by omega)).mp (q2.symm.trans hn)
  subst en
  obtain ⟨e1, e2⟩ := q4 ph hp
  have f1 : w (15 + 42 * i + 18 + ph) = pt w i (18 + ph) := by unfold pt; rw [Nat.add_assoc (15 + 42 * i) 18 ph]
  have f2 : w (15 + 42 * i + 30 + ph) = pt w i (30 + ph) := by unfold pt; rw [Nat.add_assoc (15 + 42 * i) 30 ph]
  rw [f1] at e1
  rw [f2] at e2
  refine ⟨e, q3.1, ?_, ?_, ?_⟩
  · rcases p1 with z | ⟨T, z, z2⟩
    · omega
    · omega
  · rw [h3, c_kindOf q3 hp (by rw [e1]; exact hk.nar), e1]
  · rw [h3, c_numberOf q3 hp, e2]
/-- the part of HR that speaks of the washer -/
def WR (h : Hp) (W : Nat) (w : Row) (i : Nat) : Prop :=
  (hI h W 1 = pt w i 9 ∧ (pt w i 9 ≠ 0 → hI h W 3 = pt w i 10 ∧ hI h W 4 = pt w i 14) ∧ hI h W 5 = pt w i 11 ∧ hL h W 6 = (pt w i 12).toInt64 ∧ hI h W 2 = pt w i 13 ∧ hI h W 7 = pt w i 17) ∧ PR h (hR h W 0) w (15 + 42 * i)
theorem HR.w {h : Hp} {A W i : Nat} {w : Row} (q : HR h A W w (15 + 42 * i)) : WR h W w i := q.2
theorem Mut_W {T i : Nat} (t : isSt T) (hi : i < 8) : Mut (T + 8 + 2 * i) := by
  refine ⟨by have := t.pos; omega, fun T' t' => ?_⟩
  unfold isSt at t t'
  omega
theorem Mut_H {T i : Nat} (t : isSt T) (hi : i < 8) : Mut (T + 7 + 2 * i) := by
  refine ⟨by have := t.pos; omega, fun T' t' => ?_⟩
  unfold isSt at t t'
  omega
theorem ge_neg {x y : Int32} : (¬ x < y) = (y ≤ x) := propext Int32.not_lt
/-- the phase is over: the next one, or the end -/
theorem c_end {h : Hp} {W i np ph : Nat} {w : Row} (e : hT h W = (7, 0)) (hM : Mut W) (hW : W ≤ hN h) (R : WR h W w i) (h1 : pt w i 9 = 1) (hn : pt w i 15 = nI np) (h12 : np ≤ 12) (hp : pt w i 10 = nI ph) (hpn : ph < np) :
    ∃ r h', (getI h W 7 3 fun x4 => putI h W 7 3 (x4 + 1) fun h => putI h W 7 4 0 fun h => getI h W 7 3 fun x5 => getR h W 7 0 fun x6 => getI h x6 4 0 fun x7 => if x7 ≤ x5 then putI h W 7 1 0 fun h => retZ 1 h else retZ 0 h) = some (r, h') ∧
      Ch (fun x => x = W) h h' ∧ hR h' = hR h ∧ hT h' = hT h ∧ WR h' W (endF w i) i ∧ ((r = 0 ∧ pt (endF w i) i 4 = pt w i 4) ∨ (r = 1 ∧ pt (endF w i) i 4 = pt w i 4 + 1)) := by
  obtain ⟨⟨a1, a2, a3, a4, a5, a6⟩, a7⟩ := R
  have b := a2 (by rw [h1]; decide)
  obtain ⟨p1, p2, np', q1, q2, q3, q4⟩ := id a7
  have en : np' = np := (nI_eq (by omega) (by omega)).mp (q2.symm.trans hn)
  subst en
  have nW := p1.not hM
  have hcmp : (pt w i 15 ≤ pt w i 10 + 1) = (np' ≤ ph + 1) := by
    rw [hn, hp, nI_1, nI_leE (by omega) (by omega)]
  have hp0 : hR h W 0 ≠ 0 := by
    rcases p1 with z | ⟨T, z, z2⟩ <;> omega
  have hz1 : hI h (hR h W 0) 0 = nI np' := q3.2.2.2.1
  have hph : hI h W 3 = nI ph := by rw [b.1, hp]
  simp only [getI, getL, getR, putI, putZ, putL, putR, ldI, ldR, stI, stR, divI, divL, bnd, inv, retI, retZ, retC, retR, retU, hT_sI, hT_sL, hT_sR, hR_sI, hR_sL, hN_sI, hN_sL, hN_sR, hI_sL, hI_sR, hL_sI, hL_sR, ↓reduceIte, true_and, and_true, and_self, ne_eq, not_false_eq_true, not_true_eq_false, reduceCtorEq, if_true, if_false, e, q3.1, hp0, hI_sI, Ne.symm nW.1, nW.1, hz1, hph, nI_1, nI_leE (show np' < 2 ^ 31 by omega) (show ph + 1 < 2 ^ 31 by omega), false_and, show ((3 : Nat) = 4) = False from eq_false (by decide), and_false]
  unfold endF
  simp only [hcmp]
  have ch2 : Ch (fun x => x = W) h (sI (sI h W 3 (nI (ph + 1))) W 4 0) := ((Ch.rfl' (P := fun x => x = W)).sI W 3 _ rfl).sI W 4 _ rfl
  by_cases q : np' ≤ ph + 1
  · simp only [if_pos q]
    refine ⟨1, sI (sI (sI h W 3 (nI (ph + 1))) W 4 0) W 1 0, by simp, ch2.sI W 1 _ rfl, rfl, rfl, ?_, Or.inr ⟨rfl, ?_⟩⟩
    · refine ⟨?_, PR.ch (w := w) (ch2.sI W 1 _ rfl) (fun x hx => by rw [hx]; exact hM) a7 (fun k k1 k2 k3 k4 => ?_)⟩
      · simp only [pt_upd _ _ _ _ _ (show 12 < 15 by omega), pt_sp, hI_sI, hL_sI, a3, a4, a5, a6]
        simp
      · show pt (upd (sp (sp w i 9 0) i 4 (pt w i 4 + 1)) 12 (w 12 + 1)) i k = pt w i k
        simp only [pt_upd _ _ _ _ _ (show 12 < 15 by omega), pt_sp, show ¬ k = 4 by omega, show ¬ k = 9 by omega, if_false]
    · simp only [pt_upd _ _ _ _ _ (show 12 < 15 by omega), pt_sp, if_true]
  · simp only [if_neg q]
    refine ⟨0, sI (sI h W 3 (nI (ph + 1))) W 4 0, by simp, ch2, rfl, rfl, ?_, Or.inl ⟨rfl, ?_⟩⟩
    · refine ⟨?_, PR.ch (w := w) ch2 (fun x hx => by rw [hx]; exact hM) a7 (fun k k1 k2 k3 k4 => ?_)⟩
      · simp only [pt_sp, hI_sI, hL_sI, a1, a3, a4, a5, a6, hp, nI_1]
        simp
      · show pt (sp (sp (sp w i 10 (pt w i 10 + 1)) i 14 0) i 16 0) i k = pt w i k
        simp only [pt_sp, show ¬ k = 10 by omega, show ¬ k = 14 by omega, show ¬ k = 16 by omega, if_false]
    · simp only [pt_sp, show ¬ (4 : Nat) = 10 by omega, show ¬ (4 : Nat) = 14 by omega, show ¬ (4 : Nat) = 16 by omega, if_false]
theorem c_over {h : Hp} {W i wt wm : Nat} {w : Row} {K M : Int32} (kn : KN h W K M) (R : WR h W w i) (h1 : pt w i 9 = 1) (hw : pt w i 11 = nI wt) (hm : pt w i 12 = nI wm) (b1 : wt < 2 ^ 24) (b2 : wm < 2 ^ 30) (hf : K = 102 → (6 * pt w i 14 < M ↔ ¬ pt w i 16 = M)) : s_X7_isPhaseOver W h = some (overF w i K M, h) := by
  obtain ⟨⟨a1, a2, a3, a4, a5, a6⟩, a7⟩ := R
  have b := a2 (by rw [h1]; decide)
  have e1 : wtN w i = wt := by unfold wtN; rw [hw, nI_clamp (by omega)]
  have e2 : wmN w i = wm := by unfold wmN; rw [hm, nI_clamp (by omega)]
  unfold overF
  by_cases q1 : K = 100
  · subst q1
    rw [c_isOver_d kn, a3, if_pos rfl]
  · by_cases q2 : K = 102
    · subst q2
      rw [c_isOver_f kn, b.2, if_neg q1, if_pos rfl]
      have := hf rfl
      by_cases r : pt w i 16 = M
      · rw [if_pos r, if_neg (fun z => (this.mp z) r)]
      · rw [if_neg r, if_pos (this.mpr r)]
    · by_cases q3 : K = 104
      · subst q3
        have ht := c_temperature (wt := wt) (wm := wm) kn.1 (by rw [a3, hw]) (by rw [a4, hm, nI_l (by omega)]) b1 b2
        rw [c_isOver_h kn ht, if_neg q1, if_neg q2, if_pos rfl, e1, e2]
      · rw [c_isOver_o kn q1 q2 q3, b.2, if_neg q1, if_neg q2, if_neg q3]
theorem fills_l {f m : Nat} (h1 : f ≤ m) (h2 : m ≤ 99) : (if 6 ≤ nI m - nI f then 6 else nI m - nI f) = nI (min 6 (m - f)) ∧ (if nI m - nI f < 6 then nI m - nI f else 6) = nI (min 6 (m - f)) := by
  rw [nI_sub h1, show (6 : Int32) = nI 6 from rfl]
  by_cases q : 6 ≤ m - f
  · rw [if_pos ((nI_leI (by omega) (by omega)).mpr q), if_neg (fun z => by have := (nI_ltI (by omega) (by omega)).mp z; omega), Nat.min_eq_left q]
    exact ⟨rfl, rfl⟩
  · rw [if_neg (fun z => q ((nI_leI (by omega) (by omega)).mp z)), if_pos ((nI_ltI (by omega) (by omega)).mpr (by omega)), Nat.min_eq_right (by omega)]
    exact ⟨rfl, rfl⟩
/-- the change of a phase: what it does in system and row -/
theorem c_chg {h : Hp} {W i np ph wt wm g : Nat} {w : Row} (e : hT h W = (7, 0)) (hM : Mut W) (hW : W ≤ hN h) (R : WR h W w i) (h1 : pt w i 9 = 1) (hn : pt w i 15 = nI np) (h12 : np ≤ 12) (hp : pt w i 10 = nI ph) (hpn : ph < np) (hw : pt w i 11 = nI wt) (hm : pt w i 12 = nI wm) (b1 : wt < 2 ^ 20) (b2 : wm < 2 ^ 28) (hz : wt = 0 → wm = 0)
    (hk : kOK (pt w i (18 + ph)) (pt w i (30 + ph))) (hf : pt w i (18 + ph) = 102 → ∃ g m, pt w i 14 = nI g ∧ pt w i 16 = nI (6 * g) ∧ pt w i (30 + ph) = nI m ∧ 6 * g < m ∧ m ≤ 99) (hg : g ≤ 250) :
    ∃ h2 wt2 wm2, s_X7_change W (nI g) (sI h W 4 (hI h W 4 + 1)) = some ((), h2) ∧ Ch (fun x => x = W) h h2 ∧ hR h2 = hR h ∧ hT h2 = hT h ∧ hI h2 W 3 = nI ph ∧
      WR h2 W (incF (chgF w i (pt w i (18 + ph)) (pt w i (30 + ph)) (nI g)) i) i ∧ pt (incF (chgF w i (pt w i (18 + ph)) (pt w i (30 + ph)) (nI g)) i) i 11 = nI wt2 ∧ pt (incF (chgF w i (pt w i (18 + ph)) (pt w i (30 + ph)) (nI g)) i) i 12 = nI wm2 ∧ wt2 ≤ wt + 6 ∧ wm2 ≤ wm + 360 ∧ (wt2 = 0 → ¬ (pt w i (18 + ph) = 104 ∧ wt = 0) → wm2 = 0) ∧
      (∀ k, k ≠ 11 → k ≠ 12 → k ≠ 14 → k ≠ 16 → k ≠ 17 → pt (incF (chgF w i (pt w i (18 + ph)) (pt w i (30 + ph)) (nI g)) i) i k = pt w i k) ∧
      (pt w i (18 + ph) = 102 → ∃ f m, m ≤ 99 ∧ pt (incF (chgF w i (pt w i (18 + ph)) (pt w i (30 + ph)) (nI g)) i) i 14 = nI (f + 1) ∧ pt w i (30 + ph) = nI m ∧ 6 * f < m ∧ pt (incF (chgF w i (pt w i (18 + ph)) (pt w i (30 + ph)) (nI g)) i) i 16 = nI (6 * f + min 6 (m - 6 * f))) := by
  have R0 := R
  obtain ⟨⟨a1, a2, a3, a4, a5, a6⟩, a7⟩ := R
  have b := a2 (by rw [h1]; decide)
  have chI : Ch (fun x => x = W) h (sI h W 4 (hI h W 4 + 1)) := (Ch.rfl' (P := fun x => x = W)).sI W 4 _ rfl
  have hPm : ∀ x, (fun x => x = W) x → Mut x := fun x hx => by rw [hx]; exact hM
  have P1 : PR (sI h W 4 (hI h W 4 + 1)) (hR h W 0) w (15 + 42 * i) := a7.ch chI hPm (fun _ _ _ _ _ => rfl)
  have h3 : hI (sI h W 4 (hI h W 4 + 1)) W 3 = nI ph := by
    rw [hI_sI, if_neg (by omega), b.1, hp]
  have kn : KN (sI h W 4 (hI h W 4 + 1)) W (pt w i (18 + ph)) (pt w i (30 + ph)) := KN.of (np := np) e P1 h3 hn h12 hpn hk
  have e1 : wtN w i = wt := by unfold wtN; rw [hw, nI_clamp (by omega)]
  have e2 : wmN w i = wm := by unfold wmN; rw [hm, nI_clamp (by omega)]
  have n3 : hI h W 3 = nI ph := by rw [b.1, hp]
  by_cases q2 : pt w i (18 + ph) = 102
  · obtain ⟨f, m, f1, f2, f3, f4, f5⟩ := hf q2
    obtain ⟨l1, l2⟩ := fills_l (f := 6 * f) (m := m) (by omega) f5
    rw [q2] at kn
    have hgone : (6 : Int32) * ((hI h W 4 + 1) - 1) = nI (6 * f) := by
      rw [Int32.add_sub_cancel, b.2, f1, show (6 : Int32) = nI 6 from rfl, nI_mul]
    have hpour := c_pour (h := sI h W 4 (hI h W 4 + 1)) (W := W) (m := pt w i (30 + ph)) e
    have g4 : hI (sI h W 4 (hI h W 4 + 1)) W 4 = hI h W 4 + 1 := by rw [hI_sI, if_pos ⟨rfl, rfl⟩]
    rw [g4, hgone, f3, l2] at hpour
    rw [q2]
    have hc : chgF w i 102 (pt w i (30 + ph)) (nI g) = fillsF w i (pt w i (30 + ph)) := by unfold chgF; rw [if_pos rfl]
    rw [hc]
    have hF : ∀ k, pt (incF (fillsF w i (pt w i (30 + ph))) i) i k = if k = 14 then nI (f + 1) else if k = 12 then nI (wm + 60 * min 6 (m - 6 * f)) else if k = 11 then nI (wt + min 6 (m - 6 * f)) else if k = 17 then pt w i 17 + nI (min 6 (m - 6 * f)) else if k = 16 then nI (6 * f + min 6 (m - 6 * f)) else pt w i k := by
      intro k
      unfold incF fillsF
      simp only [pt_sp, f2, f3, l1, hw, hm, f1, show (60 : Int32) = nI 60 from rfl, show (1 : Int32) = nI 1 from rfl, nI_mul, nI_add, show ((14 : Nat) = 12) = False from eq_false (by decide), show ((14 : Nat) = 11) = False from eq_false (by decide), show ((14 : Nat) = 17) = False from eq_false (by decide), show ((14 : Nat) = 16) = False from eq_false (by decide), show ((12 : Nat) = 11) = False from eq_false (by decide), show ((12 : Nat) = 16) = False from eq_false (by decide), show ((12 : Nat) = 17) = False from eq_false (by decide), show ((11 : Nat) = 17) = False from eq_false (by decide), show ((11 : Nat) = 16) = False from eq_false (by decide), show ((17 : Nat) = 16) = False from eq_false (by decide), if_false]
    refine ⟨_, wt + min 6 (m - 6 * f), wm + 60 * min 6 (m - 6 * f), c_change_f kn (by rw [f3]; exact hpour), ((chI.sI W 5 _ rfl).sI W 7 _ rfl).sL W 6 _ rfl, rfl, rfl, ?_, ⟨?_, ?_⟩, ?_, ?_, by omega, by omega, fun z _ => by omega, ?_, fun _ => ⟨f, m, f5, ?_, f3, f4, ?_⟩⟩
    · simp only [hI_sL, hI_sI, n3]
      simp
    · simp only [hF, hI_sL, hI_sI, hL_sL, hL_sI, hI_sR, a3, a4, a5, a6, a1, n3, hp, b.2, f1, hw, hm, nI_l (show wm < 2 ^ 31 by omega), nI_l (show min 6 (m - 6 * f) < 2 ^ 31 by omega), nI_l (show wm + 60 * min 6 (m - 6 * f) < 2 ^ 31 by omega), show (60 : Int64) = lN 60 from rfl, show (1 : Int32) = nI 1 from rfl, lN_mul, lN_add, nI_add]
      simp [hp, n3]
      exact ⟨nI_add _ _, (nI_l (by omega)).symm⟩
    · exact a7.ch (((chI.sI W 5 _ rfl).sI W 7 _ rfl).sL W 6 _ rfl) hPm (fun k k1 k2 k3 k4 => by
        show pt (incF (fillsF w i (pt w i (30 + ph))) i) i k = pt w i k
        rw [hF k, if_neg (by omega), if_neg (by omega), if_neg (by omega), if_neg (by omega), if_neg (by omega)])
    · rw [hF]; simp
    · rw [hF]; simp
    · intro k k1 k2 k3 k4 k5
      rw [hF k, if_neg k3, if_neg k2, if_neg k1, if_neg k5, if_neg k4]
    · rw [hF]; simp
    · rw [hF]; simp
  · have hx : ∀ (P : Prop), (pt w i (18 + ph) = 102 → P) := fun P z => absurd z q2
    by_cases q1 : pt w i (18 + ph) = 100
    · rw [q1] at kn ⊢
      have hc : chgF w i 100 (pt w i (30 + ph)) (nI g) = drainsF w i := by unfold chgF; rw [if_neg (by decide), if_pos rfl]
      rw [hc]
      have hF : ∀ k, pt (incF (drainsF w i) i) i k = if k = 14 then pt w i 14 + 1 else if k = 12 then nI (wm * (wt - 12) / wt) else if k = 11 then nI (wt - 12) else pt w i k := by
        intro k
        unfold incF drainsF
        simp only [pt_sp, e1, e2, show ((14 : Nat) = 12) = False from eq_false (by decide), show ((14 : Nat) = 11) = False from eq_false (by decide), if_false]
      have hle : wm * (wt - 12) / wt ≤ wm := by
        by_cases q : wt = 0
        · rw [q, Nat.div_zero]; omega
        · exact Nat.div_le_of_le_mul (by rw [Nat.mul_comm wt]; exact Nat.mul_le_mul_left _ (by omega))
      have h0 : wt - 12 = 0 → wm * (wt - 12) / wt = 0 := fun z => by rw [z, Nat.mul_zero, Nat.zero_div]
      have hdr : ∃ x y, s_X7_drain W (sI h W 4 (hI h W 4 + 1)) = some ((), sI (sL (sI h W 4 (hI h W 4 + 1)) W 6 x) W 5 y) ∧ x = (nI (wm * (wt - 12) / wt)).toInt64 ∧ y = nI (wt - 12) := by
        have g5 : hI (sI h W 4 (hI h W 4 + 1)) W 5 = nI wt := by rw [hI_sI, if_neg (by omega), a3, hw]
        have g6 : hL (sI h W 4 (hI h W 4 + 1)) W 6 = lN wm := by rw [hL_sI, a4, hm, nI_l (by omega)]
        by_cases q : wt = 0
        · refine ⟨0, 0, c_drain0 e (by rw [g5, q]), ?_, ?_⟩
          · rw [q, Nat.div_zero]; rfl
          · rw [q]; rfl
        · exact ⟨_, _, c_drain1 e g5 g6 q (by omega) (by omega), (nI_l (by omega)).symm, rfl⟩
      obtain ⟨x, y, d1, rfl, rfl⟩ := hdr
      refine ⟨_, wt - 12, wm * (wt - 12) / wt, c_change_d kn d1, (chI.sL W 6 _ rfl).sI W 5 _ rfl, rfl, rfl, ?_, ⟨?_, ?_⟩, ?_, ?_, by omega, by omega, fun z _ => h0 z, ?_, fun z => absurd z (by decide)⟩
      · simp only [hI_sL, hI_sI, n3]
        simp
      · simp only [hF, hI_sL, hI_sI, hL_sL, hL_sI, a3, a4, a5, a6, a1, n3, hp, b.2]
        simp [hp, n3]
      · exact a7.ch ((chI.sL W 6 _ rfl).sI W 5 _ rfl) hPm (fun k k1 k2 k3 k4 => by
          show pt (incF (drainsF w i) i) i k = pt w i k
          rw [hF k, if_neg (by omega), if_neg (by omega), if_neg (by omega)])
      · rw [hF]; simp
      · rw [hF]; simp
      · intro k k1 k2 k3 k4 k5
        rw [hF k, if_neg k3, if_neg k2, if_neg k1]
    · by_cases q3 : pt w i (18 + ph) = 104
      · rw [q3] at kn ⊢
        have hc : chgF w i 104 (pt w i (30 + ph)) (nI g) = sp w i 12 (pt w i 12 + nI g) := by unfold chgF; rw [if_neg (by decide), if_neg (by decide), if_pos rfl]
        rw [hc]
        have hF : ∀ k, pt (incF (sp w i 12 (pt w i 12 + nI g)) i) i k = if k = 14 then pt w i 14 + 1 else if k = 12 then nI (wm + g) else pt w i k := by
          intro k
          unfold incF
          simp only [pt_sp, hm, nI_add, show ((14 : Nat) = 12) = False from eq_false (by decide), if_false]
        refine ⟨_, wt, wm + g, c_change_h kn, chI.sL W 6 _ rfl, rfl, rfl, ?_, ⟨?_, ?_⟩, ?_, ?_, by omega, by omega, fun z zz => absurd ⟨rfl, z⟩ zz, ?_, fun z => absurd z (by decide)⟩
        · simp only [hI_sL, hI_sI, n3]
          simp
        · simp only [hF]
          simp only [hI_sL, hI_sI, hL_sL, hL_sI, a3, a4, a5, a6, a1, n3, hp, b.2, hm, nI_l (show wm < 2 ^ 31 by omega), nI_l (show g < 2 ^ 31 by omega), nI_l (show wm + g < 2 ^ 31 by omega), lN_add]
          simp [hp, n3]
          exact (nI_l (by omega)).symm
        · exact a7.ch (chI.sL W 6 _ rfl) hPm (fun k k1 k2 k3 k4 => by
            show pt (incF (sp w i 12 (pt w i 12 + nI g)) i) i k = pt w i k
            rw [hF k, if_neg (by omega), if_neg (by omega)])
        · rw [hF]; simp [hw]
        · rw [hF]; simp
        · intro k k1 k2 k3 k4 k5
          rw [hF k, if_neg k3, if_neg k2]
      · have hc : chgF w i (pt w i (18 + ph)) (pt w i (30 + ph)) (nI g) = w := by unfold chgF; rw [if_neg q2, if_neg q1, if_neg q3]
        rw [hc]
        have hF : ∀ k, pt (incF w i) i k = if k = 14 then pt w i 14 + 1 else pt w i k := by
          intro k
          unfold incF
          simp only [pt_sp]
        refine ⟨_, wt, wm, c_change_o kn q1 q2 q3, chI, rfl, rfl, h3, ⟨?_, ?_⟩, ?_, ?_, by omega, by omega, fun z _ => hz z, ?_, fun z => absurd z q2⟩
        · simp only [hF, hI_sI, hL_sI, a3, a4, a5, a6, a1, n3, hp, b.2]
          simp [hp, n3]
        · exact a7.ch chI hPm (fun k k1 k2 k3 k4 => by
            show pt (incF w i) i k = pt w i k
            rw [hF k, if_neg (by omega)])
        · rw [hF]; simp [hw]
        · rw [hF]; simp [hm]
        · intro k k1 k2 k3 k4 k5
          rw [hF k, if_neg k3]
/-- the row behind a change: where it differs -/
theorem chgF_off (w : Row) (i : Nat) (k m g : Int32) (j : Nat) (hj : j < 15 + 42 * i ∨ 15 + 42 * i + 42 ≤ j) : incF (chgF w i k m g) i j = w j := by
  have a : ∀ (v : Row) (p : Nat) (x : Int32), p < 42 → sp v i p x j = v j := fun v p x hp => by
    unfold sp upd
    rw [if_neg (by omega)]
  unfold incF chgF
  rw [a _ _ _ (by omega)]
  split
  · unfold fillsF
    rw [a _ _ _ (by omega), a _ _ _ (by omega), a _ _ _ (by omega), a _ _ _ (by omega)]
  · split
    · unfold drainsF
      rw [a _ _ _ (by omega), a _ _ _ (by omega)]
    · split
      · rw [a _ _ _ (by omega)]
      · rfl
theorem endF_off (w : Row) (i j : Nat) (hj : j < 15 + 42 * i ∨ 15 + 42 * i + 42 ≤ j) (h12 : j ≠ 12) : endF w i j = w j := by
  have a : ∀ (v : Row) (p : Nat) (x : Int32), p < 42 → sp v i p x j = v j := fun v p x hp => by
    unfold sp upd
    rw [if_neg (by omega)]
  unfold endF
  split
  · unfold upd
    rw [if_neg h12, a _ _ _ (by omega), a _ _ _ (by omega)]
  · rw [a _ _ _ (by omega), a _ _ _ (by omega), a _ _ _ (by omega)]
theorem worksF_off (w : Row) (i : Nat) (g : Int32) (j : Nat) (hj : j < 15 + 42 * i ∨ 15 + 42 * i + 42 ≤ j) (h12 : j ≠ 12) : worksF w i g j = w j := by
  unfold worksF
  split
  · unfold sp upd
    rw [if_neg (by omega)]
  · unfold goF
    split
    · exact chgF_off w i _ _ _ j hj
    · rw [endF_off _ _ _ hj h12]
      exact chgF_off w i _ _ _ j hj
theorem c_ends {h : Hp} {W i t g : Nat} {w : Row} (e : hT h W = (7, 0)) (hM : Mut W) (hW : W ≤ hN h) (R : WR h W w i) (H : WH w i t) (ht : t ≤ 39000) (h1 : pt w i 9 = 1) (hg : g ≤ 250) :
    ∃ r h', s_X7_endsInMinute W (nI g) h = some (r, h') ∧ Ch (fun x => x = W) h h' ∧ hR h' = hR h ∧ hT h' = hT h ∧ WR h' W (worksF w i (nI g)) i ∧ WH (worksF w i (nI g)) i (t + 1) ∧
      ((r = 0 ∧ pt (worksF w i (nI g)) i 4 = pt w i 4 ∧ worksF w i (nI g) 12 = w 12) ∨ (r = 1 ∧ pt (worksF w i (nI g)) i 4 = pt w i 4 + 1 ∧ worksF w i (nI g) 12 = w 12 + 1)) ∧
      (∀ k, k ≠ 4 → k ≠ 9 → k ≠ 10 → k ≠ 11 → k ≠ 12 → k ≠ 14 → k ≠ 16 → k ≠ 17 → pt (worksF w i (nI g)) i k = pt w i k) := by
  have H0 := H
  obtain ⟨H1, H2, ⟨wt, wm, hw, hm, bw, bm, hz⟩, np, hn, h12, hks, hrun⟩ := H
  obtain ⟨ph, hpn, hp, hf⟩ := hrun h1
  have hk := hks ph hpn
  have R0 := R
  obtain ⟨⟨a1, a2, a3, a4, a5, a6⟩, a7⟩ := R
  have b := a2 (by rw [h1]; decide)
  have hPm : ∀ x, (fun x => x = W) x → Mut x := fun x hx => by rw [hx]; exact hM
  have e0 : phN w i = ph := by unfold phN; rw [hp, nI_clamp (by omega)]; omega
  have kn : KN h W (pt w i (18 + ph)) (pt w i (30 + ph)) := KN.of (np := np) e a7 (by rw [b.1, hp]) hn h12 hpn hk
  have hcw := c_cannotWork kn (wt := wt) (by rw [a3, hw]) (by omega)
  have hz2 : (pt w i 11 = 0) = (wt = 0) := by rw [hw]; exact propext (nI_0' wt (by omega))
  unfold s_X7_endsInMinute worksF
  rw [e0]
  simp only [ne_eq, hz2]
  by_cases qs : (pt w i (18 + ph) = 104 ∧ wt = 0) ∨ (pt w i (18 + ph) = 115 ∧ ¬ wt = 0)
  · simp only [if_pos qs]
    rw [if_pos qs] at hcw
    have ch : Ch (fun x => x = W) h (sI h W 1 2) := (Ch.rfl' (P := fun x => x = W)).sI W 1 _ rfl
    refine ⟨0, sI h W 1 2, ?_, ch, rfl, rfl, ⟨?_, ?_⟩, ⟨?_, ?_, ⟨wt, wm, ?_, ?_, by omega, by omega, hz⟩, np, ?_, h12, ?_, ?_⟩, Or.inl ⟨rfl, ?_, ?_⟩, ?_⟩
    · simp only [getI, getL, getR, putI, putZ, putL, putR, ldI, ldR, stI, stR, divI, divL, bnd, inv, retI, retZ, retC, retR, retU, hT_sI, hT_sL, hT_sR, hR_sI, hR_sL, hN_sI, hN_sL, hN_sR, hI_sL, hI_sR, hL_sI, hL_sR, ↓reduceIte, true_and, and_true, and_self, ne_eq, not_false_eq_true, not_true_eq_false, reduceCtorEq, if_true, if_false, e, hcw, show ((1 : Int32) = 0) = False from eq_false (by decide)]
      simp
    · simp only [pt_sp, hI_sI, hL_sI, a3, a4, a5, a6]
      simp [b.1, b.2]
    · exact a7.ch ch hPm (fun k k1 k2 k3 k4 => by
        show pt (sp w i 9 2) i k = pt w i k
        rw [pt_sp, if_neg (by omega)])
    · simpa only [pt_sp, show ((0 : Nat) = 9) = False from eq_false (by decide), if_false] using H1
    · rw [pt_sp, if_pos rfl]; exact Or.inr (Or.inr rfl)
    · rw [pt_sp, if_neg (by omega)]; exact hw
    · rw [pt_sp, if_neg (by omega)]; exact hm
    · rw [pt_sp, if_neg (by omega)]; exact hn
    · intro k hk2
      rw [pt_sp, pt_sp, if_neg (by omega), if_neg (by omega)]
      exact hks k hk2
    · intro z
      rw [pt_sp, if_pos rfl] at z
      exact absurd z (by decide)
    · rw [pt_sp, if_neg (by omega)]
    · unfold sp upd
      rw [if_neg (by omega)]
    · intro k k1 k2 k3 k4 k5 k6 k7 k8
      rw [pt_sp, if_neg k2]
  · simp only [if_neg qs]
    rw [if_neg qs] at hcw
    obtain ⟨h2, wt2, wm2, c1, c2, c3, c4, c5, c6, c7, c8, c9, c10, c11, c12, c13⟩ := c_chg e hM hW R0 h1 hn h12 hp hpn hw hm (by omega) (by omega) hz hk hf hg
    have off : ∀ j, (j < 15 + 42 * i ∨ 15 + 42 * i + 42 ≤ j) → incF (chgF w i (pt w i (18 + ph)) (pt w i (30 + ph)) (nI g)) i j = w j := fun j hj => chgF_off w i _ _ _ j hj
    unfold goF
    generalize hw2 : incF (chgF w i (pt w i (18 + ph)) (pt w i (30 + ph)) (nI g)) i = w2 at *
    have s2 : pt w2 i 9 = 1 := by rw [c12 9 (by omega) (by omega) (by omega) (by omega) (by omega)]; exact h1
    have n2 : pt w2 i 15 = nI np := by rw [c12 15 (by omega) (by omega) (by omega) (by omega) (by omega)]; exact hn
    have p2 : pt w2 i 10 = nI ph := by rw [c12 10 (by omega) (by omega) (by omega) (by omega) (by omega)]; exact hp
    have kk : ∀ k, pt w2 i (18 + k) = pt w i (18 + k) ∧ pt w2 i (30 + k) = pt w i (30 + k) := fun k => ⟨c12 _ (by omega) (by omega) (by omega) (by omega) (by omega), c12 _ (by omega) (by omega) (by omega) (by omega) (by omega)⟩
    have kn2 : KN h2 W (pt w i (18 + ph)) (pt w i (30 + ph)) := by
      have := KN.of (h := h2) (W := W) (i := i) (ph := ph) (np := np) (w := w2) (by rw [c4]; exact e) c6.2 c5 n2 h12 hpn (by rw [(kk ph).1, (kk ph).2]; exact hk)
      rw [(kk ph).1, (kk ph).2] at this
      exact this
    have hov := c_over kn2 c6 s2 c7 c8 (by omega) (by omega) (fun z => by
      obtain ⟨f, m, m1, m2, m3, m4, m5⟩ := c13 z
      rw [m2, m3, m5, show (6 : Int32) = nI 6 from rfl, nI_mul, nI_ltI (by omega) (by omega), nI_eq (by omega) (by omega)]
      omega)
    have base : s_X7_endsInMinute W (nI g) h = (if overF w2 i (pt w i (18 + ph)) (pt w i (30 + ph)) = 0 then retZ 0 h2 else (getI h2 W 7 3 fun x4 => putI h2 W 7 3 (x4 + 1) fun h => putI h W 7 4 0 fun h => getI h W 7 3 fun x5 => getR h W 7 0 fun x6 => getI h x6 4 0 fun x7 => if x7 ≤ x5 then putI h W 7 1 0 fun h => retZ 1 h else retZ 0 h)) := by
      unfold s_X7_endsInMinute
      simp only [inv, bnd, getI, putI, e, hcw, hT_sI, c1, c4, hov, if_true]
    have hW2 : W ≤ hN h2 := Nat.le_trans hW c2.1
    have WH2 : WH w2 i (t + 1) ∨ overF w2 i (pt w i (18 + ph)) (pt w i (30 + ph)) ≠ 0 := by
      by_cases qo : overF w2 i (pt w i (18 + ph)) (pt w i (30 + ph)) = 0
      · refine Or.inl ⟨?_, Or.inr (Or.inl s2), ⟨wt2, wm2, c7, c8, by omega, by omega, fun z => c11 z (fun y => qs (Or.inl y))⟩, np, n2, h12, ?_, fun _ => ⟨ph, hpn, p2, fun z => ?_⟩⟩
        · rw [c12 0 (by omega) (by omega) (by omega) (by omega) (by omega)]; exact H1
        · intro k hk2
          rw [(kk k).1, (kk k).2]
          exact hks k hk2
        · rw [(kk ph).1] at z
          obtain ⟨f, m, m1, m2, m3, m4, m5⟩ := c13 z
          have : ¬ (pt w2 i 16 = pt w i (30 + ph)) := by
            intro y
            unfold overF at qo
            rw [z, if_neg (by decide), if_pos rfl, if_pos y] at qo
            exact absurd qo (by decide)
          rw [m5, m3, nI_eq (by omega) (by omega)] at this
          refine ⟨f + 1, m, m2, ?_, by rw [(kk ph).2]; exact m3, by omega, m1⟩
          rw [m5]
          congr 1
          omega
      · exact Or.inr qo
    have hoth : ∀ k, k ≠ 4 → k ≠ 9 → k ≠ 10 → k ≠ 11 → k ≠ 12 → k ≠ 14 → k ≠ 16 → k ≠ 17 → pt w2 i k = pt w i k := fun k k1 k2 k3 k4 k5 k6 k7 k8 => c12 k k4 k5 k6 k7 k8
    rw [show (inv h W 7 (s_X7_cannotWork W h) fun x1 h => if x1 = 0 then getI h W 7 4 fun x2 => putI h W 7 4 (x2 + 1) fun h => inv h W 7 (s_X7_change W (nI g) h) fun _ h => inv h W 7 (s_X7_isPhaseOver W h) fun x3 h => if x3 = 0 then retZ 0 h else getI h W 7 3 fun x4 => putI h W 7 3 (x4 + 1) fun h => putI h W 7 4 0 fun h => getI h W 7 3 fun x5 => getR h W 7 0 fun x6 => getI h x6 4 0 fun x7 => if x7 ≤ x5 then putI h W 7 1 0 fun h => retZ 1 h else retZ 0 h else putI h W 7 1 2 fun h => retZ 0 h) = s_X7_endsInMinute W (nI g) h from rfl, base]
    by_cases qo : overF w2 i (pt w i (18 + ph)) (pt w i (30 + ph)) = 0
    · simp only [if_pos qo]
      refine ⟨0, h2, by simp [retZ], c2, c3, c4, c6, ?_, Or.inl ⟨rfl, ?_, off 12 (by omega)⟩, hoth⟩
      · rcases WH2 with z | z
        · exact z
        · exact absurd qo z
      · exact c12 4 (by omega) (by omega) (by omega) (by omega) (by omega)
    · simp only [if_neg qo]
      obtain ⟨r, h', d1, d2, d3, d4, d5, d6⟩ := c_end (h := h2) (by rw [c4]; exact e) hM hW2 c6 s2 n2 h12 p2 hpn
      have hcmp : (pt w2 i 15 ≤ pt w2 i 10 + 1) = (np ≤ ph + 1) := by rw [n2, p2, nI_1, nI_leE (by omega) (by omega)]
      have e4 : pt w2 i 4 = pt w i 4 := c12 4 (by omega) (by omega) (by omega) (by omega) (by omega)
      refine ⟨r, h', d1, c2.trans d2, d3.trans c3, d4.trans c4, d5, ?_, ?_, ?_⟩
      · unfold endF
        by_cases q : np ≤ ph + 1
        · rw [if_pos (show pt w2 i 15 ≤ pt w2 i 10 + 1 by rw [hcmp]; exact q)]
          refine ⟨?_, Or.inl ?_, ⟨wt2, wm2, ?_, ?_, by omega, by omega, fun z => c11 z (fun y => qs (Or.inl y))⟩, np, ?_, h12, ?_, fun z => ?_⟩
          · simpa only [pt_upd _ _ _ _ _ (show 12 < 15 by omega), pt_sp, show ((0 : Nat) = 4) = False from eq_false (by decide), show ((0 : Nat) = 9) = False from eq_false (by decide), if_false, c12 0 (by omega) (by omega) (by omega) (by omega) (by omega)] using H1
          · simp only [pt_upd _ _ _ _ _ (show 12 < 15 by omega), pt_sp, show ((9 : Nat) = 4) = False from eq_false (by decide), if_false, if_true]
          · simpa only [pt_upd _ _ _ _ _ (show 12 < 15 by omega), pt_sp, show ((11 : Nat) = 4) = False from eq_false (by decide), show ((11 : Nat) = 9) = False from eq_false (by decide), if_false] using c7
          · simpa only [pt_upd _ _ _ _ _ (show 12 < 15 by omega), pt_sp, show ((12 : Nat) = 4) = False from eq_false (by decide), show ((12 : Nat) = 9) = False from eq_false (by decide), if_false] using c8
          · simpa only [pt_upd _ _ _ _ _ (show 12 < 15 by omega), pt_sp, show ((15 : Nat) = 4) = False from eq_false (by decide), show ((15 : Nat) = 9) = False from eq_false (by decide), if_false] using n2
          · intro k hk2
            simp only [pt_upd _ _ _ _ _ (show 12 < 15 by omega), pt_sp, show ¬ (18 + k = 4) by omega, show ¬ (18 + k = 9) by omega, show ¬ (30 + k = 4) by omega, show ¬ (30 + k = 9) by omega, if_false, (kk k).1, (kk k).2]
            exact hks k hk2
          · simp only [pt_upd _ _ _ _ _ (show 12 < 15 by omega), pt_sp, show ((9 : Nat) = 4) = False from eq_false (by decide), if_false, if_true] at z
            exact absurd z (by decide)
        · rw [if_neg (show ¬ (pt w2 i 15 ≤ pt w2 i 10 + 1) by rw [hcmp]; exact q)]
          refine ⟨?_, Or.inr (Or.inl ?_), ⟨wt2, wm2, ?_, ?_, by omega, by omega, fun z => c11 z (fun y => qs (Or.inl y))⟩, np, ?_, h12, ?_, fun _ => ⟨ph + 1, by omega, ?_, fun z => ?_⟩⟩
          · simpa only [pt_sp, show ((0 : Nat) = 10) = False from eq_false (by decide), show ((0 : Nat) = 14) = False from eq_false (by decide), show ((0 : Nat) = 16) = False from eq_false (by decide), if_false, c12 0 (by omega) (by omega) (by omega) (by omega) (by omega)] using H1
          · simpa only [pt_sp, show ((9 : Nat) = 10) = False from eq_false (by decide), show ((9 : Nat) = 14) = False from eq_false (by decide), show ((9 : Nat) = 16) = False from eq_false (by decide), if_false] using s2
          · simpa only [pt_sp, show ((11 : Nat) = 10) = False from eq_false (by decide), show ((11 : Nat) = 14) = False from eq_false (by decide), show ((11 : Nat) = 16) = False from eq_false (by decide), if_false] using c7
          · simpa only [pt_sp, show ((12 : Nat) = 10) = False from eq_false (by decide), show ((12 : Nat) = 14) = False from eq_false (by decide), show ((12 : Nat) = 16) = False from eq_false (by decide), if_false] using c8
          · simpa only [pt_sp, show ((15 : Nat) = 10) = False from eq_false (by decide), show ((15 : Nat) = 14) = False from eq_false (by decide), show ((15 : Nat) = 16) = False from eq_false (by decide), if_false] using n2
          · intro k hk2
            simp only [pt_sp, show ¬ (18 + k = 10) by omega, show ¬ (18 + k = 14) by omega, show ¬ (18 + k = 16) by omega, show ¬ (30 + k = 10) by omega, show ¬ (30 + k = 14) by omega, show ¬ (30 + k = 16) by omega, if_false, (kk k).1, (kk k).2]
            exact hks k hk2
          · simp only [pt_sp, show ((10 : Nat) = 14) = False from eq_false (by decide), show ((10 : Nat) = 16) = False from eq_false (by decide), if_false, if_true, p2, nI_1]
          · simp only [pt_sp, show ¬ (18 + (ph + 1) = 10) by omega, show ¬ (18 + (ph + 1) = 14) by omega, show ¬ (18 + (ph + 1) = 16) by omega, show ¬ (30 + (ph + 1) = 10) by omega, show ¬ (30 + (ph + 1) = 14) by omega, show ¬ (30 + (ph + 1) = 16) by omega, if_false, (kk (ph + 1)).1, (kk (ph + 1)).2, show ((14 : Nat) = 16) = False from eq_false (by decide), if_true] at z ⊢
            obtain ⟨-, x, x1, x2, x3⟩ := hks (ph + 1) (by omega)
            exact ⟨0, x, rfl, rfl, x1, by have := x3 z; omega, x2⟩
      · have o12 : w2 12 = w 12 := off 12 (by omega)
        rcases d6 with ⟨y1, y2⟩ | ⟨y1, y2⟩
        · refine Or.inl ⟨y1, y2.trans e4, ?_⟩
          unfold endF at y2 ⊢
          by_cases q : np ≤ ph + 1
          · rw [if_pos (show pt w2 i 15 ≤ pt w2 i 10 + 1 by rw [hcmp]; exact q)] at y2
            simp only [pt_upd _ _ _ _ _ (show 12 < 15 by omega), pt_sp, if_true] at y2
            exact absurd y2 (by
              intro y
              have : (1 : Int32) = 0 := by
                have := congrArg (fun x => x - pt w2 i 4) y
                simpa [Int32.add_comm, Int32.add_sub_cancel] using this
              exact absurd this (by decide))
          · rw [if_neg (show ¬ (pt w2 i 15 ≤ pt w2 i 10 + 1) by rw [hcmp]; exact q)]
            unfold sp upd
            rw [if_neg (by omega), if_neg (by omega), if_neg (by omega), o12]
        · refine Or.inr ⟨y1, y2.trans (by rw [e4]), ?_⟩
          unfold endF at y2 ⊢
          by_cases q : np ≤ ph + 1
          · rw [if_pos (show pt w2 i 15 ≤ pt w2 i 10 + 1 by rw [hcmp]; exact q)]
            unfold upd
            rw [if_pos rfl, o12]
          · rw [if_neg (show ¬ (pt w2 i 15 ≤ pt w2 i 10 + 1) by rw [hcmp]; exact q)] at y2
            simp only [pt_sp, show ((4 : Nat) = 10) = False from eq_false (by decide), show ((4 : Nat) = 14) = False from eq_false (by decide), show ((4 : Nat) = 16) = False from eq_false (by decide), if_false] at y2
            exact absurd y2 (by
              intro y
              have : (1 : Int32) = 0 := by
                have := congrArg (fun x => x - pt w2 i 4) y.symm
                simpa [Int32.add_comm, Int32.add_sub_cancel] using this
              exact absurd this (by decide))
      · intro k k1 k2 k3 k4 k5 k6 k7 k8
        rw [← hoth k k1 k2 k3 k4 k5 k6 k7 k8]
        unfold endF
        split
        · rw [pt_upd _ _ _ _ _ (show 12 < 15 by omega), pt_sp, if_neg k1, pt_sp, if_neg k2]
        · rw [pt_sp, if_neg k7, pt_sp, if_neg k6, pt_sp, if_neg k3]
