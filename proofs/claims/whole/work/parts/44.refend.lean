/-! the reference's minute against the row of a minute -/
theorem wanN_upd (w : Row) {j : Nat} (hj : j < 15) (v : Int32) (i : Nat) : wanN (upd w j v) i = wanN w i := by
  unfold wanN phN wtN wmN
  simp only [pt_upd _ _ _ _ _ hj]
theorem lentN_upd (w : Row) {j : Nat} (hj : j < 15) (v : Int32) (nl : Nat) (x : Int32) : lentN (upd w j v) nl x = lentN w nl x := by
  unfold lentN
  have : lndN (upd w j v) x = lndN w x := funext fun l => by
    unfold lndN
    rw [upd_ne _ _ (by omega), upd_ne _ _ (by omega)]
  rw [this]
theorem shN_upd (w : Row) {j : Nat} (hj : j < 15) (v : Int32) (nl i : Nat) : shN (upd w j v) nl i = shN w nl i := by
  unfold shN
  have : borN (upd w j v) (nI i) = borN w (nI i) := funext fun l => by
    unfold borN
    rw [upd_ne _ _ (by omega), upd_ne _ _ (by omega)]
  rw [this, lentN_upd w hj, pt_upd _ _ _ _ _ hj]
theorem wanA_upd (w : Row) {j : Nat} (hj : j < 15) (v : Int32) (n : Nat) : wanA (upd w j v) n = wanA w n := funext fun i => by
  unfold wanA
  rw [wanN_upd w hj]
theorem shA_upd (w : Row) {j : Nat} (hj : j < 15) (v : Int32) (n nl : Nat) : shA (upd w j v) n nl = shA w n nl := funext fun i => by
  unfold shA
  rw [shN_upd w hj]
theorem WL.lo {w : Row} {n nl j : Nat} {v : Int32} (hj : j < 15) (q : WL w n nl) : WL (upd w j v) n nl := by
  refine ⟨fun l hl => ?_, fun i hi => ?_⟩
  · rw [upd_ne _ _ (by omega)]
    exact q.1 l hl
  · rw [pt_upd _ _ _ _ _ hj, lentN_upd w hj]
    exact q.2 i hi
theorem r_powered {h : Hp} (S : Sh h) {w : Row} {n nl t : Nat} (h8 : n ≤ 8) (h10 : nl ≤ 10) (hn : w 2 = nI n) (hl : w 8 = nI nl) (B : WB w) (L : WL w n nl) (H : ∀ i, i < n → WH w i t) (ht : t ≤ 39000) (hp : w 1 ≠ 0) (a b : Row) (hb : ∀ i, 8 ≤ i → b i = 0) :
    ∃ a', s_X9_powered 241 (sQ h w a b) = some (nI (sumNN (getA w n nl).1 n 0), sQ h (midR w n nl) a' (gI (getA w n nl).1)) := by
  obtain ⟨e1, h1, e2, h2, e3, h3, e4, h4⟩ := B.n
  obtain ⟨s1, s2, s3, s4⟩ := getA_sum (w := w) (nl := nl) h8
  have hf : filN w < 2 ^ 31 := by unfold filN; omega
  have hh : heaN w ≤ 2000 := by unfold heaN; omega
  have w0 : ∀ j, j ≠ 7 → j ≠ 13 → (upd (upd w 7 (nI (filN w))) 13 (w 13 + (nI (filN w) - w 7))) j = w j := fun j j1 j2 => by rw [upd_ne _ _ j2, upd_ne _ _ j1]
  have hfill := r_fillStore S B a b
  have hheat := r_heatNow S (w := upd (upd w 7 (nI (filN w))) 13 (w 13 + (nI (filN w) - w 7))) (o := outN w) (f := filN w) ((w0 5 (by omega) (by omega)).trans e3) (by rw [upd_ne _ _ (by omega), upd_eq]) (by omega) hf a b
  obtain ⟨a', hsp⟩ := r_split S (w := upd (upd w 7 (nI (filN w))) 13 (w 13 + (nI (filN w) - w 7))) (n := n) (nl := nl) (t := t) (x := heaN w) h8 h10 ((w0 2 (by omega) (by omega)).trans hn) ((w0 8 (by omega) (by omega)).trans hl) ((L.lo (by omega)).lo (by omega)) (fun i hi => ((H i hi).lo (by omega)).lo (by omega)) (by omega) hh a b hb
  rw [wanA_upd _ (by omega), wanA_upd _ (by omega), shA_upd _ (by omega), shA_upd _ (by omega)] at hsp
  change s_X9_split 241 (nI (heaN w)) _ = some (nI (heaN w) - nI (getA w n nl).2, sQ h _ a' (gI (getA w n nl).1)) at hsp
  rw [nI_sub s2, ← s1] at hsp
  change s_X9_heatNow 241 _ = some (nI (heaN w), _) at hheat
  refine ⟨a', ?_⟩
  unfold s_X9_powered
  rw [hfill]
  simp only [q_inv S, bnd]
  simp only [inv, bnd, hT_sQ, S.m0, if_true, hheat, hsp]
  generalize htot : sumNN (getA w n nl).1 n 0 = tot at *
  simp only [qg S, ql_7 S, qs_7 S, ql_14 S, qs_14 S, upd_ne _ (k := 13) _ (show (7 : Nat) ≠ 13 by omega), upd_ne _ (k := 13) _ (show (14 : Nat) ≠ 13 by omega), upd_ne _ (k := 7) _ (show (14 : Nat) ≠ 7 by omega), upd_eq]
  have hpow := r_powL S (n := n) (t := t) (g := (getA w n nl).1) h8 ht (fun i => Nat.le_trans (s3 i) (by
    unfold wanA
    split
    · exact wanN_le _ _
    · omega)) (v1 := nI tot) (a := a') n 0 100000 (upd (upd (upd (upd w 7 (nI (filN w))) 13 (w 13 + (nI (filN w) - w 7))) 7 (nI (filN w) - nI tot)) 14 (w 14 + nI tot)) (by omega) (by omega) (by rw [upd_ne _ _ (by omega), upd_ne _ _ (by omega), w0 2 (by omega) (by omega)]; exact hn) (fun i _ hi => ((((H i hi).lo (by omega)).lo (by omega)).lo (by omega)).lo (by omega))
  refine hpow.trans ?_
  rw [giv_ref]
  unfold midR givR
  rw [if_neg hp, htot]
  rw [upd_comm w (k := 7) (j := 13) _ _ (by omega), upd_upd, itF_upd (fun w i v => heatF_upd _ (show 14 < 15 by omega) w i v), itF_upd (fun w i v => heatF_upd _ (show 7 < 15 by omega) w i v)]
theorem r_cool {h : Hp} (S : Sh h) {n t : Nat} {w : Row} (h8 : n ≤ 8) (ht : t ≤ 40000) (hn : w 2 = nI n) (H : ∀ i, i < n → WH w i t) (a b : Row) : s_X9_cool 241 (sQ h w a b) = some ((), sQ h (itF coolF 0 n w) a b) := r_coolL S h8 ht a b n 0 100000 w (by omega) (by omega) hn H
theorem r_unlock {h : Hp} (S : Sh h) {n t : Nat} {w : Row} (h8 : n ≤ 8) (ht : t ≤ 40000) (hn : w 2 = nI n) (H : ∀ i, i < n → WH w i t) (a b : Row) : s_X9_unlock 241 (sQ h w a b) = some ((), sQ h (itF unlockF 0 n w) a b) := r_unlockL S h8 ht a b n 0 100000 w (by omega) (by omega) hn H
theorem r_endLeases {h : Hp} (S : Sh h) {nl : Nat} {w : Row} (h10 : nl ≤ 10) (hl : w 8 = nI nl) (a b : Row) : s_X9_endLeases 241 (sQ h w a b) = some ((), sQ h (upd (lsF nl 0 0 w).1 8 (nI (lsF nl 0 0 w).2)) a b) := r_leaseL S h10 a b nl 0 0 100000 w (by omega) (by omega) (by omega) hl
theorem aftR_off {w : Row} {n nl : Nat} (h : w 1 = 0) : aftR w n nl = upd (itF coolF 0 n w) 11 (w 11 + 1) := by
  unfold aftR midR
  rw [if_pos h, rest_off (by rw [upd_ne _ _ (by omega)]; exact h), itF_upd (fun w i v => coolF_upd (show 11 < 15 by omega) w i v)]
theorem aftR_on {w : Row} {n nl : Nat} (h : w 1 ≠ 0) : aftR w n nl = itF unlockF 0 n (itF coolF 0 n (midR w n nl)) := by
  unfold aftR
  refine rest_on ?_
  rw [midR_lo w n nl 1 (by omega) (by omega) (by omega) (by omega) (by omega) (by omega)]
  exact h
theorem r_minute {h : Hp} (S : Sh h) {w : Row} {n nl t : Nat} (h8 : n ≤ 8) (h10 : nl ≤ 10) (hn : w 2 = nI n) (hl : w 8 = nI nl) (B : WB w) (L : WL w n nl) (H : ∀ i, i < n → WH w i t) (ht : t ≤ 39000) (hp : w 1 = 0 ∨ w 1 = 1) (HM : ∀ i, i < n → WH (midR w n nl) i (t + 1)) (a b : Row) (hb : ∀ i, 8 ≤ i → b i = 0) :
    ∃ a' b', s_X9_minute 241 (sQ h w a b) = some (minH w n nl, sQ h (minR w n nl) a' b') ∧ ∀ i, 8 ≤ i → b' i = 0 := by
  have end' : ∀ (u a b : Row) (v2 : Int32), u = aftR w n nl → (bnd (s_X9_endLeases 241 (sQ h u a b)) fun _ h => getR h 241 9 0 fun x5 => ldI h x5 20 0 fun x6 => stI h x5 20 0 (x6 + 1) fun h => retI v2 h) = some (v2, sQ h (minR w n nl) a b) := by
    intro u a b v2 hu
    have hl' : u 8 = nI nl := by rw [hu, aftR_lo _ _ _ _ (by omega), midR_lo w n nl 8 (by omega) (by omega) (by omega) (by omega) (by omega) (by omega)]; exact hl
    rw [r_endLeases S h10 hl', hu]
    simp only [bnd, qg S, ql_0 S, qs_0 S, retI, upd_ne _ (k := 8) _ (show (0 : Nat) ≠ 8 by omega)]
    rfl
  unfold s_X9_minute
  simp only [qg S, ql_1 S]
  rcases hp with q | q
  · refine ⟨a, b, ?_, hb⟩
    rw [q, if_neg (by decide)]
    unfold s_X9_minute_J15 s_X9_minute_J28 s_X9_minute_J41 s_X9_minute_J58
    simp only [if_true, q_inv S, r_cool S h8 (show t ≤ 40000 by omega) hn H, bnd, qg S, ql_11 S, qs_11 S]
    unfold minH
    rw [if_pos q]
    refine end' _ a b 0 ?_
    rw [aftR_off q, itF_lo (fun w i => coolF_off w i 11 (by omega))]
  · have q0 : w 1 ≠ 0 := by rw [q]; decide
    obtain ⟨a', hpw⟩ := r_powered S h8 h10 hn hl B L H ht q0 a b hb
    refine ⟨a', gI (getA w n nl).1, ?_, fun i hi => by show nI _ = 0; rw [(getA_sum h8).2.2.2 i hi]; rfl⟩
    have hn1 : midR w n nl 2 = nI n := (midR_lo w n nl 2 (by omega) (by omega) (by omega) (by omega) (by omega) (by omega)).trans hn
    have hn2 : itF coolF 0 n (midR w n nl) 2 = nI n := (itF_lo (fun w i => coolF_off w i 2 (by omega)) n 0 _).trans hn1
    rw [q, if_pos rfl]
    unfold s_X9_minute_J15 s_X9_minute_J28 s_X9_minute_J41 s_X9_minute_J58
    rw [hpw]
    simp only [show ((1 : Int32) = 0) = False from eq_false (by decide), if_false, q_inv S, bnd]
    rw [r_cool S h8 (show t + 1 ≤ 40000 by omega) hn1 HM]
    simp only [inv, hT_sQ, S.m0, if_true, bnd]
    rw [r_unlock S h8 (show t + 1 ≤ 40000 by omega) hn2 (WH.coolAll (by omega) n 0 _ (by omega) HM)]
    simp only [qg S, ql_11 S, qs_11 S, Int32.add_zero, upd_self, hT_sQ, S.m0, if_true]
    unfold minH
    rw [if_neg q0]
    exact end' _ a' _ _ (aftR_on q0).symm
/-- houses after a whole minute -/
theorem minR_WH {w : Row} {n nl t : Nat} (h8 : n ≤ 8) (ht : t ≤ 39000) (HM : ∀ i, i < n → WH (midR w n nl) i (t + 1)) (hp : w 1 = 0 ∨ w 1 = 1) : ∀ i, i < n → WH (minR w n nl) i (t + 1) := by
  intro i hi
  have e : midR w n nl 1 = w 1 := midR_lo w n nl 1 (by omega) (by omega) (by omega) (by omega) (by omega) (by omega)
  have h1 : WH (aftR w n nl) i (t + 1) := by
    unfold aftR
    rcases hp with q | q
    · rw [rest_off (by rw [e]; exact q)]
      exact WH.coolAll (by omega) n 0 _ (by omega) HM i hi
    · rw [rest_on (by rw [e, q]; decide)]
      exact WH.unlockAll n 0 _ (by omega) (WH.coolAll (by omega) n 0 _ (by omega) HM) i hi
  unfold minR
  exact WH.lo (by omega) (WH.lo (by omega) (h1.congr (fun k hk => lsF_lo _ _ _ _ _ (by omega))))
