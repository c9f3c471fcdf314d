/-! the law's programs, whole -/
def KVg (kv : Nat × Nat) : Prop := (kv.1 = 100 ∧ kv.2 = 0) ∨ (kv.1 = 102 ∧ 1 ≤ kv.2 ∧ kv.2 ≤ 60) ∨ (kv.1 = 104 ∧ 16 ≤ kv.2 ∧ kv.2 ≤ 95) ∨ (kv.1 = 119 ∧ 1 ≤ kv.2 ∧ kv.2 ≤ 99) ∨ (kv.1 = 115 ∧ 1 ≤ kv.2 ∧ kv.2 ≤ 30)
theorem KVg.kv {kv : Nat × Nat} (h : KVg kv) : KV kv := by
  unfold KVg at h
  unfold KV
  omega
theorem l_kind {H : Hp} {i n kk f : Nat} {x : Int32} {k248 : Nat → Int32 → Nat → Int32 → Hp → Rv Int32} (hk : kk < n) (hn : n < 100) :
    ∃ kv, KVg kv ∧ s_X10_program_L17 k248 (f + 1) 1 (nI i) x 242 243 (nI n) (nI kk) H = s_X10_program_J135 (fun y0 y1 y2 y3 y4 y5 y6 h => s_X10_program_L17 k248 f y0 y1 y2 y3 y4 y5 y6 h) 1 (nI i) x 242 243 (nI n) (nI kk) (nI kv.1) (nI kv.2) H := by
  rw [s_X10_program_L17, if_neg (by rw [nI_leE (by omega) (by omega)]; omega), l_low6]
  simp only [bnd]
  have hw := lowN_lt (shrI x (2 + 5 * nI kk)) (show 0 < 6 by omega)
  generalize lowN (shrI x (2 + 5 * nI kk)) 6 = w at *
  have c : ∀ a : Nat, a < 100 → (nI w = nI a) = (w = a) := fun a ha => nI_eqE (by omega) (by omega)
  have c2 : ((2 : Int32) ≤ nI w) = (2 ≤ w) := nI_leE (a := 2) (by omega) (by omega)
  have other : ∀ K : Nat, (K = 102 ∨ K = 119 ∨ K = 115) → ∃ kv, KVg kv ∧ s_X10_program_J89 (fun y0 y1 y2 y3 y4 y5 y6 h => s_X10_program_L17 k248 f y0 y1 y2 y3 y4 y5 y6 h) 1 (nI i) x 242 243 (nI n) (nI kk) (shrI x (2 + 5 * nI kk)) (nI K) H = s_X10_program_J135 (fun y0 y1 y2 y3 y4 y5 y6 h => s_X10_program_L17 k248 f y0 y1 y2 y3 y4 y5 y6 h) 1 (nI i) x 242 243 (nI n) (nI kk) (nI kv.1) (nI kv.2) H := fun K hK => by
    have h20 := lowN_lt (shrI (shrI x (2 + 5 * nI kk)) 2) (show 0 < 20 by omega)
    refine ⟨(K, 1 + lowN (shrI (shrI x (2 + 5 * nI kk)) 2) 20), ?_, ?_⟩
    · unfold KVg
      simp only
      omega
    · unfold s_X10_program_J89
      have n1 : ¬ nI K = 100 := by rcases hK with y | y | y <;> (rw [y]; decide)
      have n2 : ¬ nI K = 104 := by rcases hK with y | y | y <;> (rw [y]; decide)
      rw [if_neg n1, if_neg n2, l_low20]
      simp only [bnd]
      rw [show (1 : Int32) = nI 1 from rfl, nI_add]
  by_cases z2 : 2 ≤ w
  · rw [if_pos (Eq.mpr c2 z2)]
    by_cases e2 : w = 2
    · rw [if_pos (show nI w = 2 from by rw [e2]; rfl)]
      have h60 := lowN_lt (shrI (shrI x (2 + 5 * nI kk)) 2) (show 0 < 60 by omega)
      refine ⟨(104, 16 + lowN (shrI (shrI x (2 + 5 * nI kk)) 2) 60), ?_, ?_⟩
      · exact Or.inr (Or.inr (Or.inl ⟨rfl, Nat.le_add_right _ _, by show 16 + lowN (shrI (shrI x (2 + 5 * nI kk)) 2) 60 ≤ 95; omega⟩))
      · unfold s_X10_program_J89
        rw [if_neg (by decide), if_pos rfl, l_low60]
        simp only [bnd]
        rw [show (16 : Int32) = nI 16 from rfl, nI_add]
        rfl
    · rw [if_neg (show ¬ nI w = 2 from fun y => e2 (Eq.mp (c 2 (by omega)) y))]
      by_cases e3 : w = 3
      · rw [if_pos (show nI w = 3 from by rw [e3]; rfl)]
        exact other 119 (by omega)
      · rw [if_neg (show ¬ nI w = 3 from fun y => e3 (Eq.mp (c 3 (by omega)) y))]
        by_cases e4 : w = 4
        · rw [if_pos (show nI w = 4 from by rw [e4]; rfl)]
          refine ⟨(100, 0), Or.inl ⟨rfl, rfl⟩, ?_⟩
          unfold s_X10_program_J89
          rw [if_pos rfl]
          rfl
        · rw [if_neg (show ¬ nI w = 4 from fun y => e4 (Eq.mp (c 4 (by omega)) y))]
          exact other 115 (by omega)
  · rw [if_neg (fun y => z2 (Eq.mp c2 y))]
    exact other 102 (by omega)
/-- the law's programs while a text is typed -/
def PP (p0 p : Row) (i : Nat) (L : List (Nat × Nat)) (run : Prop) : Prop := (run → p = p0) ∧ (¬ run → ∀ j, j < L.length → p (8 * i + j) = nI (1000 * (L.getD j (0, 0)).2 + (L.getD j (0, 0)).1)) ∧ ∀ a, (a < 8 * i ∨ 8 * i + 8 ≤ a) → p a = p0 a
theorem l_progL {q o l g p0 : Row} {e : Ent} {i n : Nat} {x : Int32} {k248 : Nat → Int32 → Nat → Int32 → Hp → Rv Int32} (hi : i < 3) (hn : n ≤ 4) (hn1 : 1 ≤ n) : ∀ (d kk f m : Nat) (h : Hp) (p Ct : Row) (L : List (Nat × Nat)), kk + d = n → d < f → L.length = kk → CST (sV h q o p l g) e → TXT (sV h q o p l g) m Ct → m ≤ 4 * kk → ((kk = 0 → m = 0) ∧ (kk ≠ 0 → TP Ct m L 0)) → (∀ kv, kv ∈ L → KVg kv) → PP p0 p i L (ho o i 5 = 1) →
    ∃ h1 p1 C1 m1 L1, s_X10_program_L17 k248 f 1 (nI i) x 242 243 (nI n) (nI kk) (sV h q o p l g) = k248 1 (nI i) 242 (nI n) (sV h1 q o p1 l g) ∧ CST (sV h1 q o p1 l g) e ∧ TXT (sV h1 q o p1 l g) m1 C1 ∧ L1.length = n ∧ TP C1 m1 L1 0 ∧ (∀ kv, kv ∈ L1 → KVg kv) ∧ PP p0 p1 i L1 (ho o i 5 = 1)
  | 0, kk, f, m, h, p, Ct, L, hk, hf, hL, C, X, hm, hT, hG, hP => by
    obtain ⟨f, rfl, -⟩ := fuel_succ hf
    refine ⟨h, p, Ct, m, L, ?_, C, X, by omega, hT.2 (by omega), hG, hP⟩
    rw [s_X10_program_L17, if_pos (by rw [nI_leE (by omega) (by omega)]; omega)]
  | d + 1, kk, f, m, h, p, Ct, L, hk, hf, hL, C, X, hm, hT, hG, hP => by
    obtain ⟨f, rfl, hf2⟩ := fuel_succ hf
    obtain ⟨kv, g1, e1⟩ := l_kind (H := sV h q o p l g) (i := i) (n := n) (kk := kk) (f := f) (x := x) (k248 := k248) (by omega) (by omega)
    obtain ⟨h1, C1, m1, a1, a2, a3, a4, a5⟩ := l_sep C X (show m < 49 by omega) g1.kv (show kk < 5 by omega) (i := i) (x := x) (n := nI n) (k17 := fun y0 y1 y2 y3 y4 y5 y6 h => s_X10_program_L17 k248 f y0 y1 y2 y3 y4 y5 y6 h) hL hT
    have T1 : LT5 h1 := a2.sh.lt5
    rw [e1, a1]
    unfold s_X10_program_J211
    rw [vo_5 T1 _ _ _ _ _ hi]
    have mem : ∀ kv', kv' ∈ L ++ [kv] → KVg kv' := fun kv' h => by
      rcases List.mem_append.mp h with y | y
      · exact hG kv' y
      · rw [List.mem_singleton.mp y]; exact g1
    have fin : ∀ (p2 : Row), PP p0 p2 i (L ++ [kv]) (ho o i 5 = 1) → ∃ h1' p1 C1 m1 L1, s_X10_program_L17 k248 f 1 (nI i) x 242 243 (nI n) (nI kk + 1) (sV h1 q o p2 l g) = k248 1 (nI i) 242 (nI n) (sV h1' q o p1 l g) ∧ CST (sV h1' q o p1 l g) e ∧ TXT (sV h1' q o p1 l g) m1 C1 ∧ L1.length = n ∧ TP C1 m1 L1 0 ∧ (∀ kv, kv ∈ L1 → KVg kv) ∧ PP p0 p1 i L1 (ho o i 5 = 1) := fun p2 hp2 => by
      have X2 : TXT (sV h1 q o p2 l g) m1 C1 := a3.fr (fun x hx => by rw [hI_sVn _ _ _ _ _ _ _ (by omega), hI_sVn _ _ _ _ _ _ _ (by omega)])
      rw [nI_1]
      exact l_progL hi hn hn1 d (kk + 1) f m1 h1 p2 C1 (L ++ [kv]) (by omega) (by omega) (by rw [List.length_append, hL]; rfl) a2.rows0 X2 (by omega) ⟨fun y => by omega, fun _ => a4⟩ mem hp2
    by_cases z : ho o i 5 = 1
    · rw [if_pos z]
      exact fin p ⟨fun _ => hP.1 z, fun y => absurd z y, hP.2.2⟩
    · rw [if_neg z, wp_c T1 _ _ _ _ _ hi (show kk < 8 by omega)]
      refine fin _ ⟨fun y => absurd y z, fun _ j hj => ?_, fun a ha => ?_⟩
      · by_cases y : j = kk
        · subst y
          have eg : (L ++ [kv]).getD j (0, 0) = kv := by
            rw [List.getD_eq_getElem?_getD, List.getElem?_append_right (by omega), hL]
            simp
          rw [upd_eq, eg, show (1000 : Int32) = nI 1000 from rfl, nI_mul, nI_add]
        · have hj' : j < L.length := by
            rw [List.length_append] at hj
            simp at hj
            omega
          have eg : (L ++ [kv]).getD j (0, 0) = L.getD j (0, 0) := by
            rw [List.getD_eq_getElem?_getD, List.getD_eq_getElem?_getD, List.getElem?_append_left hj']
          rw [upd_ne _ _ (by omega), eg]
          exact hP.2.1 z j hj'
      · rw [upd_ne _ _ (by omega)]
        exact hP.2.2 a ha
theorem gd_is {kv : Nat × Nat} (h : KVg kv) : gdF (nI kv.1) (nI kv.2) = true := by
  obtain ⟨k, v⟩ := kv
  unfold gdF
  rcases h with ⟨a, b⟩ | ⟨a, b, c⟩ | ⟨a, b, c⟩ | ⟨a, b, c⟩ | ⟨a, b, c⟩ <;> simp only at a b
  · subst a; subst b; rfl
  · simp only at c
    subst a
    rw [if_pos (show nI 102 = 102 from rfl)]
    exact decide_eq_true ((nI_leI (a := v) (b := 60) (by omega) (by omega)).mpr c)
  · simp only at c
    subst a
    rw [if_neg (show ¬ nI 104 = 102 by decide), if_pos (show nI 104 = 104 from rfl)]
    exact decide_eq_true ⟨(nI_leI (a := 16) (b := v) (by omega) (by omega)).mpr b, (nI_leI (a := v) (b := 95) (by omega) (by omega)).mpr c⟩
  · subst a
    rfl
  · simp only at c
    subst a
    rw [if_neg (show ¬ nI 115 = 102 by decide), if_neg (show ¬ nI 115 = 104 by decide), if_pos (show nI 115 = 115 from rfl)]
    exact decide_eq_true ((nI_leI (a := v) (b := 30) (by omega) (by omega)).mpr c)
theorem gl_is {L : List (Nat × Nat)} (h : ∀ kv, kv ∈ L → KVg kv) : ∀ (d k : Nat), k + d ≤ L.length → gLF (L.map toI) d k = true
  | 0, _, _ => rfl
  | d + 1, k, hk => by
    have e : (L.map toI).getD k (0, 0) = toI (L.getD k (0, 0)) := by
      rw [List.getD_eq_getElem?_getD, List.getD_eq_getElem?_getD, List.getElem?_map, List.getElem?_eq_getElem (by omega)]
      rfl
    have hm : L.getD k (0, 0) ∈ L := by
      rw [List.getD_eq_getElem?_getD, List.getElem?_eq_getElem (by omega)]
      exact List.getElem_mem _
    unfold gLF
    rw [e, show gdF (toI (L.getD k (0, 0))).1 (toI (L.getD k (0, 0))).2 = true from gd_is (h _ hm)]
    simp only [if_true]
    exact gl_is h d (k + 1) (by omega)
/-- what l_program leaves -/
theorem l_program {h : Hp} {q o p l g w : Row} {nh nl t i : Nat} (x : Int32) (C : CST (sV h q o p l g) (w, nh, nl)) (W : WF w nh nl t) (h3 : nh ≤ 3) (hi : i < nh) (A : ∀ j, j < nh → HA o p w j) :
    ∃ h' o' p' w', s_X10_program 1 (nI i) x 242 243 (sV h q o p l g) = some (1, sV h' q o' p' l g) ∧ CST (sV h' q o' p' l g) (w', nh, nl) ∧ WF w' nh nl t ∧ (∀ j, j < nh → HA o' p' w' j) ∧ (∀ j, (j < 15 ∨ 351 ≤ j) → w' j = w j) ∧ (∀ j k, j < 8 → k < 15 → pt w' j k = pt w j k) ∧ (∀ j, (j < 15 + 42 * i ∨ 15 + 42 * i + 42 ≤ j) → w' j = w j) ∧ ((pt w i 9 = 1 → pt w i 15 ≠ 0) → pt w' i 15 ≠ 0) ∧ ∀ j c, j ≠ i → j < 3 → c < 16 → ho o' j c = ho o j c := by
  have S := C.sh
  have i3 : i < 3 := by omega
  obtain ⟨n0, hn0, en0⟩ : ∃ n, n < 4 ∧ lowN x 4 = n := ⟨_, lowN_lt x (by omega), rfl⟩
  unfold s_X10_program
  rw [l_low4, en0]
  simp only [bnd]
  obtain ⟨r0, h1, a1, a2, a3, a4⟩ := q_clearText C
  have e1 := a3.sv
  rw [e1] at a1 a2 a4
  rw [S.i8, a1]
  simp only [bnd]
  obtain ⟨h2, p1, C1, m1, L1, b1, b2, b3, b4, b5, b6, b7⟩ := l_progL (q := q) (o := o) (l := l) (g := g) (p0 := p) (e := (w, nh, nl)) (i := i) (n := 1 + n0) (x := x) (k248 := fun y0 y1 y2 y3 h => ldI h y2 20 ((16 * y1) + 5) fun x13 =>
    if x13 = 1 then inv h y0 8 (s_X8_readProgram y0 y1 h) fun x15 h =>
    if x15 = (-4) then retZ 1 h
    else retZ 0 h
    else stI h y2 20 ((16 * y1) + 11) y3 fun h =>
    inv h y0 8 (s_X8_readProgram y0 y1 h) fun x14 h =>
    if x14 = y3 then retZ 1 h
    else retZ 0 h) i3 (by omega) (by omega) (1 + n0) 0 100000 0 h1 p (fun _ => 0) [] (by omega) (by omega) rfl a2 a4 (by omega) ⟨fun _ => rfl, fun y => absurd rfl y⟩ (fun kv y => absurd y (List.not_mem_nil)) ⟨fun _ => rfl, fun _ j hj => absurd hj (Nat.not_lt_zero j), fun _ _ => rfl⟩
  have e2 : (1 : Int32) + nI n0 = nI (1 + n0) := nI_add 1 n0
  rw [show nI 0 = (0 : Int32) from rfl] at b1
  rw [e2, b1]
  have S2 := b2.sh
  have T2 : LT5 h2 := S2.lt5
  have m60 : m1 ≤ 60 := b3.1
  have lmap : (L1.map toI).length = 1 + n0 := by rw [List.length_map, b4]
  have hpr : prs C1 m1 61 0 = (m1, some (L1.map toI)) := TP_prs L1 0 61 b5 (by omega)
  have gl : gLF (L1.map toI) (L1.map toI).length 0 = true := gl_is b6 _ 0 (by rw [lmap, b4]; omega)
  have hA := A i hi
  have a5 : ho o i 5 = pt w i 9 := hA.2.1.1
  rw [vo_5 T2 _ _ _ _ _ i3]
  by_cases z : ho o i 5 = 1
  · rw [if_pos z, S2.i8]
    obtain ⟨h3', c1, c2, c3⟩ := (q_readProgram b2 W b3 hpr (by omega) gl (show i < (w, nh, nl).2.1 from hi)).1 (a5.symm.trans z)
    have e3 := c3.sv
    rw [e3] at c1 c2
    rw [c1]
    simp only [bnd]
    rw [if_pos trivial]
    refine ⟨h3', o, p1, w, rfl, c2, W, ?_, fun _ _ => rfl, fun _ _ _ _ => rfl, fun _ _ => rfl, fun y => y (a5.symm.trans z), fun _ _ _ _ _ => rfl⟩
    rw [b7.1 z]
    exact A
  · rw [if_neg z, wo_11 T2 _ _ _ _ _ i3]
    have b2' : CST (sV h2 q (so o i 11 (nI (1 + n0))) p1 l g) (w, nh, nl) := b2.rows0
    have b3' : TXT (sV h2 q (so o i 11 (nI (1 + n0))) p1 l g) m1 C1 := b3.fr (fun x hx => by rw [hI_sVn _ _ _ _ _ _ _ (by omega), hI_sVn _ _ _ _ _ _ _ (by omega)])
    rw [b2'.sh.i8]
    obtain ⟨h3', c1, c2, c3, c4⟩ := (q_readProgram b2' W b3' hpr (by omega) gl (show i < (w, nh, nl).2.1 from hi)).2 (fun y => z (a5.trans y))
    have e3 := c3.sv
    rw [e3] at c1 c2
    rw [c1]
    simp only [bnd]
    rw [lmap, if_pos rfl]
    have l12 : (L1.map toI).length ≤ 12 := by omega
    have off := fun j hj => prgW_off w i (L := L1.map toI) l12 (j := j) hj
    have lo := fun k hk h15 => prgW_lo w i (L := L1.map toI) l12 (q := k) hk h15
    have gd : ∀ k, k < 1 + n0 → (L1.map toI).getD k (0, 0) = toI (L1.getD k (0, 0)) ∧ L1.getD k (0, 0) ∈ L1 := fun k hk => by
      constructor
      · rw [List.getD_eq_getElem?_getD, List.getD_eq_getElem?_getD, List.getElem?_map, List.getElem?_eq_getElem (by omega)]
        rfl
      · rw [List.getD_eq_getElem?_getD, List.getElem?_eq_getElem (by omega)]
        exact List.getElem_mem _
    refine ⟨h3', so o i 11 (nI (1 + n0)), p1, prgW w i (L1.map toI), rfl, c2, c4, fun j hj => ?_, fun j hj => ?_, fun j k hj hk => ?_, off, fun _ => ?_, fun j c hj _ hc => ho_so_ne _ _ (Ne.symm hj) (by omega) hc⟩
    · by_cases y : j = i
      · subst y
        obtain ⟨cc, aa, P, G⟩ := hA
        refine ⟨?_, ?_, ⟨1 + n0, by omega, by rw [prgW_15, lmap], fun k hk => ?_⟩, ⟨fun np k e h12 hk yy => ?_, fun yy => ?_⟩⟩
        · unfold HLc
          rw [lo 0 (by omega) (by omega), lo 1 (by omega) (by omega), lo 2 (by omega) (by omega), lo 3 (by omega) (by omega), lo 4 (by omega) (by omega), lo 7 (by omega) (by omega), lo 8 (by omega) (by omega)]
          simp only [ho_so, Nat.reduceEqDiff, if_false]
          exact cc
        · unfold HLw
          rw [lo 9 (by omega) (by omega), lo 10 (by omega) (by omega), lo 11 (by omega) (by omega), lo 12 (by omega) (by omega), lo 13 (by omega) (by omega), lo 14 (by omega) (by omega), prgW_15, lmap, lo 16 (by omega) (by omega), lo 17 (by omega) (by omega)]
          simp only [ho_so, Nat.reduceEqDiff, if_false, if_true]
          exact ⟨aa.1, aa.2.1, aa.2.2.1, aa.2.2.2.1, trivial, aa.2.2.2.2.2⟩
        · obtain ⟨u1, u2⟩ := prgW_k w j (L := L1.map toI) l12 (k := k) (by omega)
          rw [u1, u2, (gd k hk).1, b7.2.1 z k (by omega)]
          unfold toI
          rw [show (1000 : Int32) = nI 1000 from rfl, nI_mul, nI_add]
        · rw [prgW_15, lmap] at e
          have enp : 1 + n0 = np := (nI_eq (by omega) (by omega)).mp e
          obtain ⟨u1, u2⟩ := prgW_k w j (L := L1.map toI) l12 (k := k) (by omega)
          have kg := b6 _ (gd k (by omega)).2
          rw [u2, (gd k (by omega)).1]
          rw [u1, (gd k (by omega)).1] at yy
          unfold toI at yy ⊢
          generalize L1.getD k (0, 0) = kv at *
          obtain ⟨a, v⟩ := kv
          unfold KVg at kg
          simp only at kg yy ⊢
          have ka : a < 128 := by omega
          have n119 : (nI a = (119 : Int32)) = (a = 119) := nI_eqE (b := 119) (by omega) (by omega)
          have n115 : (nI a = (115 : Int32)) = (a = 115) := nI_eqE (b := 115) (by omega) (by omega)
          have aa : a = 119 ∨ a = 115 := yy.elim (fun y => Or.inl (Eq.mp n119 y)) (fun y => Or.inr (Eq.mp n115 y))
          intro v0
          have := (nI_0' v (by omega)).mp v0
          omega
        · rw [lo 9 (by omega) (by omega)] at yy
          exact absurd (a5.trans yy) z
      · have pj : ∀ k, k < 42 → pt (prgW w i (L1.map toI)) j k = pt w j k := fun k hk => off _ (by omega)
        have hj' := (A j hj).other (o' := so o i 11 (nI (1 + n0))) (fun c hc => ho_so_ne _ _ (Ne.symm y) (by omega) hc)
        obtain ⟨cc, aa, ⟨np, p4, p5, p6⟩, G⟩ := hj'.congr pj
        exact ⟨cc, aa, ⟨np, p4, p5, fun k hk => by rw [b7.2.2 _ (by omega)]; exact p6 k hk⟩, G⟩
    · exact off j (by omega)
    · by_cases y : j = i
      · rw [y]
        exact lo k (by omega) (by omega)
      · exact off _ (by omega)
    · rw [prgW_15, lmap]
      exact fun y => by have := (nI_0' (1 + n0) (by omega)).mp y; omega
