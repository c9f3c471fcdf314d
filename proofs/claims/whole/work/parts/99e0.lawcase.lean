/-! the law's cases -/
set_option maxRecDepth 100000 in
set_option maxHeartbeats 4000000 in
theorem law_0 {base : Nat} {D : va_G} {cA : Nat → ClassId} {p : Program} {l : Launch} {e : Env} {s : State} {m : MethodId} {args : Array Value} {below : List Frame} {meth : Method} {c : Code} {Q : State → Prop} (C : GC base D cA p s m args meth c cL_law 4 RL) {b L : Nat} {xs : Nat → Int32} (hX : va_X b L xs s s.heap) (hbl : b < s.heap.size) (hbA : ¬ AA base b) {i : Nat} (hi : i + 6 ≤ L) (hL : L ≤ 3072) {h : Hp} {t : Nat} (ht : t ≤ 38000) (R : REL h t) {cells slots : Nat} (hc : cells + 3 ≤ 600000) (hs : slots + 131 ≤ 7302250) (K : ∀ h2, REL h2 (t + 60) → GW base D cA p l e room_1 s m args below meth c Q 4 h2 (cells + 3) (slots + 131) 858 (lvL base b i) []) : GW base D cA p l e room_1 s m args below meth c Q 4 h cells slots 152 (lvL base b i) [] := by
  obtain ⟨r, h1, h2, e1, e2, R2, S1⟩ := p_addHouse t (xs (i + 1)) (xs (i + 2)) (xs (i + 3)) h R
  refine g_aload_n C 1 dL_law_152 rfl rfl ?_
  refine g_aload_n C 0 dL_law_153 rfl rfl ?_
  refine g_iload_n C 3 dL_law_154 rfl rfl ?_
  refine g_iconst C 1 dL_law_155 rfl ?_
  refine g_iadd C dL_law_156 ?_
  refine g_sld C hX hbl hbA (j := i + 1) (nI_add i 1) (by omega) (by omega) dL_law_157 ?_
  refine g_aload_n C 0 dL_law_158 rfl rfl ?_
  refine g_iload_n C 3 dL_law_159 rfl rfl ?_
  refine g_iconst C 2 dL_law_160 rfl ?_
  refine g_iadd C dL_law_161 ?_
  refine g_sld C hX hbl hbA (j := i + 2) (nI_add i 2) (by omega) (by omega) dL_law_162 ?_
  refine g_aload_n C 0 dL_law_163 rfl rfl ?_
  refine g_iload_n C 3 dL_law_164 rfl rfl ?_
  refine g_iconst C 3 dL_law_165 rfl ?_
  refine g_iadd C dL_law_166 ?_
  refine g_sld C hX hbl hbA (j := i + 3) (nI_add i 3) (by omega) (by omega) dL_law_167 ?_
  refine g_call C (a := 1) (ci := 8) (q := (RX8, TX8, 7)) (rm := rm_X8_addHouse) [.int (xs (i + 1)), .int (xs (i + 2)), .int (xs (i + 3))] dL_law_168 cl_L_13 lc_X8_addHouse rfl (by decide) rfl rfl ⟨Nat.le_of_ble_eq_true rfl, Nat.le_of_ble_eq_true rfl⟩ (Nat.le_of_ble_eq_true rfl) ⟨by show cells + 0 ≤ 600000; omega, by show slots + 0 ≤ 7302250; omega⟩ rfl (fun r' h' E => o_X8_addHouse l base D cA 1 (xs (i + 1)) (xs (i + 2)) (xs (i + 3)) h r' h' E) e1 R.t1 ?_
  refine g_aload_n C 2 dL_law_171 rfl rfl ?_
  refine g_aload_n C 0 dL_law_172 rfl rfl ?_
  refine g_iload_n C 3 dL_law_173 rfl rfl ?_
  refine g_iconst C 1 dL_law_174 rfl ?_
  refine g_iadd C dL_law_175 ?_
  refine g_sld C hX hbl hbA (j := i + 1) (nI_add i 1) (by omega) (by omega) dL_law_176 ?_
  refine g_aload_n C 0 dL_law_177 rfl rfl ?_
  refine g_iload_n C 3 dL_law_178 rfl rfl ?_
  refine g_iconst C 2 dL_law_179 rfl ?_
  refine g_iadd C dL_law_180 ?_
  refine g_sld C hX hbl hbA (j := i + 2) (nI_add i 2) (by omega) (by omega) dL_law_181 ?_
  refine g_aload_n C 0 dL_law_182 rfl rfl ?_
  refine g_iload_n C 3 dL_law_183 rfl rfl ?_
  refine g_iconst C 3 dL_law_184 rfl ?_
  refine g_iadd C dL_law_185 ?_
  refine g_sld C hX hbl hbA (j := i + 3) (nI_add i 3) (by omega) (by omega) dL_law_186 ?_
  refine g_call C (a := 241) (ci := 9) (q := (RX9, TX9, 13)) (rm := rm_X9_addHouse) [.int (xs (i + 1)), .int (xs (i + 2)), .int (xs (i + 3))] dL_law_187 cl_L_17 lc_X9_addHouse rfl (by decide) rfl rfl ⟨Nat.le_of_ble_eq_true rfl, Nat.le_of_ble_eq_true rfl⟩ (Nat.le_of_ble_eq_true rfl) ⟨by show cells + 0 + 0 ≤ 600000; omega, by show slots + 0 + 0 ≤ 7302250; omega⟩ rfl (fun r' h' E => o_X9_addHouse l base D cA 241 (xs (i + 1)) (xs (i + 2)) (xs (i + 3)) h1 r' h' E) e2 (by rw [S1.m0]) ?_
  refine g_same C 858 dL_law_190 (by decide) ?_
  exact g_widen (cells + 3) (slots + 131) (by show cells + 0 + 0 ≤ cells + 3; omega) (by show slots + 0 + 0 ≤ slots + 131; omega) (K h2 R2)
set_option maxRecDepth 100000 in
set_option maxHeartbeats 4000000 in
theorem law_1 {base : Nat} {D : va_G} {cA : Nat → ClassId} {p : Program} {l : Launch} {e : Env} {s : State} {m : MethodId} {args : Array Value} {below : List Frame} {meth : Method} {c : Code} {Q : State → Prop} (C : GC base D cA p s m args meth c cL_law 4 RL) {b L : Nat} {xs : Nat → Int32} (hX : va_X b L xs s s.heap) (hbl : b < s.heap.size) (hbA : ¬ AA base b) {i : Nat} (hi : i + 6 ≤ L) (hL : L ≤ 3072) {h : Hp} {t : Nat} (ht : t ≤ 38000) (R : REL h t) {cells slots : Nat} (hc : cells + 3 ≤ 600000) (hs : slots + 131 ≤ 7302250) (K : ∀ h2, REL h2 (t + 60) → GW base D cA p l e room_1 s m args below meth c Q 4 h2 (cells + 3) (slots + 131) 858 (lvL base b i) []) : GW base D cA p l e room_1 s m args below meth c Q 4 h cells slots 195 (lvL base b i) [] := by
  obtain ⟨r, h1, h2, e1, e2, R2, S1⟩ := p_set t ht (xs (i + 1)) (xs (i + 2)) h R
  refine g_aload_n C 1 dL_law_195 rfl rfl ?_
  refine g_aload_n C 0 dL_law_196 rfl rfl ?_
  refine g_iload_n C 3 dL_law_197 rfl rfl ?_
  refine g_iconst C 1 dL_law_198 rfl ?_
  refine g_iadd C dL_law_199 ?_
  refine g_sld C hX hbl hbA (j := i + 1) (nI_add i 1) (by omega) (by omega) dL_law_200 ?_
  refine g_aload_n C 0 dL_law_201 rfl rfl ?_
  refine g_iload_n C 3 dL_law_202 rfl rfl ?_
  refine g_iconst C 2 dL_law_203 rfl ?_
  refine g_iadd C dL_law_204 ?_
  refine g_sld C hX hbl hbA (j := i + 2) (nI_add i 2) (by omega) (by omega) dL_law_205 ?_
  refine g_call C (a := 1) (ci := 8) (q := (RX8, TX8, 7)) (rm := rm_X8_set) [.int (xs (i + 1)), .int (xs (i + 2))] dL_law_206 cl_L_18 lc_X8_set rfl (by decide) rfl rfl ⟨Nat.le_of_ble_eq_true rfl, Nat.le_of_ble_eq_true rfl⟩ (Nat.le_of_ble_eq_true rfl) ⟨by show cells + 0 ≤ 600000; omega, by show slots + 0 ≤ 7302250; omega⟩ rfl (fun r' h' E => o_X8_set l base D cA 1 (xs (i + 1)) (xs (i + 2)) h r' h' E) e1 R.t1 ?_
  refine g_aload_n C 2 dL_law_209 rfl rfl ?_
  refine g_aload_n C 0 dL_law_210 rfl rfl ?_
  refine g_iload_n C 3 dL_law_211 rfl rfl ?_
  refine g_iconst C 1 dL_law_212 rfl ?_
  refine g_iadd C dL_law_213 ?_
  refine g_sld C hX hbl hbA (j := i + 1) (nI_add i 1) (by omega) (by omega) dL_law_214 ?_
  refine g_aload_n C 0 dL_law_215 rfl rfl ?_
  refine g_iload_n C 3 dL_law_216 rfl rfl ?_
  refine g_iconst C 2 dL_law_217 rfl ?_
  refine g_iadd C dL_law_218 ?_
  refine g_sld C hX hbl hbA (j := i + 2) (nI_add i 2) (by omega) (by omega) dL_law_219 ?_
  refine g_call C (a := 241) (ci := 9) (q := (RX9, TX9, 13)) (rm := rm_X9_set) [.int (xs (i + 1)), .int (xs (i + 2))] dL_law_220 cl_L_22 lc_X9_set rfl (by decide) rfl rfl ⟨Nat.le_of_ble_eq_true rfl, Nat.le_of_ble_eq_true rfl⟩ (Nat.le_of_ble_eq_true rfl) ⟨by show cells + 0 + 0 ≤ 600000; omega, by show slots + 0 + 0 ≤ 7302250; omega⟩ rfl (fun r' h' E => o_X9_set l base D cA 241 (xs (i + 1)) (xs (i + 2)) h1 r' h' E) e2 (by rw [S1.m0]) ?_
  refine g_same C 858 dL_law_223 (by decide) ?_
  exact g_widen (cells + 3) (slots + 131) (by show cells + 0 + 0 ≤ cells + 3; omega) (by show slots + 0 + 0 ≤ slots + 131; omega) (K h2 R2)
set_option maxRecDepth 100000 in
set_option maxHeartbeats 4000000 in
theorem law_2 {base : Nat} {D : va_G} {cA : Nat → ClassId} {p : Program} {l : Launch} {e : Env} {s : State} {m : MethodId} {args : Array Value} {below : List Frame} {meth : Method} {c : Code} {Q : State → Prop} (C : GC base D cA p s m args meth c cL_law 4 RL) {b L : Nat} {xs : Nat → Int32} (hX : va_X b L xs s s.heap) (hbl : b < s.heap.size) (hbA : ¬ AA base b) {i : Nat} (hi : i + 6 ≤ L) (hL : L ≤ 3072) {h : Hp} {t : Nat} (ht : t ≤ 38000) (R : REL h t) {cells slots : Nat} (hc : cells + 3 ≤ 600000) (hs : slots + 131 ≤ 7302250) (K : ∀ h2, REL h2 (t + 60) → GW base D cA p l e room_1 s m args below meth c Q 4 h2 (cells + 3) (slots + 131) 858 (lvL base b i) []) : GW base D cA p l e room_1 s m args below meth c Q 4 h cells slots 228 (lvL base b i) [] := by
  by_cases z : xs (i + 1) = 0
  · obtain ⟨r, h1, h2, e1, e2, R2, S1⟩ := p_power t 0 (Or.inl rfl) h R
    refine g_aload_n C 1 dL_law_228 rfl rfl ?_
    refine g_aload_n C 0 dL_law_229 rfl rfl ?_
    refine g_iload_n C 3 dL_law_230 rfl rfl ?_
    refine g_iconst C 1 dL_law_231 rfl ?_
    refine g_iadd C dL_law_232 ?_
    refine g_sld C hX hbl hbA (j := i + 1) (nI_add i 1) (by omega) (by omega) dL_law_233 ?_
    refine g_ifz C 241 dL_law_234 (by decide) (fun _ => ?_) (fun y => absurd z y)
    refine g_iconst C 0 dL_law_241 rfl ?_
    refine g_call C (a := 1) (ci := 8) (q := (RX8, TX8, 7)) (rm := rm_X8_power) [.int 0] dL_law_242 cl_L_23 lc_X8_power rfl (by decide) rfl rfl ⟨Nat.le_of_ble_eq_true rfl, Nat.le_of_ble_eq_true rfl⟩ (Nat.le_of_ble_eq_true rfl) ⟨by show cells + 0 ≤ 600000; omega, by show slots + 0 ≤ 7302250; omega⟩ rfl (fun r' h' E => o_X8_power l base D cA 1 0 h r' h' E) e1 R.t1 ?_
    refine g_aload_n C 2 dL_law_245 rfl rfl ?_
    refine g_aload_n C 0 dL_law_246 rfl rfl ?_
    refine g_iload_n C 3 dL_law_247 rfl rfl ?_
    refine g_iconst C 1 dL_law_248 rfl ?_
    refine g_iadd C dL_law_249 ?_
    refine g_sld C hX hbl hbA (j := i + 1) (nI_add i 1) (by omega) (by omega) dL_law_250 ?_
    refine g_ifz C 258 dL_law_251 (by decide) (fun _ => ?_) (fun y => absurd z y)
    refine g_iconst C 0 dL_law_258 rfl ?_
    refine g_call C (a := 241) (ci := 9) (q := (RX9, TX9, 13)) (rm := rm_X9_power) [.int 0] dL_law_259 cl_L_27 lc_X9_power rfl (by decide) rfl rfl ⟨Nat.le_of_ble_eq_true rfl, Nat.le_of_ble_eq_true rfl⟩ (Nat.le_of_ble_eq_true rfl) ⟨by show cells + 0 + 0 ≤ 600000; omega, by show slots + 0 + 0 ≤ 7302250; omega⟩ rfl (fun r' h' E => o_X9_power l base D cA 241 0 h1 r' h' E) e2 (by rw [S1.m0]) ?_
    refine g_same C 858 dL_law_262 (by decide) ?_
    exact g_widen (cells + 3) (slots + 131) (by show cells + 0 + 0 ≤ cells + 3; omega) (by show slots + 0 + 0 ≤ slots + 131; omega) (K h2 R2)
  · obtain ⟨r, h1, h2, e1, e2, R2, S1⟩ := p_power t 1 (Or.inr rfl) h R
    refine g_aload_n C 1 dL_law_228 rfl rfl ?_
    refine g_aload_n C 0 dL_law_229 rfl rfl ?_
    refine g_iload_n C 3 dL_law_230 rfl rfl ?_
    refine g_iconst C 1 dL_law_231 rfl ?_
    refine g_iadd C dL_law_232 ?_
    refine g_sld C hX hbl hbA (j := i + 1) (nI_add i 1) (by omega) (by omega) dL_law_233 ?_
    refine g_ifz C 241 dL_law_234 (by decide) (fun y => absurd y z) (fun _ => ?_)
    refine g_iconst C 1 dL_law_237 rfl ?_
    refine g_goto C 242 dL_law_238 (by decide) ?_
    refine g_call C (a := 1) (ci := 8) (q := (RX8, TX8, 7)) (rm := rm_X8_power) [.int 1] dL_law_242 cl_L_23 lc_X8_power rfl (by decide) rfl rfl ⟨Nat.le_of_ble_eq_true rfl, Nat.le_of_ble_eq_true rfl⟩ (Nat.le_of_ble_eq_true rfl) ⟨by show cells + 0 ≤ 600000; omega, by show slots + 0 ≤ 7302250; omega⟩ rfl (fun r' h' E => o_X8_power l base D cA 1 1 h r' h' E) e1 R.t1 ?_
    refine g_aload_n C 2 dL_law_245 rfl rfl ?_
    refine g_aload_n C 0 dL_law_246 rfl rfl ?_
    refine g_iload_n C 3 dL_law_247 rfl rfl ?_
    refine g_iconst C 1 dL_law_248 rfl ?_
    refine g_iadd C dL_law_249 ?_
    refine g_sld C hX hbl hbA (j := i + 1) (nI_add i 1) (by omega) (by omega) dL_law_250 ?_
    refine g_ifz C 258 dL_law_251 (by decide) (fun y => absurd y z) (fun _ => ?_)
    refine g_iconst C 1 dL_law_254 rfl ?_
    refine g_goto C 259 dL_law_255 (by decide) ?_
    refine g_call C (a := 241) (ci := 9) (q := (RX9, TX9, 13)) (rm := rm_X9_power) [.int 1] dL_law_259 cl_L_27 lc_X9_power rfl (by decide) rfl rfl ⟨Nat.le_of_ble_eq_true rfl, Nat.le_of_ble_eq_true rfl⟩ (Nat.le_of_ble_eq_true rfl) ⟨by show cells + 0 + 0 ≤ 600000; omega, by show slots + 0 + 0 ≤ 7302250; omega⟩ rfl (fun r' h' E => o_X9_power l base D cA 241 1 h1 r' h' E) e2 (by rw [S1.m0]) ?_
    refine g_same C 858 dL_law_262 (by decide) ?_
    exact g_widen (cells + 3) (slots + 131) (by show cells + 0 + 0 ≤ cells + 3; omega) (by show slots + 0 + 0 ≤ slots + 131; omega) (K h2 R2)
set_option maxRecDepth 100000 in
set_option maxHeartbeats 4000000 in
theorem law_3 {base : Nat} {D : va_G} {cA : Nat → ClassId} {p : Program} {l : Launch} {e : Env} {s : State} {m : MethodId} {args : Array Value} {below : List Frame} {meth : Method} {c : Code} {Q : State → Prop} (C : GC base D cA p s m args meth c cL_law 4 RL) {b L : Nat} {xs : Nat → Int32} (hX : va_X b L xs s s.heap) (hbl : b < s.heap.size) (hbA : ¬ AA base b) {i : Nat} (hi : i + 6 ≤ L) (hL : L ≤ 3072) {h : Hp} {t : Nat} (ht : t ≤ 38000) (R : REL h t) {cells slots : Nat} (hc : cells + 3 ≤ 600000) (hs : slots + 131 ≤ 7302250) (K : ∀ h2, REL h2 (t + 60) → GW base D cA p l e room_1 s m args below meth c Q 4 h2 (cells + 3) (slots + 131) 858 (lvL base b i) []) : GW base D cA p l e room_1 s m args below meth c Q 4 h cells slots 267 (lvL base b i) [] := by
  obtain ⟨r, h1, h2, e1, e2, R2, S1⟩ := p_pass t ht (xs (i + 1)) h R
  refine g_aload_n C 1 dL_law_267 rfl rfl ?_
  refine g_aload_n C 0 dL_law_268 rfl rfl ?_
  refine g_iload_n C 3 dL_law_269 rfl rfl ?_
  refine g_iconst C 1 dL_law_270 rfl ?_
  refine g_iadd C dL_law_271 ?_
  refine g_sld C hX hbl hbA (j := i + 1) (nI_add i 1) (by omega) (by omega) dL_law_272 ?_
  refine g_call C (a := 1) (ci := 8) (q := (RX8, TX8, 7)) (rm := rm_X8_pass) [.int (xs (i + 1))] dL_law_273 cl_L_28 lc_X8_pass rfl (by decide) rfl rfl ⟨Nat.le_of_ble_eq_true rfl, Nat.le_of_ble_eq_true rfl⟩ (Nat.le_of_ble_eq_true rfl) ⟨by show cells + 0 ≤ 600000; omega, by show slots + 0 ≤ 7302250; omega⟩ rfl (fun r' h' E => o_X8_pass l base D cA 1 (xs (i + 1)) h r' h' E) e1 R.t1 ?_
  refine g_aload_n C 2 dL_law_276 rfl rfl ?_
  refine g_aload_n C 0 dL_law_277 rfl rfl ?_
  refine g_iload_n C 3 dL_law_278 rfl rfl ?_
  refine g_iconst C 1 dL_law_279 rfl ?_
  refine g_iadd C dL_law_280 ?_
  refine g_sld C hX hbl hbA (j := i + 1) (nI_add i 1) (by omega) (by omega) dL_law_281 ?_
  refine g_call C (a := 241) (ci := 9) (q := (RX9, TX9, 13)) (rm := rm_X9_pass) [.int (xs (i + 1))] dL_law_282 cl_L_32 lc_X9_pass rfl (by decide) rfl rfl ⟨Nat.le_of_ble_eq_true rfl, Nat.le_of_ble_eq_true rfl⟩ (Nat.le_of_ble_eq_true rfl) ⟨by show cells + 0 + 0 ≤ 600000; omega, by show slots + 0 + 0 ≤ 7302250; omega⟩ rfl (fun r' h' E => o_X9_pass l base D cA 241 (xs (i + 1)) h1 r' h' E) e2 (by rw [S1.m0]) ?_
  refine g_same C 858 dL_law_285 (by decide) ?_
  exact g_widen (cells + 3) (slots + 131) (by show cells + 0 + 0 ≤ cells + 3; omega) (by show slots + 0 + 0 ≤ slots + 131; omega) (K h2 R2)
set_option maxRecDepth 100000 in
set_option maxHeartbeats 4000000 in
theorem law_4 {base : Nat} {D : va_G} {cA : Nat → ClassId} {p : Program} {l : Launch} {e : Env} {s : State} {m : MethodId} {args : Array Value} {below : List Frame} {meth : Method} {c : Code} {Q : State → Prop} (C : GC base D cA p s m args meth c cL_law 4 RL) {b L : Nat} {xs : Nat → Int32} (hX : va_X b L xs s s.heap) (hbl : b < s.heap.size) (hbA : ¬ AA base b) {i : Nat} (hi : i + 6 ≤ L) (hL : L ≤ 3072) {h : Hp} {t : Nat} (ht : t ≤ 38000) (R : REL h t) {cells slots : Nat} (hc : cells + 3 ≤ 600000) (hs : slots + 131 ≤ 7302250) (K : ∀ h2, REL h2 (t + 60) → GW base D cA p l e room_1 s m args below meth c Q 4 h2 (cells + 3) (slots + 131) 858 (lvL base b i) []) : GW base D cA p l e room_1 s m args below meth c Q 4 h cells slots 290 (lvL base b i) [] := by
  obtain ⟨r, h1, h2, e1, e2, R2, S1⟩ := p_type t ((xs (i + 1)).toUInt32 % 65536).toInt32 (i2c_nar _) h R
  refine g_aload_n C 1 dL_law_290 rfl rfl ?_
  refine g_aload_n C 0 dL_law_291 rfl rfl ?_
  refine g_iload_n C 3 dL_law_292 rfl rfl ?_
  refine g_iconst C 1 dL_law_293 rfl ?_
  refine g_iadd C dL_law_294 ?_
  refine g_sld C hX hbl hbA (j := i + 1) (nI_add i 1) (by omega) (by omega) dL_law_295 ?_
  refine g_i2c C dL_law_296 ?_
  refine g_call C (a := 1) (ci := 8) (q := (RX8, TX8, 7)) (rm := rm_X8_type) [.int ((xs (i + 1)).toUInt32 % 65536).toInt32] dL_law_297 cl_L_33 lc_X8_type rfl (by decide) rfl rfl ⟨Nat.le_of_ble_eq_true rfl, Nat.le_of_ble_eq_true rfl⟩ (Nat.le_of_ble_eq_true rfl) ⟨by show cells + 0 ≤ 600000; omega, by show slots + 0 ≤ 7302250; omega⟩ rfl (fun r' h' E => o_X8_type l base D cA 1 ((xs (i + 1)).toUInt32 % 65536).toInt32 h r' h' E) e1 R.t1 ?_
  refine g_aload_n C 2 dL_law_300 rfl rfl ?_
  refine g_aload_n C 0 dL_law_301 rfl rfl ?_
  refine g_iload_n C 3 dL_law_302 rfl rfl ?_
  refine g_iconst C 1 dL_law_303 rfl ?_
  refine g_iadd C dL_law_304 ?_
  refine g_sld C hX hbl hbA (j := i + 1) (nI_add i 1) (by omega) (by omega) dL_law_305 ?_
  refine g_i2c C dL_law_306 ?_
  refine g_call C (a := 241) (ci := 9) (q := (RX9, TX9, 13)) (rm := rm_X9_type) [.int ((xs (i + 1)).toUInt32 % 65536).toInt32] dL_law_307 cl_L_37 lc_X9_type rfl (by decide) rfl rfl ⟨Nat.le_of_ble_eq_true rfl, Nat.le_of_ble_eq_true rfl⟩ (Nat.le_of_ble_eq_true rfl) ⟨by show cells + 0 + 0 ≤ 600000; omega, by show slots + 0 + 0 ≤ 7302250; omega⟩ rfl (fun r' h' E => o_X9_type l base D cA 241 ((xs (i + 1)).toUInt32 % 65536).toInt32 h1 r' h' E) e2 (by rw [S1.m0]) ?_
  refine g_same C 858 dL_law_310 (by decide) ?_
  exact g_widen (cells + 3) (slots + 131) (by show cells + 0 + 0 ≤ cells + 3; omega) (by show slots + 0 + 0 ≤ slots + 131; omega) (K h2 R2)
set_option maxRecDepth 100000 in
set_option maxHeartbeats 4000000 in
theorem law_5 {base : Nat} {D : va_G} {cA : Nat → ClassId} {p : Program} {l : Launch} {e : Env} {s : State} {m : MethodId} {args : Array Value} {below : List Frame} {meth : Method} {c : Code} {Q : State → Prop} (C : GC base D cA p s m args meth c cL_law 4 RL) {b L : Nat} {xs : Nat → Int32} (hX : va_X b L xs s s.heap) (hbl : b < s.heap.size) (hbA : ¬ AA base b) {i : Nat} (hi : i + 6 ≤ L) (hL : L ≤ 3072) {h : Hp} {t : Nat} (ht : t ≤ 38000) (R : REL h t) {cells slots : Nat} (hc : cells + 3 ≤ 600000) (hs : slots + 131 ≤ 7302250) (K : ∀ h2, REL h2 (t + 60) → GW base D cA p l e room_1 s m args below meth c Q 4 h2 (cells + 3) (slots + 131) 858 (lvL base b i) []) : GW base D cA p l e room_1 s m args below meth c Q 4 h cells slots 315 (lvL base b i) [] := by
  obtain ⟨r, h1, h2, e1, e2, R2, S1⟩ := p_clearText t h R
  refine g_aload_n C 1 dL_law_315 rfl rfl ?_
  refine g_call C (a := 1) (ci := 8) (q := (RX8, TX8, 7)) (rm := rm_X8_clearText) [] dL_law_316 cl_L_38 lc_X8_clearText rfl (by decide) rfl rfl ⟨Nat.le_of_ble_eq_true rfl, Nat.le_of_ble_eq_true rfl⟩ (Nat.le_of_ble_eq_true rfl) ⟨by show cells + 0 ≤ 600000; omega, by show slots + 0 ≤ 7302250; omega⟩ rfl (fun r' h' E => o_X8_clearText l base D cA 1  h r' h' E) e1 R.t1 ?_
  refine g_aload_n C 2 dL_law_319 rfl rfl ?_
  refine g_call C (a := 241) (ci := 9) (q := (RX9, TX9, 13)) (rm := rm_X9_clearText) [] dL_law_320 cl_L_42 lc_X9_clearText rfl (by decide) rfl rfl ⟨Nat.le_of_ble_eq_true rfl, Nat.le_of_ble_eq_true rfl⟩ (Nat.le_of_ble_eq_true rfl) ⟨by show cells + 0 + 0 ≤ 600000; omega, by show slots + 0 + 0 ≤ 7302250; omega⟩ rfl (fun r' h' E => o_X9_clearText l base D cA 241  h1 r' h' E) e2 (by rw [S1.m0]) ?_
  refine g_same C 858 dL_law_323 (by decide) ?_
  exact g_widen (cells + 3) (slots + 131) (by show cells + 0 + 0 ≤ cells + 3; omega) (by show slots + 0 + 0 ≤ slots + 131; omega) (K h2 R2)
set_option maxRecDepth 100000 in
set_option maxHeartbeats 4000000 in
theorem law_6 {base : Nat} {D : va_G} {cA : Nat → ClassId} {p : Program} {l : Launch} {e : Env} {s : State} {m : MethodId} {args : Array Value} {below : List Frame} {meth : Method} {c : Code} {Q : State → Prop} (C : GC base D cA p s m args meth c cL_law 4 RL) {b L : Nat} {xs : Nat → Int32} (hX : va_X b L xs s s.heap) (hbl : b < s.heap.size) (hbA : ¬ AA base b) {i : Nat} (hi : i + 6 ≤ L) (hL : L ≤ 3072) {h : Hp} {t : Nat} (ht : t ≤ 38000) (R : REL h t) {cells slots : Nat} (hc : cells + 3 ≤ 600000) (hs : slots + 131 ≤ 7302250) (K : ∀ h2, REL h2 (t + 60) → GW base D cA p l e room_1 s m args below meth c Q 4 h2 (cells + 3) (slots + 131) 858 (lvL base b i) []) : GW base D cA p l e room_1 s m args below meth c Q 4 h cells slots 328 (lvL base b i) [] := by
  obtain ⟨r, h1, h2, e1, e2, R2, S1⟩ := p_readProgram t (xs (i + 1)) h R
  refine g_aload_n C 1 dL_law_328 rfl rfl ?_
  refine g_aload_n C 0 dL_law_329 rfl rfl ?_
  refine g_iload_n C 3 dL_law_330 rfl rfl ?_
  refine g_iconst C 1 dL_law_331 rfl ?_
  refine g_iadd C dL_law_332 ?_
  refine g_sld C hX hbl hbA (j := i + 1) (nI_add i 1) (by omega) (by omega) dL_law_333 ?_
  refine g_call C (a := 1) (ci := 8) (q := (RX8, TX8, 7)) (rm := rm_X8_readProgram) [.int (xs (i + 1))] dL_law_334 cl_L_43 lc_X8_readProgram rfl (by decide) rfl rfl ⟨Nat.le_of_ble_eq_true rfl, Nat.le_of_ble_eq_true rfl⟩ (Nat.le_of_ble_eq_true rfl) ⟨by show cells + 3 ≤ 600000; omega, by show slots + 131 ≤ 7302250; omega⟩ rfl (fun r' h' E => o_X8_readProgram l base D cA 1 (xs (i + 1)) h r' h' E) e1 R.t1 ?_
  refine g_aload_n C 2 dL_law_337 rfl rfl ?_
  refine g_aload_n C 0 dL_law_338 rfl rfl ?_
  refine g_iload_n C 3 dL_law_339 rfl rfl ?_
  refine g_iconst C 1 dL_law_340 rfl ?_
  refine g_iadd C dL_law_341 ?_
  refine g_sld C hX hbl hbA (j := i + 1) (nI_add i 1) (by omega) (by omega) dL_law_342 ?_
  refine g_call C (a := 241) (ci := 9) (q := (RX9, TX9, 13)) (rm := rm_X9_readProgram) [.int (xs (i + 1))] dL_law_343 cl_L_46 lc_X9_readProgram rfl (by decide) rfl rfl ⟨Nat.le_of_ble_eq_true rfl, Nat.le_of_ble_eq_true rfl⟩ (Nat.le_of_ble_eq_true rfl) ⟨by show cells + 3 + 0 ≤ 600000; omega, by show slots + 131 + 0 ≤ 7302250; omega⟩ rfl (fun r' h' E => o_X9_readProgram l base D cA 241 (xs (i + 1)) h1 r' h' E) e2 (by rw [S1.m0]) ?_
  refine g_same C 858 dL_law_346 (by decide) ?_
  exact g_widen (cells + 3) (slots + 131) (by show cells + 3 + 0 ≤ cells + 3; omega) (by show slots + 131 + 0 ≤ slots + 131; omega) (K h2 R2)
set_option maxRecDepth 100000 in
set_option maxHeartbeats 4000000 in
theorem law_7 {base : Nat} {D : va_G} {cA : Nat → ClassId} {p : Program} {l : Launch} {e : Env} {s : State} {m : MethodId} {args : Array Value} {below : List Frame} {meth : Method} {c : Code} {Q : State → Prop} (C : GC base D cA p s m args meth c cL_law 4 RL) {b L : Nat} {xs : Nat → Int32} (hX : va_X b L xs s s.heap) (hbl : b < s.heap.size) (hbA : ¬ AA base b) {i : Nat} (hi : i + 6 ≤ L) (hL : L ≤ 3072) {h : Hp} {t : Nat} (ht : t ≤ 38000) (R : REL h t) {cells slots : Nat} (hc : cells + 3 ≤ 600000) (hs : slots + 131 ≤ 7302250) (K : ∀ h2, REL h2 (t + 60) → GW base D cA p l e room_1 s m args below meth c Q 4 h2 (cells + 3) (slots + 131) 858 (lvL base b i) []) : GW base D cA p l e room_1 s m args below meth c Q 4 h cells slots 351 (lvL base b i) [] := by
  obtain ⟨r, h1, h2, e1, e2, R2, S1⟩ := p_start t (xs (i + 1)) h R
  refine g_aload_n C 1 dL_law_351 rfl rfl ?_
  refine g_aload_n C 0 dL_law_352 rfl rfl ?_
  refine g_iload_n C 3 dL_law_353 rfl rfl ?_
  refine g_iconst C 1 dL_law_354 rfl ?_
  refine g_iadd C dL_law_355 ?_
  refine g_sld C hX hbl hbA (j := i + 1) (nI_add i 1) (by omega) (by omega) dL_law_356 ?_
  refine g_call C (a := 1) (ci := 8) (q := (RX8, TX8, 7)) (rm := rm_X8_start) [.int (xs (i + 1))] dL_law_357 cl_L_47 lc_X8_start rfl (by decide) rfl rfl ⟨Nat.le_of_ble_eq_true rfl, Nat.le_of_ble_eq_true rfl⟩ (Nat.le_of_ble_eq_true rfl) ⟨by show cells + 0 ≤ 600000; omega, by show slots + 0 ≤ 7302250; omega⟩ rfl (fun r' h' E => o_X8_start l base D cA 1 (xs (i + 1)) h r' h' E) e1 R.t1 ?_
  refine g_aload_n C 2 dL_law_360 rfl rfl ?_
  refine g_aload_n C 0 dL_law_361 rfl rfl ?_
  refine g_iload_n C 3 dL_law_362 rfl rfl ?_
  refine g_iconst C 1 dL_law_363 rfl ?_
  refine g_iadd C dL_law_364 ?_
  refine g_sld C hX hbl hbA (j := i + 1) (nI_add i 1) (by omega) (by omega) dL_law_365 ?_
  refine g_call C (a := 241) (ci := 9) (q := (RX9, TX9, 13)) (rm := rm_X9_start) [.int (xs (i + 1))] dL_law_366 cl_L_50 lc_X9_start rfl (by decide) rfl rfl ⟨Nat.le_of_ble_eq_true rfl, Nat.le_of_ble_eq_true rfl⟩ (Nat.le_of_ble_eq_true rfl) ⟨by show cells + 0 + 0 ≤ 600000; omega, by show slots + 0 + 0 ≤ 7302250; omega⟩ rfl (fun r' h' E => o_X9_start l base D cA 241 (xs (i + 1)) h1 r' h' E) e2 (by rw [S1.m0]) ?_
  refine g_same C 858 dL_law_369 (by decide) ?_
  exact g_widen (cells + 3) (slots + 131) (by show cells + 0 + 0 ≤ cells + 3; omega) (by show slots + 0 + 0 ≤ slots + 131; omega) (K h2 R2)
set_option maxRecDepth 100000 in
set_option maxHeartbeats 4000000 in
theorem law_8 {base : Nat} {D : va_G} {cA : Nat → ClassId} {p : Program} {l : Launch} {e : Env} {s : State} {m : MethodId} {args : Array Value} {below : List Frame} {meth : Method} {c : Code} {Q : State → Prop} (C : GC base D cA p s m args meth c cL_law 4 RL) {b L : Nat} {xs : Nat → Int32} (hX : va_X b L xs s s.heap) (hbl : b < s.heap.size) (hbA : ¬ AA base b) {i : Nat} (hi : i + 6 ≤ L) (hL : L ≤ 3072) {h : Hp} {t : Nat} (ht : t ≤ 38000) (R : REL h t) {cells slots : Nat} (hc : cells + 3 ≤ 600000) (hs : slots + 131 ≤ 7302250) (K : ∀ h2, REL h2 (t + 60) → GW base D cA p l e room_1 s m args below meth c Q 4 h2 (cells + 3) (slots + 131) 858 (lvL base b i) []) : GW base D cA p l e room_1 s m args below meth c Q 4 h cells slots 374 (lvL base b i) [] := by
  obtain ⟨r, h1, h2, e1, e2, R2, S1⟩ := p_stop t (xs (i + 1)) h R
  refine g_aload_n C 1 dL_law_374 rfl rfl ?_
  refine g_aload_n C 0 dL_law_375 rfl rfl ?_
  refine g_iload_n C 3 dL_law_376 rfl rfl ?_
  refine g_iconst C 1 dL_law_377 rfl ?_
  refine g_iadd C dL_law_378 ?_
  refine g_sld C hX hbl hbA (j := i + 1) (nI_add i 1) (by omega) (by omega) dL_law_379 ?_
  refine g_call C (a := 1) (ci := 8) (q := (RX8, TX8, 7)) (rm := rm_X8_stop) [.int (xs (i + 1))] dL_law_380 cl_L_51 lc_X8_stop rfl (by decide) rfl rfl ⟨Nat.le_of_ble_eq_true rfl, Nat.le_of_ble_eq_true rfl⟩ (Nat.le_of_ble_eq_true rfl) ⟨by show cells + 0 ≤ 600000; omega, by show slots + 0 ≤ 7302250; omega⟩ rfl (fun r' h' E => o_X8_stop l base D cA 1 (xs (i + 1)) h r' h' E) e1 R.t1 ?_
  refine g_aload_n C 2 dL_law_383 rfl rfl ?_
  refine g_aload_n C 0 dL_law_384 rfl rfl ?_
  refine g_iload_n C 3 dL_law_385 rfl rfl ?_
  refine g_iconst C 1 dL_law_386 rfl ?_
  refine g_iadd C dL_law_387 ?_
  refine g_sld C hX hbl hbA (j := i + 1) (nI_add i 1) (by omega) (by omega) dL_law_388 ?_
  refine g_call C (a := 241) (ci := 9) (q := (RX9, TX9, 13)) (rm := rm_X9_stop) [.int (xs (i + 1))] dL_law_389 cl_L_54 lc_X9_stop rfl (by decide) rfl rfl ⟨Nat.le_of_ble_eq_true rfl, Nat.le_of_ble_eq_true rfl⟩ (Nat.le_of_ble_eq_true rfl) ⟨by show cells + 0 + 0 ≤ 600000; omega, by show slots + 0 + 0 ≤ 7302250; omega⟩ rfl (fun r' h' E => o_X9_stop l base D cA 241 (xs (i + 1)) h1 r' h' E) e2 (by rw [S1.m0]) ?_
  refine g_same C 858 dL_law_392 (by decide) ?_
  exact g_widen (cells + 3) (slots + 131) (by show cells + 0 + 0 ≤ cells + 3; omega) (by show slots + 0 + 0 ≤ slots + 131; omega) (K h2 R2)
