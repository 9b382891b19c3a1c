/-! THE LAW'S CASES -/
def la_I (D : va_G) (cy : Nat → ClassId) (ad : Nat → Nat) (A : Nat → Prop) (s : State) (σ : Sg) (S : sd_St) (H : Heap) (locs : List Loc) : Prop := WF σ ∧ IC S σ ∧ IR S σ ∧ sd_H D cy ad A s S H locs
def la_B (s : State) (A : Nat → Prop) (b L : Nat) (xs : Nat → Int32) (i : Nat) : Prop := va_X b L xs s s.heap ∧ b < s.heap.size ∧ ¬ A b ∧ i + 7 ≤ L ∧ L ≤ 3584
def la_long (x y : Int32) : Int64 := (x.toInt64 <<< ((32 : Int32).toInt64 &&& 63)) ||| (y.toInt64 &&& (4294967295 : Int64))
theorem ag_step {fx fm : sd_St → Option (Int32 × sd_St)} (h : AG fx fm) {σ : Sg} {S : sd_St} (hw : WF σ) (hC : IC S σ) (hR : IR S σ) : ∃ v σ2 S1 S2, WF σ2 ∧ fx S = some (v, S1) ∧ fm S1 = some (v, S2) ∧ IC S2 σ2 ∧ IR S2 σ2 := by
  obtain ⟨v, σ2, w2, h1, h2⟩ := h σ hw
  obtain ⟨S1, a1, a2, a3⟩ := h1 S hC
  have hR1 : IR S1 σ := IR_fr hR (a3.1 136 (by unfold loC; omega)) (a3.1 154 (by unfold loC; omega)) (by rw [a3.1 130 (by unfold loC; omega)]) (a3.1 131 (by unfold loC; omega)) (a3.2 135 (by unfold loC; omega))
  obtain ⟨S2, b1, b2, b3⟩ := h2 S1 hR1
  refine ⟨v, σ2, S1, S2, w2, a1, b1, ?_, b2⟩
  refine IC_fr a2 (fun a ha => b3.1 a (by unfold keepC at ha; unfold hiC; omega)) (CC_fr w2.1 a2.2.2.2.2.1 (by rw [b3.1 0 (by unfold hiC; omega)]) (fun a g1 g2 => b3.1 a (by unfold hiC; omega)))
theorem ag_law0 : AG (f_X11_law 0) (f_X12_law 0) := ag_law false
theorem ag_law1 : AG (f_X11_law 1) (f_X12_law 1) := ag_law true
theorem ag_report0 (x1 x2 x3 : Int32) : AG (f_X11_report x1 x2 x3 0) (f_X12_report x1 x2 x3 0) := ag_report x1 x2 x3 false
theorem ag_report1 (x1 x2 x3 : Int32) : AG (f_X11_report x1 x2 x3 1) (f_X12_report x1 x2 x3 1) := ag_report x1 x2 x3 true
section LAR
variable {p : Program} {l : Launch} {e : Env} {R : Room} {s : State} {m : MethodId} {args : Array Value} {below : List Frame} {meth : Method} {c : Code} {H : Heap} {locs : List Loc} {Q : State → Prop}
variable {pc cells slots : Nat} {ls : Array Slot} {rest : List Value} {D : va_G} {cy : Nat → ClassId} {ad : Nat → Nat} {A : Nat → Prop} {b0 : Nat} {S : sd_St} {b L : Nat} {xs : Nat → Int32} {i : Nat}
theorem la_a (C : sd_C RL cL_law 4 ret D cy ad A b0 p s m args meth c) (B : la_B s A b L xs i) (X : sd_H D cy ad A s S H locs) (hl : lv_has ls 4 [(0, .ref b), (1, .ref (ad 0)), (2, .ref (ad 130)), (3, .int (nI i))]) {k : Nat} (hk : k < 7) {z : Int} (hz : Int32.ofInt z = nI k) (d0 : decode cL_law pc = .ok (.aload_n 0, 1)) (d1 : decode cL_law (pc + 1) = .ok (.iload_n 3, 1)) (d2 : decode cL_law (pc + 2) = .ok (.iconst z, 1)) (d3 : decode cL_law (pc + 3) = .ok (.iadd, 1)) (d4 : decode cL_law (pc + 4) = .ok (.iaload, 1))
    (kk : W p l e R s m args below meth c H locs cells slots Q (F0 m (pc + 5) ls (.int (xs (i + k)) :: rest))) : W p l e R s m args below meth c H locs cells slots Q (F0 m pc ls rest) := by
  obtain ⟨hX, hbl, hbA, hiL, hL⟩ := B
  have hx := C.1
  have hb := C.2.1
  refine lv_aload_n hx hb d0 rfl (lv_at hl 0 rfl) ?_
  refine lv_iload_n hx hb d1 rfl (lv_at hl 3 rfl) ?_
  refine lv_iconst (v := nI k) hx hb d2 hz ?_
  refine lv_iadd hx hb d3 ?_
  refine sd_nmi (x := nI (i + k)) (nI_add i k).symm ?_
  refine va_sld hx hb hX hbl hbA X.2 (vp_in_nI (by omega) (by omega)) d4 ?_
  refine sd_nmi (x := xs (i + k)) (by rw [nI_clamp (by omega)]) ?_
  exact kk
theorem la_a6 (C : sd_C RL cL_law 4 ret D cy ad A b0 p s m args meth c) (B : la_B s A b L xs i) (X : sd_H D cy ad A s S H locs) (hl : lv_has ls 4 [(0, .ref b), (1, .ref (ad 0)), (2, .ref (ad 130)), (3, .int (nI i))]) (d0 : decode cL_law pc = .ok (.aload_n 0, 1)) (d1 : decode cL_law (pc + 1) = .ok (.iload_n 3, 1)) (d2 : decode cL_law (pc + 2) = .ok (.bipush 6, 2)) (d3 : decode cL_law (pc + 4) = .ok (.iadd, 1)) (d4 : decode cL_law (pc + 5) = .ok (.iaload, 1))
    (kk : W p l e R s m args below meth c H locs cells slots Q (F0 m (pc + 6) ls (.int (xs (i + 6)) :: rest))) : W p l e R s m args below meth c H locs cells slots Q (F0 m pc ls rest) := by
  obtain ⟨hX, hbl, hbA, hiL, hL⟩ := B
  have hx := C.1
  have hb := C.2.1
  refine lv_aload_n hx hb d0 rfl (lv_at hl 0 rfl) ?_
  refine lv_iload_n hx hb d1 rfl (lv_at hl 3 rfl) ?_
  refine lv_bipush (v := nI 6) hx hb d2 (by decide) ?_
  refine lv_iadd hx hb d3 ?_
  refine sd_nmi (x := nI (i + 6)) (nI_add i 6).symm ?_
  refine va_sld hx hb hX hbl hbA X.2 (vp_in_nI (by omega) (by omega)) d4 ?_
  refine sd_nmi (x := xs (i + 6)) (by rw [nI_clamp (by omega)]) ?_
  exact kk
end LAR
set_option maxHeartbeats 4000000 in
set_option maxRecDepth 100000 in
theorem lc_0 {p : Program} {l : Launch} {e : Env} {s : State} {m : MethodId} {args : Array Value} {below : List Frame} {meth : Method} {c : Code} {H : Heap} {locs : List Loc} {Q : State → Prop} {cells slots : Nat} {ls : Array Slot} {D : va_G} {cy : Nat → ClassId} {ad : Nat → Nat} {A : Nat → Prop} {b0 : Nat} {S : sd_St} {b L : Nat} {xs : Nat → Int32} {i : Nat} {σ : Sg} (C : sd_C RL cL_law 4 ret D cy ad A b0 p s m args meth c) (B : la_B s A b L xs i) (hl : lv_has ls 4 [(0, .ref b), (1, .ref (ad 0)), (2, .ref (ad 130)), (3, .int (nI i))]) (I : la_I D cy ad A s σ S H locs) (hce : cells ≤ room_1.cells ∧ slots ≤ room_1.slots) (kk : ∀ (σ2 : Sg) (S2 : sd_St) (H1 : Heap) (locs1 : List Loc), la_I D cy ad A s σ2 S2 H1 locs1 → W p l e room_1 s m args below meth c H1 locs1 cells slots Q (F0 m 1209 ls [])) : W p l e room_1 s m args below meth c H locs cells slots Q (F0 m 156 ls []) := by
  obtain ⟨hw, hC, hR, X⟩ := I
  obtain ⟨hx, hb, -, -, hown, hts, -, -⟩ := id C
  obtain ⟨v, σ2, S1, S2, w2, e1, e2, y1, y2⟩ := ag_step (ag_feed (la_long (xs (i + 1)) (xs (i + 2))) (la_long (xs (i + 3)) (xs (i + 4))) (la_long (xs (i + 5)) (xs (i + 6)))) hw hC hR
  refine lv_aload_n hx hb dL_law_156 rfl (lv_at hl 1 rfl) ?_
  refine la_a C B X hl (k := 1) (by decide) (by decide) dL_law_157 dL_law_158 dL_law_159 dL_law_160 dL_law_161 ?_
  refine lv_i2l hx hb dL_law_162 rfl ?_
  refine lv_bipush (v := (32 : Int32)) hx hb dL_law_163 (by decide) ?_
  refine lv_lshl hx hb dL_law_165 rfl ?_
  refine la_a C B X hl (k := 2) (by decide) (by decide) dL_law_166 dL_law_167 dL_law_168 dL_law_169 dL_law_170 ?_
  refine lv_i2l hx hb dL_law_171 rfl ?_
  refine lv_ldc2 (v := (4294967295 : Int64)) hx hb hown (hts _ sd_w1_6) dL_law_172 ?_
  refine lv_land hx hb dL_law_175 ?_
  refine lv_lor hx hb dL_law_176 ?_
  refine sd_nml (x := la_long (xs (i + 1)) (xs (i + 2))) rfl ?_
  refine la_a C B X hl (k := 3) (by decide) (by decide) dL_law_177 dL_law_178 dL_law_179 dL_law_180 dL_law_181 ?_
  refine lv_i2l hx hb dL_law_182 rfl ?_
  refine lv_bipush (v := (32 : Int32)) hx hb dL_law_183 (by decide) ?_
  refine lv_lshl hx hb dL_law_185 rfl ?_
  refine la_a C B X hl (k := 4) (by decide) (by decide) dL_law_186 dL_law_187 dL_law_188 dL_law_189 dL_law_190 ?_
  refine lv_i2l hx hb dL_law_191 rfl ?_
  refine lv_ldc2 (v := (4294967295 : Int64)) hx hb hown (hts _ sd_w1_6) dL_law_192 ?_
  refine lv_land hx hb dL_law_195 ?_
  refine lv_lor hx hb dL_law_196 ?_
  refine sd_nml (x := la_long (xs (i + 3)) (xs (i + 4))) rfl ?_
  refine la_a C B X hl (k := 5) (by decide) (by decide) dL_law_197 dL_law_198 dL_law_199 dL_law_200 dL_law_201 ?_
  refine lv_i2l hx hb dL_law_202 rfl ?_
  refine lv_bipush (v := (32 : Int32)) hx hb dL_law_203 (by decide) ?_
  refine lv_lshl hx hb dL_law_205 rfl ?_
  refine la_a6 C B X hl dL_law_206 dL_law_207 dL_law_208 dL_law_210 dL_law_211 ?_
  refine lv_i2l hx hb dL_law_212 rfl ?_
  refine lv_ldc2 (v := (4294967295 : Int64)) hx hb hown (hts _ sd_w1_6) dL_law_213 ?_
  refine lv_land hx hb dL_law_216 ?_
  refine lv_lor hx hb dL_law_217 ?_
  refine sd_nml (x := la_long (xs (i + 5)) (xs (i + 6))) rfl ?_
  refine k_X11_feed C X hl.1 e1 sd_w9_4 ⟨by decide, by decide, hce.1, hce.2⟩ (Nat.le_of_ble_eq_true rfl) dL_law_218 (fun H locs X => ?_)
  refine lv_aload_n hx hb dL_law_221 rfl (lv_at hl 2 rfl) ?_
  refine la_a C B X hl (k := 1) (by decide) (by decide) dL_law_222 dL_law_223 dL_law_224 dL_law_225 dL_law_226 ?_
  refine lv_i2l hx hb dL_law_227 rfl ?_
  refine lv_bipush (v := (32 : Int32)) hx hb dL_law_228 (by decide) ?_
  refine lv_lshl hx hb dL_law_230 rfl ?_
  refine la_a C B X hl (k := 2) (by decide) (by decide) dL_law_231 dL_law_232 dL_law_233 dL_law_234 dL_law_235 ?_
  refine lv_i2l hx hb dL_law_236 rfl ?_
  refine lv_ldc2 (v := (4294967295 : Int64)) hx hb hown (hts _ sd_w1_6) dL_law_237 ?_
  refine lv_land hx hb dL_law_240 ?_
  refine lv_lor hx hb dL_law_241 ?_
  refine sd_nml (x := la_long (xs (i + 1)) (xs (i + 2))) rfl ?_
  refine la_a C B X hl (k := 3) (by decide) (by decide) dL_law_242 dL_law_243 dL_law_244 dL_law_245 dL_law_246 ?_
  refine lv_i2l hx hb dL_law_247 rfl ?_
  refine lv_bipush (v := (32 : Int32)) hx hb dL_law_248 (by decide) ?_
  refine lv_lshl hx hb dL_law_250 rfl ?_
  refine la_a C B X hl (k := 4) (by decide) (by decide) dL_law_251 dL_law_252 dL_law_253 dL_law_254 dL_law_255 ?_
  refine lv_i2l hx hb dL_law_256 rfl ?_
  refine lv_ldc2 (v := (4294967295 : Int64)) hx hb hown (hts _ sd_w1_6) dL_law_257 ?_
  refine lv_land hx hb dL_law_260 ?_
  refine lv_lor hx hb dL_law_261 ?_
  refine sd_nml (x := la_long (xs (i + 3)) (xs (i + 4))) rfl ?_
  refine la_a C B X hl (k := 5) (by decide) (by decide) dL_law_262 dL_law_263 dL_law_264 dL_law_265 dL_law_266 ?_
  refine lv_i2l hx hb dL_law_267 rfl ?_
  refine lv_bipush (v := (32 : Int32)) hx hb dL_law_268 (by decide) ?_
  refine lv_lshl hx hb dL_law_270 rfl ?_
  refine la_a6 C B X hl dL_law_271 dL_law_272 dL_law_273 dL_law_275 dL_law_276 ?_
  refine lv_i2l hx hb dL_law_277 rfl ?_
  refine lv_ldc2 (v := (4294967295 : Int64)) hx hb hown (hts _ sd_w1_6) dL_law_278 ?_
  refine lv_land hx hb dL_law_281 ?_
  refine lv_lor hx hb dL_law_282 ?_
  refine sd_nml (x := la_long (xs (i + 5)) (xs (i + 6))) rfl ?_
  refine k_X12_feed C X hl.1 e2 sd_w9_19 ⟨by decide, by decide, hce.1, hce.2⟩ (Nat.le_of_ble_eq_true rfl) dL_law_283 (fun H locs X => ?_)
  refine lv_icmp_eq (tgt := 1209) hx hb dL_law_286 (by decide) (fun _ => ?_) (fun c9 => absurd rfl c9)
  exact kk _ _ _ _ ⟨w2, y1, y2, X⟩
set_option maxHeartbeats 4000000 in
set_option maxRecDepth 100000 in
theorem lc_1 {p : Program} {l : Launch} {e : Env} {s : State} {m : MethodId} {args : Array Value} {below : List Frame} {meth : Method} {c : Code} {H : Heap} {locs : List Loc} {Q : State → Prop} {cells slots : Nat} {ls : Array Slot} {D : va_G} {cy : Nat → ClassId} {ad : Nat → Nat} {A : Nat → Prop} {b0 : Nat} {S : sd_St} {b L : Nat} {xs : Nat → Int32} {i : Nat} {σ : Sg} (C : sd_C RL cL_law 4 ret D cy ad A b0 p s m args meth c) (B : la_B s A b L xs i) (hl : lv_has ls 4 [(0, .ref b), (1, .ref (ad 0)), (2, .ref (ad 130)), (3, .int (nI i))]) (I : la_I D cy ad A s σ S H locs) (hce : cells ≤ room_1.cells ∧ slots ≤ room_1.slots) (kk : ∀ (σ2 : Sg) (S2 : sd_St) (H1 : Heap) (locs1 : List Loc), la_I D cy ad A s σ2 S2 H1 locs1 → W p l e room_1 s m args below meth c H1 locs1 cells slots Q (F0 m 1209 ls [])) : W p l e room_1 s m args below meth c H locs cells slots Q (F0 m 291 ls []) := by
  obtain ⟨hw, hC, hR, X⟩ := I
  obtain ⟨hx, hb, -, -, hown, hts, -, -⟩ := id C
  obtain ⟨v, σ2, S1, S2, w2, e1, e2, y1, y2⟩ := ag_step (ag_town) hw hC hR
  refine lv_aload_n hx hb dL_law_291 rfl (lv_at hl 1 rfl) ?_
  refine k_X11_town C X hl.1 e1 sd_w10_4 ⟨by decide, by decide, hce.1, hce.2⟩ (Nat.le_of_ble_eq_true rfl) dL_law_292 (fun H locs X => ?_)
  refine lv_aload_n hx hb dL_law_295 rfl (lv_at hl 2 rfl) ?_
  refine k_X12_town C X hl.1 e2 sd_w18_15 ⟨by decide, by decide, hce.1, hce.2⟩ (Nat.le_of_ble_eq_true rfl) dL_law_296 (fun H locs X => ?_)
  refine lv_icmp_eq (tgt := 1209) hx hb dL_law_299 (by decide) (fun _ => ?_) (fun c9 => absurd rfl c9)
  exact kk _ _ _ _ ⟨w2, y1, y2, X⟩
set_option maxHeartbeats 4000000 in
set_option maxRecDepth 100000 in
theorem lc_2 {p : Program} {l : Launch} {e : Env} {s : State} {m : MethodId} {args : Array Value} {below : List Frame} {meth : Method} {c : Code} {H : Heap} {locs : List Loc} {Q : State → Prop} {cells slots : Nat} {ls : Array Slot} {D : va_G} {cy : Nat → ClassId} {ad : Nat → Nat} {A : Nat → Prop} {b0 : Nat} {S : sd_St} {b L : Nat} {xs : Nat → Int32} {i : Nat} {σ : Sg} (C : sd_C RL cL_law 4 ret D cy ad A b0 p s m args meth c) (B : la_B s A b L xs i) (hl : lv_has ls 4 [(0, .ref b), (1, .ref (ad 0)), (2, .ref (ad 130)), (3, .int (nI i))]) (I : la_I D cy ad A s σ S H locs) (hce : cells ≤ room_1.cells ∧ slots ≤ room_1.slots) (kk : ∀ (σ2 : Sg) (S2 : sd_St) (H1 : Heap) (locs1 : List Loc), la_I D cy ad A s σ2 S2 H1 locs1 → W p l e room_1 s m args below meth c H1 locs1 cells slots Q (F0 m 1209 ls [])) : W p l e room_1 s m args below meth c H locs cells slots Q (F0 m 304 ls []) := by
  obtain ⟨hw, hC, hR, X⟩ := I
  obtain ⟨hx, hb, -, -, hown, hts, -, -⟩ := id C
  by_cases hz : xs (i + 1) = 0
  · obtain ⟨v, σ2, S1, S2, w2, e1, e2, y1, y2⟩ := ag_step (ag_law0) hw hC hR
    refine lv_aload_n hx hb dL_law_304 rfl (lv_at hl 1 rfl) ?_
    refine la_a C B X hl (k := 1) (by decide) (by decide) dL_law_305 dL_law_306 dL_law_307 dL_law_308 dL_law_309 ?_
    refine lv_if_eq (tgt := 317) hx hb dL_law_310 (by decide) (fun _ => ?_) (fun c9 => absurd hz c9)
    refine lv_iconst (v := (0 : Int32)) hx hb dL_law_317 (by decide) ?_
    refine k_X11_law C X hl.1 e1 sd_w23_11 ⟨by decide, by decide, hce.1, hce.2⟩ (Nat.le_of_ble_eq_true rfl) dL_law_318 (fun H locs X => ?_)
    refine lv_aload_n hx hb dL_law_321 rfl (lv_at hl 2 rfl) ?_
    refine la_a C B X hl (k := 1) (by decide) (by decide) dL_law_322 dL_law_323 dL_law_324 dL_law_325 dL_law_326 ?_
    refine lv_if_eq (tgt := 334) hx hb dL_law_327 (by decide) (fun _ => ?_) (fun c9 => absurd hz c9)
    refine lv_iconst (v := (0 : Int32)) hx hb dL_law_334 (by decide) ?_
    refine k_X12_law C X hl.1 e2 sd_w23_16 ⟨by decide, by decide, hce.1, hce.2⟩ (Nat.le_of_ble_eq_true rfl) dL_law_335 (fun H locs X => ?_)
    refine lv_icmp_eq (tgt := 1209) hx hb dL_law_338 (by decide) (fun _ => ?_) (fun c9 => absurd rfl c9)
    exact kk _ _ _ _ ⟨w2, y1, y2, X⟩
  · obtain ⟨v, σ2, S1, S2, w2, e1, e2, y1, y2⟩ := ag_step (ag_law1) hw hC hR
    refine lv_aload_n hx hb dL_law_304 rfl (lv_at hl 1 rfl) ?_
    refine la_a C B X hl (k := 1) (by decide) (by decide) dL_law_305 dL_law_306 dL_law_307 dL_law_308 dL_law_309 ?_
    refine lv_if_eq (tgt := 317) hx hb dL_law_310 (by decide) (fun c9 => absurd c9 hz) (fun _ => ?_)
    refine lv_iconst (v := (1 : Int32)) hx hb dL_law_313 (by decide) ?_
    refine lv_goto (tgt := 318) hx hb dL_law_314 (by decide) ?_
    refine k_X11_law C X hl.1 e1 sd_w23_11 ⟨by decide, by decide, hce.1, hce.2⟩ (Nat.le_of_ble_eq_true rfl) dL_law_318 (fun H locs X => ?_)
    refine lv_aload_n hx hb dL_law_321 rfl (lv_at hl 2 rfl) ?_
    refine la_a C B X hl (k := 1) (by decide) (by decide) dL_law_322 dL_law_323 dL_law_324 dL_law_325 dL_law_326 ?_
    refine lv_if_eq (tgt := 334) hx hb dL_law_327 (by decide) (fun c9 => absurd c9 hz) (fun _ => ?_)
    refine lv_iconst (v := (1 : Int32)) hx hb dL_law_330 (by decide) ?_
    refine lv_goto (tgt := 335) hx hb dL_law_331 (by decide) ?_
    refine k_X12_law C X hl.1 e2 sd_w23_16 ⟨by decide, by decide, hce.1, hce.2⟩ (Nat.le_of_ble_eq_true rfl) dL_law_335 (fun H locs X => ?_)
    refine lv_icmp_eq (tgt := 1209) hx hb dL_law_338 (by decide) (fun _ => ?_) (fun c9 => absurd rfl c9)
    exact kk _ _ _ _ ⟨w2, y1, y2, X⟩
set_option maxHeartbeats 4000000 in
set_option maxRecDepth 100000 in
theorem lc_3 {p : Program} {l : Launch} {e : Env} {s : State} {m : MethodId} {args : Array Value} {below : List Frame} {meth : Method} {c : Code} {H : Heap} {locs : List Loc} {Q : State → Prop} {cells slots : Nat} {ls : Array Slot} {D : va_G} {cy : Nat → ClassId} {ad : Nat → Nat} {A : Nat → Prop} {b0 : Nat} {S : sd_St} {b L : Nat} {xs : Nat → Int32} {i : Nat} {σ : Sg} (C : sd_C RL cL_law 4 ret D cy ad A b0 p s m args meth c) (B : la_B s A b L xs i) (hl : lv_has ls 4 [(0, .ref b), (1, .ref (ad 0)), (2, .ref (ad 130)), (3, .int (nI i))]) (I : la_I D cy ad A s σ S H locs) (hce : cells ≤ room_1.cells ∧ slots ≤ room_1.slots) (kk : ∀ (σ2 : Sg) (S2 : sd_St) (H1 : Heap) (locs1 : List Loc), la_I D cy ad A s σ2 S2 H1 locs1 → W p l e room_1 s m args below meth c H1 locs1 cells slots Q (F0 m 1209 ls [])) : W p l e room_1 s m args below meth c H locs cells slots Q (F0 m 343 ls []) := by
  obtain ⟨hw, hC, hR, X⟩ := I
  obtain ⟨hx, hb, -, -, hown, hts, -, -⟩ := id C
  obtain ⟨v, σ2, S1, S2, w2, e1, e2, y1, y2⟩ := ag_step (ag_person (xs (i + 1)) (xs (i + 2))) hw hC hR
  refine lv_aload_n hx hb dL_law_343 rfl (lv_at hl 1 rfl) ?_
  refine la_a C B X hl (k := 1) (by decide) (by decide) dL_law_344 dL_law_345 dL_law_346 dL_law_347 dL_law_348 ?_
  refine la_a C B X hl (k := 2) (by decide) (by decide) dL_law_349 dL_law_350 dL_law_351 dL_law_352 dL_law_353 ?_
  refine k_X11_person C X hl.1 e1 sd_w23_20 ⟨by decide, by decide, hce.1, hce.2⟩ (Nat.le_of_ble_eq_true rfl) dL_law_354 (fun H locs X => ?_)
  refine lv_aload_n hx hb dL_law_357 rfl (lv_at hl 2 rfl) ?_
  refine la_a C B X hl (k := 1) (by decide) (by decide) dL_law_358 dL_law_359 dL_law_360 dL_law_361 dL_law_362 ?_
  refine la_a C B X hl (k := 2) (by decide) (by decide) dL_law_363 dL_law_364 dL_law_365 dL_law_366 dL_law_367 ?_
  refine k_X12_person C X hl.1 e2 sd_w24_10 ⟨by decide, by decide, hce.1, hce.2⟩ (Nat.le_of_ble_eq_true rfl) dL_law_368 (fun H locs X => ?_)
  refine lv_icmp_eq (tgt := 1209) hx hb dL_law_371 (by decide) (fun _ => ?_) (fun c9 => absurd rfl c9)
  exact kk _ _ _ _ ⟨w2, y1, y2, X⟩
set_option maxHeartbeats 4000000 in
set_option maxRecDepth 100000 in
theorem lc_4 {p : Program} {l : Launch} {e : Env} {s : State} {m : MethodId} {args : Array Value} {below : List Frame} {meth : Method} {c : Code} {H : Heap} {locs : List Loc} {Q : State → Prop} {cells slots : Nat} {ls : Array Slot} {D : va_G} {cy : Nat → ClassId} {ad : Nat → Nat} {A : Nat → Prop} {b0 : Nat} {S : sd_St} {b L : Nat} {xs : Nat → Int32} {i : Nat} {σ : Sg} (C : sd_C RL cL_law 4 ret D cy ad A b0 p s m args meth c) (B : la_B s A b L xs i) (hl : lv_has ls 4 [(0, .ref b), (1, .ref (ad 0)), (2, .ref (ad 130)), (3, .int (nI i))]) (I : la_I D cy ad A s σ S H locs) (hce : cells ≤ room_1.cells ∧ slots ≤ room_1.slots) (kk : ∀ (σ2 : Sg) (S2 : sd_St) (H1 : Heap) (locs1 : List Loc), la_I D cy ad A s σ2 S2 H1 locs1 → W p l e room_1 s m args below meth c H1 locs1 cells slots Q (F0 m 1209 ls [])) : W p l e room_1 s m args below meth c H locs cells slots Q (F0 m 376 ls []) := by
  obtain ⟨hw, hC, hR, X⟩ := I
  obtain ⟨hx, hb, -, -, hown, hts, -, -⟩ := id C
  obtain ⟨v, σ2, S1, S2, w2, e1, e2, y1, y2⟩ := ag_step (ag_date (xs (i + 1)) (xs (i + 2))) hw hC hR
  refine lv_aload_n hx hb dL_law_376 rfl (lv_at hl 1 rfl) ?_
  refine la_a C B X hl (k := 1) (by decide) (by decide) dL_law_377 dL_law_378 dL_law_379 dL_law_380 dL_law_381 ?_
  refine la_a C B X hl (k := 2) (by decide) (by decide) dL_law_382 dL_law_383 dL_law_384 dL_law_385 dL_law_386 ?_
  refine k_X11_date C X hl.1 e1 sd_w25_9 ⟨by decide, by decide, hce.1, hce.2⟩ (Nat.le_of_ble_eq_true rfl) dL_law_387 (fun H locs X => ?_)
  refine lv_aload_n hx hb dL_law_390 rfl (lv_at hl 2 rfl) ?_
  refine la_a C B X hl (k := 1) (by decide) (by decide) dL_law_391 dL_law_392 dL_law_393 dL_law_394 dL_law_395 ?_
  refine la_a C B X hl (k := 2) (by decide) (by decide) dL_law_396 dL_law_397 dL_law_398 dL_law_399 dL_law_400 ?_
  refine k_X12_date C X hl.1 e2 sd_w25_17 ⟨by decide, by decide, hce.1, hce.2⟩ (Nat.le_of_ble_eq_true rfl) dL_law_401 (fun H locs X => ?_)
  refine lv_icmp_eq (tgt := 1209) hx hb dL_law_404 (by decide) (fun _ => ?_) (fun c9 => absurd rfl c9)
  exact kk _ _ _ _ ⟨w2, y1, y2, X⟩
set_option maxHeartbeats 4000000 in
set_option maxRecDepth 100000 in
theorem lc_5 {p : Program} {l : Launch} {e : Env} {s : State} {m : MethodId} {args : Array Value} {below : List Frame} {meth : Method} {c : Code} {H : Heap} {locs : List Loc} {Q : State → Prop} {cells slots : Nat} {ls : Array Slot} {D : va_G} {cy : Nat → ClassId} {ad : Nat → Nat} {A : Nat → Prop} {b0 : Nat} {S : sd_St} {b L : Nat} {xs : Nat → Int32} {i : Nat} {σ : Sg} (C : sd_C RL cL_law 4 ret D cy ad A b0 p s m args meth c) (B : la_B s A b L xs i) (hl : lv_has ls 4 [(0, .ref b), (1, .ref (ad 0)), (2, .ref (ad 130)), (3, .int (nI i))]) (I : la_I D cy ad A s σ S H locs) (hce : cells ≤ room_1.cells ∧ slots ≤ room_1.slots) (kk : ∀ (σ2 : Sg) (S2 : sd_St) (H1 : Heap) (locs1 : List Loc), la_I D cy ad A s σ2 S2 H1 locs1 → W p l e room_1 s m args below meth c H1 locs1 cells slots Q (F0 m 1209 ls [])) : W p l e room_1 s m args below meth c H locs cells slots Q (F0 m 409 ls []) := by
  obtain ⟨hw, hC, hR, X⟩ := I
  obtain ⟨hx, hb, -, -, hown, hts, -, -⟩ := id C
  obtain ⟨v, σ2, S1, S2, w2, e1, e2, y1, y2⟩ := ag_step (ag_free (xs (i + 1)) (xs (i + 2))) hw hC hR
  refine lv_aload_n hx hb dL_law_409 rfl (lv_at hl 1 rfl) ?_
  refine la_a C B X hl (k := 1) (by decide) (by decide) dL_law_410 dL_law_411 dL_law_412 dL_law_413 dL_law_414 ?_
  refine la_a C B X hl (k := 2) (by decide) (by decide) dL_law_415 dL_law_416 dL_law_417 dL_law_418 dL_law_419 ?_
  refine k_X11_free C X hl.1 e1 sd_w26_4 ⟨by decide, by decide, hce.1, hce.2⟩ (Nat.le_of_ble_eq_true rfl) dL_law_420 (fun H locs X => ?_)
  refine lv_aload_n hx hb dL_law_423 rfl (lv_at hl 2 rfl) ?_
  refine la_a C B X hl (k := 1) (by decide) (by decide) dL_law_424 dL_law_425 dL_law_426 dL_law_427 dL_law_428 ?_
  refine la_a C B X hl (k := 2) (by decide) (by decide) dL_law_429 dL_law_430 dL_law_431 dL_law_432 dL_law_433 ?_
  refine k_X12_free C X hl.1 e2 sd_w27_1 ⟨by decide, by decide, hce.1, hce.2⟩ (Nat.le_of_ble_eq_true rfl) dL_law_434 (fun H locs X => ?_)
  refine lv_icmp_eq (tgt := 1209) hx hb dL_law_437 (by decide) (fun _ => ?_) (fun c9 => absurd rfl c9)
  exact kk _ _ _ _ ⟨w2, y1, y2, X⟩
set_option maxHeartbeats 4000000 in
set_option maxRecDepth 100000 in
theorem lc_6 {p : Program} {l : Launch} {e : Env} {s : State} {m : MethodId} {args : Array Value} {below : List Frame} {meth : Method} {c : Code} {H : Heap} {locs : List Loc} {Q : State → Prop} {cells slots : Nat} {ls : Array Slot} {D : va_G} {cy : Nat → ClassId} {ad : Nat → Nat} {A : Nat → Prop} {b0 : Nat} {S : sd_St} {b L : Nat} {xs : Nat → Int32} {i : Nat} {σ : Sg} (C : sd_C RL cL_law 4 ret D cy ad A b0 p s m args meth c) (B : la_B s A b L xs i) (hl : lv_has ls 4 [(0, .ref b), (1, .ref (ad 0)), (2, .ref (ad 130)), (3, .int (nI i))]) (I : la_I D cy ad A s σ S H locs) (hce : cells ≤ room_1.cells ∧ slots ≤ room_1.slots) (kk : ∀ (σ2 : Sg) (S2 : sd_St) (H1 : Heap) (locs1 : List Loc), la_I D cy ad A s σ2 S2 H1 locs1 → W p l e room_1 s m args below meth c H1 locs1 cells slots Q (F0 m 1209 ls [])) : W p l e room_1 s m args below meth c H locs cells slots Q (F0 m 442 ls []) := by
  obtain ⟨hw, hC, hR, X⟩ := I
  obtain ⟨hx, hb, -, -, hown, hts, -, -⟩ := id C
  obtain ⟨v, σ2, S1, S2, w2, e1, e2, y1, y2⟩ := ag_step (ag_away (xs (i + 1)) (xs (i + 2))) hw hC hR
  refine lv_aload_n hx hb dL_law_442 rfl (lv_at hl 1 rfl) ?_
  refine la_a C B X hl (k := 1) (by decide) (by decide) dL_law_443 dL_law_444 dL_law_445 dL_law_446 dL_law_447 ?_
  refine la_a C B X hl (k := 2) (by decide) (by decide) dL_law_448 dL_law_449 dL_law_450 dL_law_451 dL_law_452 ?_
  refine k_X11_away C X hl.1 e1 sd_w27_21 ⟨by decide, by decide, hce.1, hce.2⟩ (Nat.le_of_ble_eq_true rfl) dL_law_453 (fun H locs X => ?_)
  refine lv_aload_n hx hb dL_law_456 rfl (lv_at hl 2 rfl) ?_
  refine la_a C B X hl (k := 1) (by decide) (by decide) dL_law_457 dL_law_458 dL_law_459 dL_law_460 dL_law_461 ?_
  refine la_a C B X hl (k := 2) (by decide) (by decide) dL_law_462 dL_law_463 dL_law_464 dL_law_465 dL_law_466 ?_
  refine k_X12_away C X hl.1 e2 sd_w28_1 ⟨by decide, by decide, hce.1, hce.2⟩ (Nat.le_of_ble_eq_true rfl) dL_law_467 (fun H locs X => ?_)
  refine lv_icmp_eq (tgt := 1209) hx hb dL_law_470 (by decide) (fun _ => ?_) (fun c9 => absurd rfl c9)
  exact kk _ _ _ _ ⟨w2, y1, y2, X⟩
set_option maxHeartbeats 4000000 in
set_option maxRecDepth 100000 in
theorem lc_7 {p : Program} {l : Launch} {e : Env} {s : State} {m : MethodId} {args : Array Value} {below : List Frame} {meth : Method} {c : Code} {H : Heap} {locs : List Loc} {Q : State → Prop} {cells slots : Nat} {ls : Array Slot} {D : va_G} {cy : Nat → ClassId} {ad : Nat → Nat} {A : Nat → Prop} {b0 : Nat} {S : sd_St} {b L : Nat} {xs : Nat → Int32} {i : Nat} {σ : Sg} (C : sd_C RL cL_law 4 ret D cy ad A b0 p s m args meth c) (B : la_B s A b L xs i) (hl : lv_has ls 4 [(0, .ref b), (1, .ref (ad 0)), (2, .ref (ad 130)), (3, .int (nI i))]) (I : la_I D cy ad A s σ S H locs) (hce : cells ≤ room_1.cells ∧ slots ≤ room_1.slots) (kk : ∀ (σ2 : Sg) (S2 : sd_St) (H1 : Heap) (locs1 : List Loc), la_I D cy ad A s σ2 S2 H1 locs1 → W p l e room_1 s m args below meth c H1 locs1 cells slots Q (F0 m 1209 ls [])) : W p l e room_1 s m args below meth c H locs cells slots Q (F0 m 475 ls []) := by
  obtain ⟨hw, hC, hR, X⟩ := I
  obtain ⟨hx, hb, -, -, hown, hts, -, -⟩ := id C
  obtain ⟨v, σ2, S1, S2, w2, e1, e2, y1, y2⟩ := ag_step (ag_soonest (xs (i + 1)) (xs (i + 2))) hw hC hR
  refine lv_aload_n hx hb dL_law_475 rfl (lv_at hl 1 rfl) ?_
  refine la_a C B X hl (k := 1) (by decide) (by decide) dL_law_476 dL_law_477 dL_law_478 dL_law_479 dL_law_480 ?_
  refine la_a C B X hl (k := 2) (by decide) (by decide) dL_law_481 dL_law_482 dL_law_483 dL_law_484 dL_law_485 ?_
  refine k_X11_soonest C X hl.1 e1 sd_w28_5 ⟨by decide, by decide, hce.1, hce.2⟩ (Nat.le_of_ble_eq_true rfl) dL_law_486 (fun H locs X => ?_)
  refine lv_aload_n hx hb dL_law_489 rfl (lv_at hl 2 rfl) ?_
  refine la_a C B X hl (k := 1) (by decide) (by decide) dL_law_490 dL_law_491 dL_law_492 dL_law_493 dL_law_494 ?_
  refine la_a C B X hl (k := 2) (by decide) (by decide) dL_law_495 dL_law_496 dL_law_497 dL_law_498 dL_law_499 ?_
  refine k_X12_soonest C X hl.1 e2 sd_w31_6 ⟨by decide, by decide, hce.1, hce.2⟩ (Nat.le_of_ble_eq_true rfl) dL_law_500 (fun H locs X => ?_)
  refine lv_icmp_eq (tgt := 1209) hx hb dL_law_503 (by decide) (fun _ => ?_) (fun c9 => absurd rfl c9)
  exact kk _ _ _ _ ⟨w2, y1, y2, X⟩
set_option maxHeartbeats 4000000 in
set_option maxRecDepth 100000 in
theorem lc_8 {p : Program} {l : Launch} {e : Env} {s : State} {m : MethodId} {args : Array Value} {below : List Frame} {meth : Method} {c : Code} {H : Heap} {locs : List Loc} {Q : State → Prop} {cells slots : Nat} {ls : Array Slot} {D : va_G} {cy : Nat → ClassId} {ad : Nat → Nat} {A : Nat → Prop} {b0 : Nat} {S : sd_St} {b L : Nat} {xs : Nat → Int32} {i : Nat} {σ : Sg} (C : sd_C RL cL_law 4 ret D cy ad A b0 p s m args meth c) (B : la_B s A b L xs i) (hl : lv_has ls 4 [(0, .ref b), (1, .ref (ad 0)), (2, .ref (ad 130)), (3, .int (nI i))]) (I : la_I D cy ad A s σ S H locs) (hce : cells ≤ room_1.cells ∧ slots ≤ room_1.slots) (kk : ∀ (σ2 : Sg) (S2 : sd_St) (H1 : Heap) (locs1 : List Loc), la_I D cy ad A s σ2 S2 H1 locs1 → W p l e room_1 s m args below meth c H1 locs1 cells slots Q (F0 m 1209 ls [])) : W p l e room_1 s m args below meth c H locs cells slots Q (F0 m 508 ls []) := by
  obtain ⟨hw, hC, hR, X⟩ := I
  obtain ⟨hx, hb, -, -, hown, hts, -, -⟩ := id C
  obtain ⟨v, σ2, S1, S2, w2, e1, e2, y1, y2⟩ := ag_step (ag_by (xs (i + 1)) (xs (i + 2))) hw hC hR
  refine lv_aload_n hx hb dL_law_508 rfl (lv_at hl 1 rfl) ?_
  refine la_a C B X hl (k := 1) (by decide) (by decide) dL_law_509 dL_law_510 dL_law_511 dL_law_512 dL_law_513 ?_
  refine la_a C B X hl (k := 2) (by decide) (by decide) dL_law_514 dL_law_515 dL_law_516 dL_law_517 dL_law_518 ?_
  refine k_X11_by C X hl.1 e1 sd_w33_4 ⟨by decide, by decide, hce.1, hce.2⟩ (Nat.le_of_ble_eq_true rfl) dL_law_519 (fun H locs X => ?_)
  refine lv_aload_n hx hb dL_law_522 rfl (lv_at hl 2 rfl) ?_
  refine la_a C B X hl (k := 1) (by decide) (by decide) dL_law_523 dL_law_524 dL_law_525 dL_law_526 dL_law_527 ?_
  refine la_a C B X hl (k := 2) (by decide) (by decide) dL_law_528 dL_law_529 dL_law_530 dL_law_531 dL_law_532 ?_
  refine k_X12_by C X hl.1 e2 sd_w33_9 ⟨by decide, by decide, hce.1, hce.2⟩ (Nat.le_of_ble_eq_true rfl) dL_law_533 (fun H locs X => ?_)
  refine lv_icmp_eq (tgt := 1209) hx hb dL_law_536 (by decide) (fun _ => ?_) (fun c9 => absurd rfl c9)
  exact kk _ _ _ _ ⟨w2, y1, y2, X⟩
set_option maxHeartbeats 4000000 in
set_option maxRecDepth 100000 in
theorem lc_9 {p : Program} {l : Launch} {e : Env} {s : State} {m : MethodId} {args : Array Value} {below : List Frame} {meth : Method} {c : Code} {H : Heap} {locs : List Loc} {Q : State → Prop} {cells slots : Nat} {ls : Array Slot} {D : va_G} {cy : Nat → ClassId} {ad : Nat → Nat} {A : Nat → Prop} {b0 : Nat} {S : sd_St} {b L : Nat} {xs : Nat → Int32} {i : Nat} {σ : Sg} (C : sd_C RL cL_law 4 ret D cy ad A b0 p s m args meth c) (B : la_B s A b L xs i) (hl : lv_has ls 4 [(0, .ref b), (1, .ref (ad 0)), (2, .ref (ad 130)), (3, .int (nI i))]) (I : la_I D cy ad A s σ S H locs) (hce : cells ≤ room_1.cells ∧ slots ≤ room_1.slots) (kk : ∀ (σ2 : Sg) (S2 : sd_St) (H1 : Heap) (locs1 : List Loc), la_I D cy ad A s σ2 S2 H1 locs1 → W p l e room_1 s m args below meth c H1 locs1 cells slots Q (F0 m 1209 ls [])) : W p l e room_1 s m args below meth c H locs cells slots Q (F0 m 541 ls []) := by
  obtain ⟨hw, hC, hR, X⟩ := I
  obtain ⟨hx, hb, -, -, hown, hts, -, -⟩ := id C
  obtain ⟨v, σ2, S1, S2, w2, e1, e2, y1, y2⟩ := ag_step (ag_hands (xs (i + 1)) (xs (i + 2))) hw hC hR
  refine lv_aload_n hx hb dL_law_541 rfl (lv_at hl 1 rfl) ?_
  refine la_a C B X hl (k := 1) (by decide) (by decide) dL_law_542 dL_law_543 dL_law_544 dL_law_545 dL_law_546 ?_
  refine la_a C B X hl (k := 2) (by decide) (by decide) dL_law_547 dL_law_548 dL_law_549 dL_law_550 dL_law_551 ?_
  refine k_X11_hands C X hl.1 e1 sd_w33_13 ⟨by decide, by decide, hce.1, hce.2⟩ (Nat.le_of_ble_eq_true rfl) dL_law_552 (fun H locs X => ?_)
  refine lv_aload_n hx hb dL_law_555 rfl (lv_at hl 2 rfl) ?_
  refine la_a C B X hl (k := 1) (by decide) (by decide) dL_law_556 dL_law_557 dL_law_558 dL_law_559 dL_law_560 ?_
  refine la_a C B X hl (k := 2) (by decide) (by decide) dL_law_561 dL_law_562 dL_law_563 dL_law_564 dL_law_565 ?_
  refine k_X12_hands C X hl.1 e2 sd_w33_18 ⟨by decide, by decide, hce.1, hce.2⟩ (Nat.le_of_ble_eq_true rfl) dL_law_566 (fun H locs X => ?_)
  refine lv_icmp_eq (tgt := 1209) hx hb dL_law_569 (by decide) (fun _ => ?_) (fun c9 => absurd rfl c9)
  exact kk _ _ _ _ ⟨w2, y1, y2, X⟩
set_option maxHeartbeats 4000000 in
set_option maxRecDepth 100000 in
theorem lc_10 {p : Program} {l : Launch} {e : Env} {s : State} {m : MethodId} {args : Array Value} {below : List Frame} {meth : Method} {c : Code} {H : Heap} {locs : List Loc} {Q : State → Prop} {cells slots : Nat} {ls : Array Slot} {D : va_G} {cy : Nat → ClassId} {ad : Nat → Nat} {A : Nat → Prop} {b0 : Nat} {S : sd_St} {b L : Nat} {xs : Nat → Int32} {i : Nat} {σ : Sg} (C : sd_C RL cL_law 4 ret D cy ad A b0 p s m args meth c) (B : la_B s A b L xs i) (hl : lv_has ls 4 [(0, .ref b), (1, .ref (ad 0)), (2, .ref (ad 130)), (3, .int (nI i))]) (I : la_I D cy ad A s σ S H locs) (hce : cells ≤ room_1.cells ∧ slots ≤ room_1.slots) (kk : ∀ (σ2 : Sg) (S2 : sd_St) (H1 : Heap) (locs1 : List Loc), la_I D cy ad A s σ2 S2 H1 locs1 → W p l e room_1 s m args below meth c H1 locs1 cells slots Q (F0 m 1209 ls [])) : W p l e room_1 s m args below meth c H locs cells slots Q (F0 m 574 ls []) := by
  obtain ⟨hw, hC, hR, X⟩ := I
  obtain ⟨hx, hb, -, -, hown, hts, -, -⟩ := id C
  obtain ⟨v, σ2, S1, S2, w2, e1, e2, y1, y2⟩ := ag_step (ag_ways (xs (i + 1)) (xs (i + 2))) hw hC hR
  refine lv_aload_n hx hb dL_law_574 rfl (lv_at hl 1 rfl) ?_
  refine la_a C B X hl (k := 1) (by decide) (by decide) dL_law_575 dL_law_576 dL_law_577 dL_law_578 dL_law_579 ?_
  refine la_a C B X hl (k := 2) (by decide) (by decide) dL_law_580 dL_law_581 dL_law_582 dL_law_583 dL_law_584 ?_
  refine k_X11_ways C X hl.1 e1 sd_w33_22 ⟨by decide, by decide, hce.1, hce.2⟩ (Nat.le_of_ble_eq_true rfl) dL_law_585 (fun H locs X => ?_)
  refine lv_aload_n hx hb dL_law_588 rfl (lv_at hl 2 rfl) ?_
  refine la_a C B X hl (k := 1) (by decide) (by decide) dL_law_589 dL_law_590 dL_law_591 dL_law_592 dL_law_593 ?_
  refine la_a C B X hl (k := 2) (by decide) (by decide) dL_law_594 dL_law_595 dL_law_596 dL_law_597 dL_law_598 ?_
  refine k_X12_ways C X hl.1 e2 sd_w34_3 ⟨by decide, by decide, hce.1, hce.2⟩ (Nat.le_of_ble_eq_true rfl) dL_law_599 (fun H locs X => ?_)
  refine lv_icmp_eq (tgt := 1209) hx hb dL_law_602 (by decide) (fun _ => ?_) (fun c9 => absurd rfl c9)
  exact kk _ _ _ _ ⟨w2, y1, y2, X⟩
set_option maxHeartbeats 4000000 in
set_option maxRecDepth 100000 in
theorem lc_11 {p : Program} {l : Launch} {e : Env} {s : State} {m : MethodId} {args : Array Value} {below : List Frame} {meth : Method} {c : Code} {H : Heap} {locs : List Loc} {Q : State → Prop} {cells slots : Nat} {ls : Array Slot} {D : va_G} {cy : Nat → ClassId} {ad : Nat → Nat} {A : Nat → Prop} {b0 : Nat} {S : sd_St} {b L : Nat} {xs : Nat → Int32} {i : Nat} {σ : Sg} (C : sd_C RL cL_law 4 ret D cy ad A b0 p s m args meth c) (B : la_B s A b L xs i) (hl : lv_has ls 4 [(0, .ref b), (1, .ref (ad 0)), (2, .ref (ad 130)), (3, .int (nI i))]) (I : la_I D cy ad A s σ S H locs) (hce : cells ≤ room_1.cells ∧ slots ≤ room_1.slots) (kk : ∀ (σ2 : Sg) (S2 : sd_St) (H1 : Heap) (locs1 : List Loc), la_I D cy ad A s σ2 S2 H1 locs1 → W p l e room_1 s m args below meth c H1 locs1 cells slots Q (F0 m 1209 ls [])) : W p l e room_1 s m args below meth c H locs cells slots Q (F0 m 607 ls []) := by
  obtain ⟨hw, hC, hR, X⟩ := I
  obtain ⟨hx, hb, -, -, hown, hts, -, -⟩ := id C
  obtain ⟨v, σ2, S1, S2, w2, e1, e2, y1, y2⟩ := ag_step (ag_cant (xs (i + 1)) (xs (i + 2))) hw hC hR
  refine lv_aload_n hx hb dL_law_607 rfl (lv_at hl 1 rfl) ?_
  refine la_a C B X hl (k := 1) (by decide) (by decide) dL_law_608 dL_law_609 dL_law_610 dL_law_611 dL_law_612 ?_
  refine la_a C B X hl (k := 2) (by decide) (by decide) dL_law_613 dL_law_614 dL_law_615 dL_law_616 dL_law_617 ?_
  refine k_X11_cant C X hl.1 e1 sd_w34_12 ⟨by decide, by decide, hce.1, hce.2⟩ (Nat.le_of_ble_eq_true rfl) dL_law_618 (fun H locs X => ?_)
  refine lv_aload_n hx hb dL_law_621 rfl (lv_at hl 2 rfl) ?_
  refine la_a C B X hl (k := 1) (by decide) (by decide) dL_law_622 dL_law_623 dL_law_624 dL_law_625 dL_law_626 ?_
  refine la_a C B X hl (k := 2) (by decide) (by decide) dL_law_627 dL_law_628 dL_law_629 dL_law_630 dL_law_631 ?_
  refine k_X12_cant C X hl.1 e2 sd_w35_5 ⟨by decide, by decide, hce.1, hce.2⟩ (Nat.le_of_ble_eq_true rfl) dL_law_632 (fun H locs X => ?_)
  refine lv_icmp_eq (tgt := 1209) hx hb dL_law_635 (by decide) (fun _ => ?_) (fun c9 => absurd rfl c9)
  exact kk _ _ _ _ ⟨w2, y1, y2, X⟩
set_option maxHeartbeats 4000000 in
set_option maxRecDepth 100000 in
theorem lc_12 {p : Program} {l : Launch} {e : Env} {s : State} {m : MethodId} {args : Array Value} {below : List Frame} {meth : Method} {c : Code} {H : Heap} {locs : List Loc} {Q : State → Prop} {cells slots : Nat} {ls : Array Slot} {D : va_G} {cy : Nat → ClassId} {ad : Nat → Nat} {A : Nat → Prop} {b0 : Nat} {S : sd_St} {b L : Nat} {xs : Nat → Int32} {i : Nat} {σ : Sg} (C : sd_C RL cL_law 4 ret D cy ad A b0 p s m args meth c) (B : la_B s A b L xs i) (hl : lv_has ls 4 [(0, .ref b), (1, .ref (ad 0)), (2, .ref (ad 130)), (3, .int (nI i))]) (I : la_I D cy ad A s σ S H locs) (hce : cells ≤ room_1.cells ∧ slots ≤ room_1.slots) (kk : ∀ (σ2 : Sg) (S2 : sd_St) (H1 : Heap) (locs1 : List Loc), la_I D cy ad A s σ2 S2 H1 locs1 → W p l e room_1 s m args below meth c H1 locs1 cells slots Q (F0 m 1209 ls [])) : W p l e room_1 s m args below meth c H locs cells slots Q (F0 m 640 ls []) := by
  obtain ⟨hw, hC, hR, X⟩ := I
  obtain ⟨hx, hb, -, -, hown, hts, -, -⟩ := id C
  obtain ⟨v, σ2, S1, S2, w2, e1, e2, y1, y2⟩ := ag_step (ag_all (xs (i + 1))) hw hC hR
  refine lv_aload_n hx hb dL_law_640 rfl (lv_at hl 1 rfl) ?_
  refine la_a C B X hl (k := 1) (by decide) (by decide) dL_law_641 dL_law_642 dL_law_643 dL_law_644 dL_law_645 ?_
  refine k_X11_all C X hl.1 e1 sd_w35_13 ⟨by decide, by decide, hce.1, hce.2⟩ (Nat.le_of_ble_eq_true rfl) dL_law_646 (fun H locs X => ?_)
  refine lv_aload_n hx hb dL_law_649 rfl (lv_at hl 2 rfl) ?_
  refine la_a C B X hl (k := 1) (by decide) (by decide) dL_law_650 dL_law_651 dL_law_652 dL_law_653 dL_law_654 ?_
  refine k_X12_all C X hl.1 e2 sd_w35_21 ⟨by decide, by decide, hce.1, hce.2⟩ (Nat.le_of_ble_eq_true rfl) dL_law_655 (fun H locs X => ?_)
  refine lv_icmp_eq (tgt := 1209) hx hb dL_law_658 (by decide) (fun _ => ?_) (fun c9 => absurd rfl c9)
  exact kk _ _ _ _ ⟨w2, y1, y2, X⟩
set_option maxHeartbeats 4000000 in
set_option maxRecDepth 100000 in
theorem lc_13 {p : Program} {l : Launch} {e : Env} {s : State} {m : MethodId} {args : Array Value} {below : List Frame} {meth : Method} {c : Code} {H : Heap} {locs : List Loc} {Q : State → Prop} {cells slots : Nat} {ls : Array Slot} {D : va_G} {cy : Nat → ClassId} {ad : Nat → Nat} {A : Nat → Prop} {b0 : Nat} {S : sd_St} {b L : Nat} {xs : Nat → Int32} {i : Nat} {σ : Sg} (C : sd_C RL cL_law 4 ret D cy ad A b0 p s m args meth c) (B : la_B s A b L xs i) (hl : lv_has ls 4 [(0, .ref b), (1, .ref (ad 0)), (2, .ref (ad 130)), (3, .int (nI i))]) (I : la_I D cy ad A s σ S H locs) (hce : cells ≤ room_1.cells ∧ slots ≤ room_1.slots) (kk : ∀ (σ2 : Sg) (S2 : sd_St) (H1 : Heap) (locs1 : List Loc), la_I D cy ad A s σ2 S2 H1 locs1 → W p l e room_1 s m args below meth c H1 locs1 cells slots Q (F0 m 1209 ls [])) : W p l e room_1 s m args below meth c H locs cells slots Q (F0 m 663 ls []) := by
  obtain ⟨hw, hC, hR, X⟩ := I
  obtain ⟨hx, hb, -, -, hown, hts, -, -⟩ := id C
  obtain ⟨v, σ2, S1, S2, w2, e1, e2, y1, y2⟩ := ag_step (ag_knows (xs (i + 1)) (xs (i + 2))) hw hC hR
  refine lv_aload_n hx hb dL_law_663 rfl (lv_at hl 1 rfl) ?_
  refine la_a C B X hl (k := 1) (by decide) (by decide) dL_law_664 dL_law_665 dL_law_666 dL_law_667 dL_law_668 ?_
  refine la_a C B X hl (k := 2) (by decide) (by decide) dL_law_669 dL_law_670 dL_law_671 dL_law_672 dL_law_673 ?_
  refine k_X11_knows C X hl.1 e1 sd_w36_1 ⟨by decide, by decide, hce.1, hce.2⟩ (Nat.le_of_ble_eq_true rfl) dL_law_674 (fun H locs X => ?_)
  refine lv_aload_n hx hb dL_law_677 rfl (lv_at hl 2 rfl) ?_
  refine la_a C B X hl (k := 1) (by decide) (by decide) dL_law_678 dL_law_679 dL_law_680 dL_law_681 dL_law_682 ?_
  refine la_a C B X hl (k := 2) (by decide) (by decide) dL_law_683 dL_law_684 dL_law_685 dL_law_686 dL_law_687 ?_
  refine k_X12_knows C X hl.1 e2 sd_w36_5 ⟨by decide, by decide, hce.1, hce.2⟩ (Nat.le_of_ble_eq_true rfl) dL_law_688 (fun H locs X => ?_)
  refine lv_icmp_eq (tgt := 1209) hx hb dL_law_691 (by decide) (fun _ => ?_) (fun c9 => absurd rfl c9)
  exact kk _ _ _ _ ⟨w2, y1, y2, X⟩
set_option maxHeartbeats 4000000 in
set_option maxRecDepth 100000 in
theorem lc_14 {p : Program} {l : Launch} {e : Env} {s : State} {m : MethodId} {args : Array Value} {below : List Frame} {meth : Method} {c : Code} {H : Heap} {locs : List Loc} {Q : State → Prop} {cells slots : Nat} {ls : Array Slot} {D : va_G} {cy : Nat → ClassId} {ad : Nat → Nat} {A : Nat → Prop} {b0 : Nat} {S : sd_St} {b L : Nat} {xs : Nat → Int32} {i : Nat} {σ : Sg} (C : sd_C RL cL_law 4 ret D cy ad A b0 p s m args meth c) (B : la_B s A b L xs i) (hl : lv_has ls 4 [(0, .ref b), (1, .ref (ad 0)), (2, .ref (ad 130)), (3, .int (nI i))]) (I : la_I D cy ad A s σ S H locs) (hce : cells ≤ room_1.cells ∧ slots ≤ room_1.slots) (kk : ∀ (σ2 : Sg) (S2 : sd_St) (H1 : Heap) (locs1 : List Loc), la_I D cy ad A s σ2 S2 H1 locs1 → W p l e room_1 s m args below meth c H1 locs1 cells slots Q (F0 m 1209 ls [])) : W p l e room_1 s m args below meth c H locs cells slots Q (F0 m 696 ls []) := by
  obtain ⟨hw, hC, hR, X⟩ := I
  obtain ⟨hx, hb, -, -, hown, hts, -, -⟩ := id C
  obtain ⟨v, σ2, S1, S2, w2, e1, e2, y1, y2⟩ := ag_step (ag_letIn (xs (i + 1)) (xs (i + 2)) (xs (i + 3)) (xs (i + 4)) (xs (i + 5))) hw hC hR
  refine lv_aload_n hx hb dL_law_696 rfl (lv_at hl 1 rfl) ?_
  refine la_a C B X hl (k := 1) (by decide) (by decide) dL_law_697 dL_law_698 dL_law_699 dL_law_700 dL_law_701 ?_
  refine la_a C B X hl (k := 2) (by decide) (by decide) dL_law_702 dL_law_703 dL_law_704 dL_law_705 dL_law_706 ?_
  refine la_a C B X hl (k := 3) (by decide) (by decide) dL_law_707 dL_law_708 dL_law_709 dL_law_710 dL_law_711 ?_
  refine la_a C B X hl (k := 4) (by decide) (by decide) dL_law_712 dL_law_713 dL_law_714 dL_law_715 dL_law_716 ?_
  refine la_a C B X hl (k := 5) (by decide) (by decide) dL_law_717 dL_law_718 dL_law_719 dL_law_720 dL_law_721 ?_
  refine k_X11_letIn C X hl.1 e1 sd_w36_9 ⟨by decide, by decide, hce.1, hce.2⟩ (Nat.le_of_ble_eq_true rfl) dL_law_722 (fun H locs X => ?_)
  refine lv_aload_n hx hb dL_law_725 rfl (lv_at hl 2 rfl) ?_
  refine la_a C B X hl (k := 1) (by decide) (by decide) dL_law_726 dL_law_727 dL_law_728 dL_law_729 dL_law_730 ?_
  refine la_a C B X hl (k := 2) (by decide) (by decide) dL_law_731 dL_law_732 dL_law_733 dL_law_734 dL_law_735 ?_
  refine la_a C B X hl (k := 3) (by decide) (by decide) dL_law_736 dL_law_737 dL_law_738 dL_law_739 dL_law_740 ?_
  refine la_a C B X hl (k := 4) (by decide) (by decide) dL_law_741 dL_law_742 dL_law_743 dL_law_744 dL_law_745 ?_
  refine la_a C B X hl (k := 5) (by decide) (by decide) dL_law_746 dL_law_747 dL_law_748 dL_law_749 dL_law_750 ?_
  refine k_X12_letIn C X hl.1 e2 sd_w37_13 ⟨by decide, by decide, hce.1, hce.2⟩ (Nat.le_of_ble_eq_true rfl) dL_law_751 (fun H locs X => ?_)
  refine lv_icmp_eq (tgt := 1209) hx hb dL_law_754 (by decide) (fun _ => ?_) (fun c9 => absurd rfl c9)
  exact kk _ _ _ _ ⟨w2, y1, y2, X⟩
set_option maxHeartbeats 4000000 in
set_option maxRecDepth 100000 in
theorem lc_15 {p : Program} {l : Launch} {e : Env} {s : State} {m : MethodId} {args : Array Value} {below : List Frame} {meth : Method} {c : Code} {H : Heap} {locs : List Loc} {Q : State → Prop} {cells slots : Nat} {ls : Array Slot} {D : va_G} {cy : Nat → ClassId} {ad : Nat → Nat} {A : Nat → Prop} {b0 : Nat} {S : sd_St} {b L : Nat} {xs : Nat → Int32} {i : Nat} {σ : Sg} (C : sd_C RL cL_law 4 ret D cy ad A b0 p s m args meth c) (B : la_B s A b L xs i) (hl : lv_has ls 4 [(0, .ref b), (1, .ref (ad 0)), (2, .ref (ad 130)), (3, .int (nI i))]) (I : la_I D cy ad A s σ S H locs) (hce : cells ≤ room_1.cells ∧ slots ≤ room_1.slots) (kk : ∀ (σ2 : Sg) (S2 : sd_St) (H1 : Heap) (locs1 : List Loc), la_I D cy ad A s σ2 S2 H1 locs1 → W p l e room_1 s m args below meth c H1 locs1 cells slots Q (F0 m 1209 ls [])) : W p l e room_1 s m args below meth c H locs cells slots Q (F0 m 759 ls []) := by
  obtain ⟨hw, hC, hR, X⟩ := I
  obtain ⟨hx, hb, -, -, hown, hts, -, -⟩ := id C
  obtain ⟨v, σ2, S1, S2, w2, e1, e2, y1, y2⟩ := ag_step (ag_cut (xs (i + 1)) (xs (i + 2)) (xs (i + 3))) hw hC hR
  refine lv_aload_n hx hb dL_law_759 rfl (lv_at hl 1 rfl) ?_
  refine la_a C B X hl (k := 1) (by decide) (by decide) dL_law_760 dL_law_761 dL_law_762 dL_law_763 dL_law_764 ?_
  refine la_a C B X hl (k := 2) (by decide) (by decide) dL_law_765 dL_law_766 dL_law_767 dL_law_768 dL_law_769 ?_
  refine la_a C B X hl (k := 3) (by decide) (by decide) dL_law_770 dL_law_771 dL_law_772 dL_law_773 dL_law_774 ?_
  refine k_X11_cut C X hl.1 e1 sd_w38_0 ⟨by decide, by decide, hce.1, hce.2⟩ (Nat.le_of_ble_eq_true rfl) dL_law_775 (fun H locs X => ?_)
  refine lv_aload_n hx hb dL_law_778 rfl (lv_at hl 2 rfl) ?_
  refine la_a C B X hl (k := 1) (by decide) (by decide) dL_law_779 dL_law_780 dL_law_781 dL_law_782 dL_law_783 ?_
  refine la_a C B X hl (k := 2) (by decide) (by decide) dL_law_784 dL_law_785 dL_law_786 dL_law_787 dL_law_788 ?_
  refine la_a C B X hl (k := 3) (by decide) (by decide) dL_law_789 dL_law_790 dL_law_791 dL_law_792 dL_law_793 ?_
  refine k_X12_cut C X hl.1 e2 sd_w40_2 ⟨by decide, by decide, hce.1, hce.2⟩ (Nat.le_of_ble_eq_true rfl) dL_law_794 (fun H locs X => ?_)
  refine lv_icmp_eq (tgt := 1209) hx hb dL_law_797 (by decide) (fun _ => ?_) (fun c9 => absurd rfl c9)
  exact kk _ _ _ _ ⟨w2, y1, y2, X⟩
set_option maxHeartbeats 4000000 in
set_option maxRecDepth 100000 in
theorem lc_16 {p : Program} {l : Launch} {e : Env} {s : State} {m : MethodId} {args : Array Value} {below : List Frame} {meth : Method} {c : Code} {H : Heap} {locs : List Loc} {Q : State → Prop} {cells slots : Nat} {ls : Array Slot} {D : va_G} {cy : Nat → ClassId} {ad : Nat → Nat} {A : Nat → Prop} {b0 : Nat} {S : sd_St} {b L : Nat} {xs : Nat → Int32} {i : Nat} {σ : Sg} (C : sd_C RL cL_law 4 ret D cy ad A b0 p s m args meth c) (B : la_B s A b L xs i) (hl : lv_has ls 4 [(0, .ref b), (1, .ref (ad 0)), (2, .ref (ad 130)), (3, .int (nI i))]) (I : la_I D cy ad A s σ S H locs) (hce : cells ≤ room_1.cells ∧ slots ≤ room_1.slots) (kk : ∀ (σ2 : Sg) (S2 : sd_St) (H1 : Heap) (locs1 : List Loc), la_I D cy ad A s σ2 S2 H1 locs1 → W p l e room_1 s m args below meth c H1 locs1 cells slots Q (F0 m 1209 ls [])) : W p l e room_1 s m args below meth c H locs cells slots Q (F0 m 802 ls []) := by
  obtain ⟨hw, hC, hR, X⟩ := I
  obtain ⟨hx, hb, -, -, hown, hts, -, -⟩ := id C
  obtain ⟨v, σ2, S1, S2, w2, e1, e2, y1, y2⟩ := ag_step (ag_meet (xs (i + 1)) (xs (i + 2)) (xs (i + 3))) hw hC hR
  refine lv_aload_n hx hb dL_law_802 rfl (lv_at hl 1 rfl) ?_
  refine la_a C B X hl (k := 1) (by decide) (by decide) dL_law_803 dL_law_804 dL_law_805 dL_law_806 dL_law_807 ?_
  refine la_a C B X hl (k := 2) (by decide) (by decide) dL_law_808 dL_law_809 dL_law_810 dL_law_811 dL_law_812 ?_
  refine la_a C B X hl (k := 3) (by decide) (by decide) dL_law_813 dL_law_814 dL_law_815 dL_law_816 dL_law_817 ?_
  refine k_X11_meet C X hl.1 e1 sd_w41_4 ⟨by decide, by decide, hce.1, hce.2⟩ (Nat.le_of_ble_eq_true rfl) dL_law_818 (fun H locs X => ?_)
  refine lv_aload_n hx hb dL_law_821 rfl (lv_at hl 2 rfl) ?_
  refine la_a C B X hl (k := 1) (by decide) (by decide) dL_law_822 dL_law_823 dL_law_824 dL_law_825 dL_law_826 ?_
  refine la_a C B X hl (k := 2) (by decide) (by decide) dL_law_827 dL_law_828 dL_law_829 dL_law_830 dL_law_831 ?_
  refine la_a C B X hl (k := 3) (by decide) (by decide) dL_law_832 dL_law_833 dL_law_834 dL_law_835 dL_law_836 ?_
  refine k_X12_meet C X hl.1 e2 sd_w41_11 ⟨by decide, by decide, hce.1, hce.2⟩ (Nat.le_of_ble_eq_true rfl) dL_law_837 (fun H locs X => ?_)
  refine lv_icmp_eq (tgt := 1209) hx hb dL_law_840 (by decide) (fun _ => ?_) (fun c9 => absurd rfl c9)
  exact kk _ _ _ _ ⟨w2, y1, y2, X⟩
set_option maxHeartbeats 4000000 in
set_option maxRecDepth 100000 in
theorem lc_17 {p : Program} {l : Launch} {e : Env} {s : State} {m : MethodId} {args : Array Value} {below : List Frame} {meth : Method} {c : Code} {H : Heap} {locs : List Loc} {Q : State → Prop} {cells slots : Nat} {ls : Array Slot} {D : va_G} {cy : Nat → ClassId} {ad : Nat → Nat} {A : Nat → Prop} {b0 : Nat} {S : sd_St} {b L : Nat} {xs : Nat → Int32} {i : Nat} {σ : Sg} (C : sd_C RL cL_law 4 ret D cy ad A b0 p s m args meth c) (B : la_B s A b L xs i) (hl : lv_has ls 4 [(0, .ref b), (1, .ref (ad 0)), (2, .ref (ad 130)), (3, .int (nI i))]) (I : la_I D cy ad A s σ S H locs) (hce : cells ≤ room_1.cells ∧ slots ≤ room_1.slots) (kk : ∀ (σ2 : Sg) (S2 : sd_St) (H1 : Heap) (locs1 : List Loc), la_I D cy ad A s σ2 S2 H1 locs1 → W p l e room_1 s m args below meth c H1 locs1 cells slots Q (F0 m 1209 ls [])) : W p l e room_1 s m args below meth c H locs cells slots Q (F0 m 845 ls []) := by
  obtain ⟨hw, hC, hR, X⟩ := I
  obtain ⟨hx, hb, -, -, hown, hts, -, -⟩ := id C
  obtain ⟨v, σ2, S1, S2, w2, e1, e2, y1, y2⟩ := ag_step (ag_newcomer (xs (i + 1)) (xs (i + 2)) (xs (i + 3)) (xs (i + 4)) (xs (i + 5))) hw hC hR
  refine lv_aload_n hx hb dL_law_845 rfl (lv_at hl 1 rfl) ?_
  refine la_a C B X hl (k := 1) (by decide) (by decide) dL_law_846 dL_law_847 dL_law_848 dL_law_849 dL_law_850 ?_
  refine la_a C B X hl (k := 2) (by decide) (by decide) dL_law_851 dL_law_852 dL_law_853 dL_law_854 dL_law_855 ?_
  refine la_a C B X hl (k := 3) (by decide) (by decide) dL_law_856 dL_law_857 dL_law_858 dL_law_859 dL_law_860 ?_
  refine la_a C B X hl (k := 4) (by decide) (by decide) dL_law_861 dL_law_862 dL_law_863 dL_law_864 dL_law_865 ?_
  refine la_a C B X hl (k := 5) (by decide) (by decide) dL_law_866 dL_law_867 dL_law_868 dL_law_869 dL_law_870 ?_
  refine k_X11_newcomer C X hl.1 e1 sd_w41_15 ⟨by decide, by decide, hce.1, hce.2⟩ (Nat.le_of_ble_eq_true rfl) dL_law_871 (fun H locs X => ?_)
  refine lv_aload_n hx hb dL_law_874 rfl (lv_at hl 2 rfl) ?_
  refine la_a C B X hl (k := 1) (by decide) (by decide) dL_law_875 dL_law_876 dL_law_877 dL_law_878 dL_law_879 ?_
  refine la_a C B X hl (k := 2) (by decide) (by decide) dL_law_880 dL_law_881 dL_law_882 dL_law_883 dL_law_884 ?_
  refine la_a C B X hl (k := 3) (by decide) (by decide) dL_law_885 dL_law_886 dL_law_887 dL_law_888 dL_law_889 ?_
  refine la_a C B X hl (k := 4) (by decide) (by decide) dL_law_890 dL_law_891 dL_law_892 dL_law_893 dL_law_894 ?_
  refine la_a C B X hl (k := 5) (by decide) (by decide) dL_law_895 dL_law_896 dL_law_897 dL_law_898 dL_law_899 ?_
  refine k_X12_newcomer C X hl.1 e2 sd_w43_10 ⟨by decide, by decide, hce.1, hce.2⟩ (Nat.le_of_ble_eq_true rfl) dL_law_900 (fun H locs X => ?_)
  refine lv_icmp_eq (tgt := 1209) hx hb dL_law_903 (by decide) (fun _ => ?_) (fun c9 => absurd rfl c9)
  exact kk _ _ _ _ ⟨w2, y1, y2, X⟩
set_option maxHeartbeats 4000000 in
set_option maxRecDepth 100000 in
theorem lc_18 {p : Program} {l : Launch} {e : Env} {s : State} {m : MethodId} {args : Array Value} {below : List Frame} {meth : Method} {c : Code} {H : Heap} {locs : List Loc} {Q : State → Prop} {cells slots : Nat} {ls : Array Slot} {D : va_G} {cy : Nat → ClassId} {ad : Nat → Nat} {A : Nat → Prop} {b0 : Nat} {S : sd_St} {b L : Nat} {xs : Nat → Int32} {i : Nat} {σ : Sg} (C : sd_C RL cL_law 4 ret D cy ad A b0 p s m args meth c) (B : la_B s A b L xs i) (hl : lv_has ls 4 [(0, .ref b), (1, .ref (ad 0)), (2, .ref (ad 130)), (3, .int (nI i))]) (I : la_I D cy ad A s σ S H locs) (hce : cells ≤ room_1.cells ∧ slots ≤ room_1.slots) (kk : ∀ (σ2 : Sg) (S2 : sd_St) (H1 : Heap) (locs1 : List Loc), la_I D cy ad A s σ2 S2 H1 locs1 → W p l e room_1 s m args below meth c H1 locs1 cells slots Q (F0 m 1209 ls [])) : W p l e room_1 s m args below meth c H locs cells slots Q (F0 m 908 ls []) := by
  obtain ⟨hw, hC, hR, X⟩ := I
  obtain ⟨hx, hb, -, -, hown, hts, -, -⟩ := id C
  by_cases hz : xs (i + 4) = 0
  · obtain ⟨v, σ2, S1, S2, w2, e1, e2, y1, y2⟩ := ag_step (ag_report0 (xs (i + 1)) (xs (i + 2)) (xs (i + 3))) hw hC hR
    refine lv_aload_n hx hb dL_law_908 rfl (lv_at hl 1 rfl) ?_
    refine la_a C B X hl (k := 1) (by decide) (by decide) dL_law_909 dL_law_910 dL_law_911 dL_law_912 dL_law_913 ?_
    refine la_a C B X hl (k := 2) (by decide) (by decide) dL_law_914 dL_law_915 dL_law_916 dL_law_917 dL_law_918 ?_
    refine la_a C B X hl (k := 3) (by decide) (by decide) dL_law_919 dL_law_920 dL_law_921 dL_law_922 dL_law_923 ?_
    refine la_a C B X hl (k := 4) (by decide) (by decide) dL_law_924 dL_law_925 dL_law_926 dL_law_927 dL_law_928 ?_
    refine lv_if_eq (tgt := 936) hx hb dL_law_929 (by decide) (fun _ => ?_) (fun c9 => absurd hz c9)
    refine lv_iconst (v := (0 : Int32)) hx hb dL_law_936 (by decide) ?_
    refine k_X11_report C X hl.1 e1 sd_w43_14 ⟨by decide, by decide, hce.1, hce.2⟩ (Nat.le_of_ble_eq_true rfl) dL_law_937 (fun H locs X => ?_)
    refine lv_aload_n hx hb dL_law_940 rfl (lv_at hl 2 rfl) ?_
    refine la_a C B X hl (k := 1) (by decide) (by decide) dL_law_941 dL_law_942 dL_law_943 dL_law_944 dL_law_945 ?_
    refine la_a C B X hl (k := 2) (by decide) (by decide) dL_law_946 dL_law_947 dL_law_948 dL_law_949 dL_law_950 ?_
    refine la_a C B X hl (k := 3) (by decide) (by decide) dL_law_951 dL_law_952 dL_law_953 dL_law_954 dL_law_955 ?_
    refine la_a C B X hl (k := 4) (by decide) (by decide) dL_law_956 dL_law_957 dL_law_958 dL_law_959 dL_law_960 ?_
    refine lv_if_eq (tgt := 968) hx hb dL_law_961 (by decide) (fun _ => ?_) (fun c9 => absurd hz c9)
    refine lv_iconst (v := (0 : Int32)) hx hb dL_law_968 (by decide) ?_
    refine k_X12_report C X hl.1 e2 sd_w43_23 ⟨by decide, by decide, hce.1, hce.2⟩ (Nat.le_of_ble_eq_true rfl) dL_law_969 (fun H locs X => ?_)
    refine lv_icmp_eq (tgt := 1209) hx hb dL_law_972 (by decide) (fun _ => ?_) (fun c9 => absurd rfl c9)
    exact kk _ _ _ _ ⟨w2, y1, y2, X⟩
  · obtain ⟨v, σ2, S1, S2, w2, e1, e2, y1, y2⟩ := ag_step (ag_report1 (xs (i + 1)) (xs (i + 2)) (xs (i + 3))) hw hC hR
    refine lv_aload_n hx hb dL_law_908 rfl (lv_at hl 1 rfl) ?_
    refine la_a C B X hl (k := 1) (by decide) (by decide) dL_law_909 dL_law_910 dL_law_911 dL_law_912 dL_law_913 ?_
    refine la_a C B X hl (k := 2) (by decide) (by decide) dL_law_914 dL_law_915 dL_law_916 dL_law_917 dL_law_918 ?_
    refine la_a C B X hl (k := 3) (by decide) (by decide) dL_law_919 dL_law_920 dL_law_921 dL_law_922 dL_law_923 ?_
    refine la_a C B X hl (k := 4) (by decide) (by decide) dL_law_924 dL_law_925 dL_law_926 dL_law_927 dL_law_928 ?_
    refine lv_if_eq (tgt := 936) hx hb dL_law_929 (by decide) (fun c9 => absurd c9 hz) (fun _ => ?_)
    refine lv_iconst (v := (1 : Int32)) hx hb dL_law_932 (by decide) ?_
    refine lv_goto (tgt := 937) hx hb dL_law_933 (by decide) ?_
    refine k_X11_report C X hl.1 e1 sd_w43_14 ⟨by decide, by decide, hce.1, hce.2⟩ (Nat.le_of_ble_eq_true rfl) dL_law_937 (fun H locs X => ?_)
    refine lv_aload_n hx hb dL_law_940 rfl (lv_at hl 2 rfl) ?_
    refine la_a C B X hl (k := 1) (by decide) (by decide) dL_law_941 dL_law_942 dL_law_943 dL_law_944 dL_law_945 ?_
    refine la_a C B X hl (k := 2) (by decide) (by decide) dL_law_946 dL_law_947 dL_law_948 dL_law_949 dL_law_950 ?_
    refine la_a C B X hl (k := 3) (by decide) (by decide) dL_law_951 dL_law_952 dL_law_953 dL_law_954 dL_law_955 ?_
    refine la_a C B X hl (k := 4) (by decide) (by decide) dL_law_956 dL_law_957 dL_law_958 dL_law_959 dL_law_960 ?_
    refine lv_if_eq (tgt := 968) hx hb dL_law_961 (by decide) (fun c9 => absurd c9 hz) (fun _ => ?_)
    refine lv_iconst (v := (1 : Int32)) hx hb dL_law_964 (by decide) ?_
    refine lv_goto (tgt := 969) hx hb dL_law_965 (by decide) ?_
    refine k_X12_report C X hl.1 e2 sd_w43_23 ⟨by decide, by decide, hce.1, hce.2⟩ (Nat.le_of_ble_eq_true rfl) dL_law_969 (fun H locs X => ?_)
    refine lv_icmp_eq (tgt := 1209) hx hb dL_law_972 (by decide) (fun _ => ?_) (fun c9 => absurd rfl c9)
    exact kk _ _ _ _ ⟨w2, y1, y2, X⟩
set_option maxHeartbeats 4000000 in
set_option maxRecDepth 100000 in
theorem lc_19 {p : Program} {l : Launch} {e : Env} {s : State} {m : MethodId} {args : Array Value} {below : List Frame} {meth : Method} {c : Code} {H : Heap} {locs : List Loc} {Q : State → Prop} {cells slots : Nat} {ls : Array Slot} {D : va_G} {cy : Nat → ClassId} {ad : Nat → Nat} {A : Nat → Prop} {b0 : Nat} {S : sd_St} {b L : Nat} {xs : Nat → Int32} {i : Nat} {σ : Sg} (C : sd_C RL cL_law 4 ret D cy ad A b0 p s m args meth c) (B : la_B s A b L xs i) (hl : lv_has ls 4 [(0, .ref b), (1, .ref (ad 0)), (2, .ref (ad 130)), (3, .int (nI i))]) (I : la_I D cy ad A s σ S H locs) (hce : cells ≤ room_1.cells ∧ slots ≤ room_1.slots) (kk : ∀ (σ2 : Sg) (S2 : sd_St) (H1 : Heap) (locs1 : List Loc), la_I D cy ad A s σ2 S2 H1 locs1 → W p l e room_1 s m args below meth c H1 locs1 cells slots Q (F0 m 1209 ls [])) : W p l e room_1 s m args below meth c H locs cells slots Q (F0 m 977 ls []) := by
  obtain ⟨hw, hC, hR, X⟩ := I
  obtain ⟨hx, hb, -, -, hown, hts, -, -⟩ := id C
  obtain ⟨v, σ2, S1, S2, w2, e1, e2, y1, y2⟩ := ag_step (ag_clear) hw hC hR
  refine lv_aload_n hx hb dL_law_977 rfl (lv_at hl 1 rfl) ?_
  refine k_X11_clear C X hl.1 e1 sd_w44_7 ⟨by decide, by decide, hce.1, hce.2⟩ (Nat.le_of_ble_eq_true rfl) dL_law_978 (fun H locs X => ?_)
  refine lv_aload_n hx hb dL_law_981 rfl (lv_at hl 2 rfl) ?_
  refine k_X12_clear C X hl.1 e2 sd_w44_11 ⟨by decide, by decide, hce.1, hce.2⟩ (Nat.le_of_ble_eq_true rfl) dL_law_982 (fun H locs X => ?_)
  refine lv_icmp_eq (tgt := 1209) hx hb dL_law_985 (by decide) (fun _ => ?_) (fun c9 => absurd rfl c9)
  exact kk _ _ _ _ ⟨w2, y1, y2, X⟩
set_option maxHeartbeats 4000000 in
set_option maxRecDepth 100000 in
theorem lc_20 {p : Program} {l : Launch} {e : Env} {s : State} {m : MethodId} {args : Array Value} {below : List Frame} {meth : Method} {c : Code} {H : Heap} {locs : List Loc} {Q : State → Prop} {cells slots : Nat} {ls : Array Slot} {D : va_G} {cy : Nat → ClassId} {ad : Nat → Nat} {A : Nat → Prop} {b0 : Nat} {S : sd_St} {b L : Nat} {xs : Nat → Int32} {i : Nat} {σ : Sg} (C : sd_C RL cL_law 4 ret D cy ad A b0 p s m args meth c) (B : la_B s A b L xs i) (hl : lv_has ls 4 [(0, .ref b), (1, .ref (ad 0)), (2, .ref (ad 130)), (3, .int (nI i))]) (I : la_I D cy ad A s σ S H locs) (hce : cells ≤ room_1.cells ∧ slots ≤ room_1.slots) (kk : ∀ (σ2 : Sg) (S2 : sd_St) (H1 : Heap) (locs1 : List Loc), la_I D cy ad A s σ2 S2 H1 locs1 → W p l e room_1 s m args below meth c H1 locs1 cells slots Q (F0 m 1209 ls [])) : W p l e room_1 s m args below meth c H locs cells slots Q (F0 m 990 ls []) := by
  obtain ⟨hw, hC, hR, X⟩ := I
  obtain ⟨hx, hb, -, -, hown, hts, -, -⟩ := id C
  obtain ⟨v, σ2, S1, S2, w2, e1, e2, y1, y2⟩ := ag_step (ag_holds) hw hC hR
  refine lv_aload_n hx hb dL_law_990 rfl (lv_at hl 1 rfl) ?_
  refine k_X11_holds C X hl.1 e1 sd_w44_15 ⟨by decide, by decide, hce.1, hce.2⟩ (Nat.le_of_ble_eq_true rfl) dL_law_991 (fun H locs X => ?_)
  refine lv_aload_n hx hb dL_law_994 rfl (lv_at hl 2 rfl) ?_
  refine k_X12_holds C X hl.1 e2 sd_w45_0 ⟨by decide, by decide, hce.1, hce.2⟩ (Nat.le_of_ble_eq_true rfl) dL_law_995 (fun H locs X => ?_)
  refine lv_icmp_eq (tgt := 1209) hx hb dL_law_998 (by decide) (fun _ => ?_) (fun c9 => absurd rfl c9)
  exact kk _ _ _ _ ⟨w2, y1, y2, X⟩
set_option maxHeartbeats 4000000 in
set_option maxRecDepth 100000 in
theorem lc_21 {p : Program} {l : Launch} {e : Env} {s : State} {m : MethodId} {args : Array Value} {below : List Frame} {meth : Method} {c : Code} {H : Heap} {locs : List Loc} {Q : State → Prop} {cells slots : Nat} {ls : Array Slot} {D : va_G} {cy : Nat → ClassId} {ad : Nat → Nat} {A : Nat → Prop} {b0 : Nat} {S : sd_St} {b L : Nat} {xs : Nat → Int32} {i : Nat} {σ : Sg} (C : sd_C RL cL_law 4 ret D cy ad A b0 p s m args meth c) (B : la_B s A b L xs i) (hl : lv_has ls 4 [(0, .ref b), (1, .ref (ad 0)), (2, .ref (ad 130)), (3, .int (nI i))]) (I : la_I D cy ad A s σ S H locs) (hce : cells ≤ room_1.cells ∧ slots ≤ room_1.slots) (kk : ∀ (σ2 : Sg) (S2 : sd_St) (H1 : Heap) (locs1 : List Loc), la_I D cy ad A s σ2 S2 H1 locs1 → W p l e room_1 s m args below meth c H1 locs1 cells slots Q (F0 m 1209 ls [])) : W p l e room_1 s m args below meth c H locs cells slots Q (F0 m 1003 ls []) := by
  obtain ⟨hw, hC, hR, X⟩ := I
  obtain ⟨hx, hb, -, -, hown, hts, -, -⟩ := id C
  obtain ⟨v, σ2, S1, S2, w2, e1, e2, y1, y2⟩ := ag_step (ag_began (xs (i + 1))) hw hC hR
  refine lv_aload_n hx hb dL_law_1003 rfl (lv_at hl 1 rfl) ?_
  refine la_a C B X hl (k := 1) (by decide) (by decide) dL_law_1004 dL_law_1005 dL_law_1006 dL_law_1007 dL_law_1008 ?_
  refine k_X11_began C X hl.1 e1 sd_w45_12 ⟨by decide, by decide, hce.1, hce.2⟩ (Nat.le_of_ble_eq_true rfl) dL_law_1009 (fun H locs X => ?_)
  refine lv_aload_n hx hb dL_law_1012 rfl (lv_at hl 2 rfl) ?_
  refine la_a C B X hl (k := 1) (by decide) (by decide) dL_law_1013 dL_law_1014 dL_law_1015 dL_law_1016 dL_law_1017 ?_
  refine k_X12_began C X hl.1 e2 sd_w45_21 ⟨by decide, by decide, hce.1, hce.2⟩ (Nat.le_of_ble_eq_true rfl) dL_law_1018 (fun H locs X => ?_)
  refine lv_icmp_eq (tgt := 1209) hx hb dL_law_1021 (by decide) (fun _ => ?_) (fun c9 => absurd rfl c9)
  exact kk _ _ _ _ ⟨w2, y1, y2, X⟩
set_option maxHeartbeats 4000000 in
set_option maxRecDepth 100000 in
theorem lc_22 {p : Program} {l : Launch} {e : Env} {s : State} {m : MethodId} {args : Array Value} {below : List Frame} {meth : Method} {c : Code} {H : Heap} {locs : List Loc} {Q : State → Prop} {cells slots : Nat} {ls : Array Slot} {D : va_G} {cy : Nat → ClassId} {ad : Nat → Nat} {A : Nat → Prop} {b0 : Nat} {S : sd_St} {b L : Nat} {xs : Nat → Int32} {i : Nat} {σ : Sg} (C : sd_C RL cL_law 4 ret D cy ad A b0 p s m args meth c) (B : la_B s A b L xs i) (hl : lv_has ls 4 [(0, .ref b), (1, .ref (ad 0)), (2, .ref (ad 130)), (3, .int (nI i))]) (I : la_I D cy ad A s σ S H locs) (hce : cells ≤ room_1.cells ∧ slots ≤ room_1.slots) (kk : ∀ (σ2 : Sg) (S2 : sd_St) (H1 : Heap) (locs1 : List Loc), la_I D cy ad A s σ2 S2 H1 locs1 → W p l e room_1 s m args below meth c H1 locs1 cells slots Q (F0 m 1209 ls [])) : W p l e room_1 s m args below meth c H locs cells slots Q (F0 m 1026 ls []) := by
  obtain ⟨hw, hC, hR, X⟩ := I
  obtain ⟨hx, hb, -, -, hown, hts, -, -⟩ := id C
  obtain ⟨v, σ2, S1, S2, w2, e1, e2, y1, y2⟩ := ag_step (ag_wrong) hw hC hR
  refine lv_aload_n hx hb dL_law_1026 rfl (lv_at hl 1 rfl) ?_
  refine k_X11_wrong C X hl.1 e1 sd_w46_1 ⟨by decide, by decide, hce.1, hce.2⟩ (Nat.le_of_ble_eq_true rfl) dL_law_1027 (fun H locs X => ?_)
  refine lv_aload_n hx hb dL_law_1030 rfl (lv_at hl 2 rfl) ?_
  refine k_X12_wrong C X hl.1 e2 sd_w46_21 ⟨by decide, by decide, hce.1, hce.2⟩ (Nat.le_of_ble_eq_true rfl) dL_law_1031 (fun H locs X => ?_)
  refine lv_icmp_eq (tgt := 1209) hx hb dL_law_1034 (by decide) (fun _ => ?_) (fun c9 => absurd rfl c9)
  exact kk _ _ _ _ ⟨w2, y1, y2, X⟩
set_option maxHeartbeats 4000000 in
set_option maxRecDepth 100000 in
theorem lc_23 {p : Program} {l : Launch} {e : Env} {s : State} {m : MethodId} {args : Array Value} {below : List Frame} {meth : Method} {c : Code} {H : Heap} {locs : List Loc} {Q : State → Prop} {cells slots : Nat} {ls : Array Slot} {D : va_G} {cy : Nat → ClassId} {ad : Nat → Nat} {A : Nat → Prop} {b0 : Nat} {S : sd_St} {b L : Nat} {xs : Nat → Int32} {i : Nat} {σ : Sg} (C : sd_C RL cL_law 4 ret D cy ad A b0 p s m args meth c) (B : la_B s A b L xs i) (hl : lv_has ls 4 [(0, .ref b), (1, .ref (ad 0)), (2, .ref (ad 130)), (3, .int (nI i))]) (I : la_I D cy ad A s σ S H locs) (hce : cells ≤ room_1.cells ∧ slots ≤ room_1.slots) (kk : ∀ (σ2 : Sg) (S2 : sd_St) (H1 : Heap) (locs1 : List Loc), la_I D cy ad A s σ2 S2 H1 locs1 → W p l e room_1 s m args below meth c H1 locs1 cells slots Q (F0 m 1209 ls [])) : W p l e room_1 s m args below meth c H locs cells slots Q (F0 m 1039 ls []) := by
  obtain ⟨hw, hC, hR, X⟩ := I
  obtain ⟨hx, hb, -, -, hown, hts, -, -⟩ := id C
  obtain ⟨v, σ2, S1, S2, w2, e1, e2, y1, y2⟩ := ag_step (ag_instead (xs (i + 1))) hw hC hR
  refine lv_aload_n hx hb dL_law_1039 rfl (lv_at hl 1 rfl) ?_
  refine la_a C B X hl (k := 1) (by decide) (by decide) dL_law_1040 dL_law_1041 dL_law_1042 dL_law_1043 dL_law_1044 ?_
  refine k_X11_instead C X hl.1 e1 sd_w47_5 ⟨by decide, by decide, hce.1, hce.2⟩ (Nat.le_of_ble_eq_true rfl) dL_law_1045 (fun H locs X => ?_)
  refine lv_aload_n hx hb dL_law_1048 rfl (lv_at hl 2 rfl) ?_
  refine la_a C B X hl (k := 1) (by decide) (by decide) dL_law_1049 dL_law_1050 dL_law_1051 dL_law_1052 dL_law_1053 ?_
  refine k_X12_instead C X hl.1 e2 sd_w47_9 ⟨by decide, by decide, hce.1, hce.2⟩ (Nat.le_of_ble_eq_true rfl) dL_law_1054 (fun H locs X => ?_)
  refine lv_icmp_eq (tgt := 1209) hx hb dL_law_1057 (by decide) (fun _ => ?_) (fun c9 => absurd rfl c9)
  exact kk _ _ _ _ ⟨w2, y1, y2, X⟩
set_option maxHeartbeats 4000000 in
set_option maxRecDepth 100000 in
theorem lc_24 {p : Program} {l : Launch} {e : Env} {s : State} {m : MethodId} {args : Array Value} {below : List Frame} {meth : Method} {c : Code} {H : Heap} {locs : List Loc} {Q : State → Prop} {cells slots : Nat} {ls : Array Slot} {D : va_G} {cy : Nat → ClassId} {ad : Nat → Nat} {A : Nat → Prop} {b0 : Nat} {S : sd_St} {b L : Nat} {xs : Nat → Int32} {i : Nat} {σ : Sg} (C : sd_C RL cL_law 4 ret D cy ad A b0 p s m args meth c) (B : la_B s A b L xs i) (hl : lv_has ls 4 [(0, .ref b), (1, .ref (ad 0)), (2, .ref (ad 130)), (3, .int (nI i))]) (I : la_I D cy ad A s σ S H locs) (hce : cells ≤ room_1.cells ∧ slots ≤ room_1.slots) (kk : ∀ (σ2 : Sg) (S2 : sd_St) (H1 : Heap) (locs1 : List Loc), la_I D cy ad A s σ2 S2 H1 locs1 → W p l e room_1 s m args below meth c H1 locs1 cells slots Q (F0 m 1209 ls [])) : W p l e room_1 s m args below meth c H locs cells slots Q (F0 m 1062 ls []) := by
  obtain ⟨hw, hC, hR, X⟩ := I
  obtain ⟨hx, hb, -, -, hown, hts, -, -⟩ := id C
  obtain ⟨v, σ2, S1, S2, w2, e1, e2, y1, y2⟩ := ag_step (ag_runs (xs (i + 1)) (xs (i + 2)) (xs (i + 3)) (xs (i + 4)) (xs (i + 5)) (xs (i + 6))) hw hC hR
  refine lv_aload_n hx hb dL_law_1062 rfl (lv_at hl 1 rfl) ?_
  refine la_a C B X hl (k := 1) (by decide) (by decide) dL_law_1063 dL_law_1064 dL_law_1065 dL_law_1066 dL_law_1067 ?_
  refine la_a C B X hl (k := 2) (by decide) (by decide) dL_law_1068 dL_law_1069 dL_law_1070 dL_law_1071 dL_law_1072 ?_
  refine la_a C B X hl (k := 3) (by decide) (by decide) dL_law_1073 dL_law_1074 dL_law_1075 dL_law_1076 dL_law_1077 ?_
  refine la_a C B X hl (k := 4) (by decide) (by decide) dL_law_1078 dL_law_1079 dL_law_1080 dL_law_1081 dL_law_1082 ?_
  refine la_a C B X hl (k := 5) (by decide) (by decide) dL_law_1083 dL_law_1084 dL_law_1085 dL_law_1086 dL_law_1087 ?_
  refine la_a6 C B X hl dL_law_1088 dL_law_1089 dL_law_1090 dL_law_1092 dL_law_1093 ?_
  refine k_X11_runs C X hl.1 e1 sd_w47_13 ⟨by decide, by decide, hce.1, hce.2⟩ (Nat.le_of_ble_eq_true rfl) dL_law_1094 (fun H locs X => ?_)
  refine lv_aload_n hx hb dL_law_1097 rfl (lv_at hl 2 rfl) ?_
  refine la_a C B X hl (k := 1) (by decide) (by decide) dL_law_1098 dL_law_1099 dL_law_1100 dL_law_1101 dL_law_1102 ?_
  refine la_a C B X hl (k := 2) (by decide) (by decide) dL_law_1103 dL_law_1104 dL_law_1105 dL_law_1106 dL_law_1107 ?_
  refine la_a C B X hl (k := 3) (by decide) (by decide) dL_law_1108 dL_law_1109 dL_law_1110 dL_law_1111 dL_law_1112 ?_
  refine la_a C B X hl (k := 4) (by decide) (by decide) dL_law_1113 dL_law_1114 dL_law_1115 dL_law_1116 dL_law_1117 ?_
  refine la_a C B X hl (k := 5) (by decide) (by decide) dL_law_1118 dL_law_1119 dL_law_1120 dL_law_1121 dL_law_1122 ?_
  refine la_a6 C B X hl dL_law_1123 dL_law_1124 dL_law_1125 dL_law_1127 dL_law_1128 ?_
  refine k_X12_runs C X hl.1 e2 sd_w48_18 ⟨by decide, by decide, hce.1, hce.2⟩ (Nat.le_of_ble_eq_true rfl) dL_law_1129 (fun H locs X => ?_)
  refine lv_icmp_eq (tgt := 1209) hx hb dL_law_1132 (by decide) (fun _ => ?_) (fun c9 => absurd rfl c9)
  exact kk _ _ _ _ ⟨w2, y1, y2, X⟩
set_option maxHeartbeats 4000000 in
set_option maxRecDepth 100000 in
theorem lc_25 {p : Program} {l : Launch} {e : Env} {s : State} {m : MethodId} {args : Array Value} {below : List Frame} {meth : Method} {c : Code} {H : Heap} {locs : List Loc} {Q : State → Prop} {cells slots : Nat} {ls : Array Slot} {D : va_G} {cy : Nat → ClassId} {ad : Nat → Nat} {A : Nat → Prop} {b0 : Nat} {S : sd_St} {b L : Nat} {xs : Nat → Int32} {i : Nat} {σ : Sg} (C : sd_C RL cL_law 4 ret D cy ad A b0 p s m args meth c) (B : la_B s A b L xs i) (hl : lv_has ls 4 [(0, .ref b), (1, .ref (ad 0)), (2, .ref (ad 130)), (3, .int (nI i))]) (I : la_I D cy ad A s σ S H locs) (hce : cells ≤ room_1.cells ∧ slots ≤ room_1.slots) (kk : ∀ (σ2 : Sg) (S2 : sd_St) (H1 : Heap) (locs1 : List Loc), la_I D cy ad A s σ2 S2 H1 locs1 → W p l e room_1 s m args below meth c H1 locs1 cells slots Q (F0 m 1209 ls [])) : W p l e room_1 s m args below meth c H locs cells slots Q (F0 m 1137 ls []) := by
  obtain ⟨hw, hC, hR, X⟩ := I
  obtain ⟨hx, hb, -, -, hown, hts, -, -⟩ := id C
  by_cases hz : xs (i + 2) = 0
  · obtain ⟨v, σ2, S1, S2, w2, e1, e2, y1, y2⟩ := ag_step (ag_mark (xs (i + 1)) 0) hw hC hR
    refine lv_aload_n hx hb dL_law_1137 rfl (lv_at hl 1 rfl) ?_
    refine la_a C B X hl (k := 1) (by decide) (by decide) dL_law_1138 dL_law_1139 dL_law_1140 dL_law_1141 dL_law_1142 ?_
    refine la_a C B X hl (k := 2) (by decide) (by decide) dL_law_1143 dL_law_1144 dL_law_1145 dL_law_1146 dL_law_1147 ?_
    refine lv_if_eq (tgt := 1155) hx hb dL_law_1148 (by decide) (fun _ => ?_) (fun c9 => absurd hz c9)
    refine lv_iconst (v := (0 : Int32)) hx hb dL_law_1155 (by decide) ?_
    refine k_X11_mark C X hl.1 e1 sd_w49_11 ⟨by decide, by decide, hce.1, hce.2⟩ (Nat.le_of_ble_eq_true rfl) dL_law_1156 (fun H locs X => ?_)
    refine lv_aload_n hx hb dL_law_1159 rfl (lv_at hl 2 rfl) ?_
    refine la_a C B X hl (k := 1) (by decide) (by decide) dL_law_1160 dL_law_1161 dL_law_1162 dL_law_1163 dL_law_1164 ?_
    refine la_a C B X hl (k := 2) (by decide) (by decide) dL_law_1165 dL_law_1166 dL_law_1167 dL_law_1168 dL_law_1169 ?_
    refine lv_if_eq (tgt := 1177) hx hb dL_law_1170 (by decide) (fun _ => ?_) (fun c9 => absurd hz c9)
    refine lv_iconst (v := (0 : Int32)) hx hb dL_law_1177 (by decide) ?_
    refine k_X12_mark C X hl.1 e2 sd_w50_5 ⟨by decide, by decide, hce.1, hce.2⟩ (Nat.le_of_ble_eq_true rfl) dL_law_1178 (fun H locs X => ?_)
    refine lv_icmp_eq (tgt := 1209) hx hb dL_law_1181 (by decide) (fun _ => ?_) (fun c9 => absurd rfl c9)
    exact kk _ _ _ _ ⟨w2, y1, y2, X⟩
  · obtain ⟨v, σ2, S1, S2, w2, e1, e2, y1, y2⟩ := ag_step (ag_mark (xs (i + 1)) 1) hw hC hR
    refine lv_aload_n hx hb dL_law_1137 rfl (lv_at hl 1 rfl) ?_
    refine la_a C B X hl (k := 1) (by decide) (by decide) dL_law_1138 dL_law_1139 dL_law_1140 dL_law_1141 dL_law_1142 ?_
    refine la_a C B X hl (k := 2) (by decide) (by decide) dL_law_1143 dL_law_1144 dL_law_1145 dL_law_1146 dL_law_1147 ?_
    refine lv_if_eq (tgt := 1155) hx hb dL_law_1148 (by decide) (fun c9 => absurd c9 hz) (fun _ => ?_)
    refine lv_iconst (v := (1 : Int32)) hx hb dL_law_1151 (by decide) ?_
    refine lv_goto (tgt := 1156) hx hb dL_law_1152 (by decide) ?_
    refine k_X11_mark C X hl.1 e1 sd_w49_11 ⟨by decide, by decide, hce.1, hce.2⟩ (Nat.le_of_ble_eq_true rfl) dL_law_1156 (fun H locs X => ?_)
    refine lv_aload_n hx hb dL_law_1159 rfl (lv_at hl 2 rfl) ?_
    refine la_a C B X hl (k := 1) (by decide) (by decide) dL_law_1160 dL_law_1161 dL_law_1162 dL_law_1163 dL_law_1164 ?_
    refine la_a C B X hl (k := 2) (by decide) (by decide) dL_law_1165 dL_law_1166 dL_law_1167 dL_law_1168 dL_law_1169 ?_
    refine lv_if_eq (tgt := 1177) hx hb dL_law_1170 (by decide) (fun c9 => absurd c9 hz) (fun _ => ?_)
    refine lv_iconst (v := (1 : Int32)) hx hb dL_law_1173 (by decide) ?_
    refine lv_goto (tgt := 1178) hx hb dL_law_1174 (by decide) ?_
    refine k_X12_mark C X hl.1 e2 sd_w50_5 ⟨by decide, by decide, hce.1, hce.2⟩ (Nat.le_of_ble_eq_true rfl) dL_law_1178 (fun H locs X => ?_)
    refine lv_icmp_eq (tgt := 1209) hx hb dL_law_1181 (by decide) (fun _ => ?_) (fun c9 => absurd rfl c9)
    exact kk _ _ _ _ ⟨w2, y1, y2, X⟩
set_option maxHeartbeats 4000000 in
set_option maxRecDepth 100000 in
theorem lc_26 {p : Program} {l : Launch} {e : Env} {s : State} {m : MethodId} {args : Array Value} {below : List Frame} {meth : Method} {c : Code} {H : Heap} {locs : List Loc} {Q : State → Prop} {cells slots : Nat} {ls : Array Slot} {D : va_G} {cy : Nat → ClassId} {ad : Nat → Nat} {A : Nat → Prop} {b0 : Nat} {S : sd_St} {b L : Nat} {xs : Nat → Int32} {i : Nat} {σ : Sg} (C : sd_C RL cL_law 4 ret D cy ad A b0 p s m args meth c) (B : la_B s A b L xs i) (hl : lv_has ls 4 [(0, .ref b), (1, .ref (ad 0)), (2, .ref (ad 130)), (3, .int (nI i))]) (I : la_I D cy ad A s σ S H locs) (hce : cells ≤ room_1.cells ∧ slots ≤ room_1.slots) (kk : ∀ (σ2 : Sg) (S2 : sd_St) (H1 : Heap) (locs1 : List Loc), la_I D cy ad A s σ2 S2 H1 locs1 → W p l e room_1 s m args below meth c H1 locs1 cells slots Q (F0 m 1209 ls [])) : W p l e room_1 s m args below meth c H locs cells slots Q (F0 m 1186 ls []) := by
  obtain ⟨hw, hC, hR, X⟩ := I
  obtain ⟨hx, hb, -, -, hown, hts, -, -⟩ := id C
  obtain ⟨v, σ2, S1, S2, w2, e1, e2, y1, y2⟩ := ag_step (ag_count (xs (i + 1))) hw hC hR
  refine lv_aload_n hx hb dL_law_1186 rfl (lv_at hl 1 rfl) ?_
  refine la_a C B X hl (k := 1) (by decide) (by decide) dL_law_1187 dL_law_1188 dL_law_1189 dL_law_1190 dL_law_1191 ?_
  refine k_X11_count C X hl.1 e1 sd_w50_9 ⟨by decide, by decide, hce.1, hce.2⟩ (Nat.le_of_ble_eq_true rfl) dL_law_1192 (fun H locs X => ?_)
  refine lv_aload_n hx hb dL_law_1195 rfl (lv_at hl 2 rfl) ?_
  refine la_a C B X hl (k := 1) (by decide) (by decide) dL_law_1196 dL_law_1197 dL_law_1198 dL_law_1199 dL_law_1200 ?_
  refine k_X12_count C X hl.1 e2 sd_w50_16 ⟨by decide, by decide, hce.1, hce.2⟩ (Nat.le_of_ble_eq_true rfl) dL_law_1201 (fun H locs X => ?_)
  refine lv_icmp_eq (tgt := 1209) hx hb dL_law_1204 (by decide) (fun _ => ?_) (fun c9 => absurd rfl c9)
  exact kk _ _ _ _ ⟨w2, y1, y2, X⟩
