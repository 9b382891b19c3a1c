section SM0
variable {p : Program} {l : Launch} {e : Env} {R : Room} {s : State} {m : MethodId} {args : Array Value} {below : List Frame} {meth : Method} {c : Code} {H : Heap} {locs : List Loc} {Q : State → Prop}
variable {cc : ByteArray} {pc nL index cells slots : Nat} {ls : Array Slot} {rest : List Value} {D : va_G} {cy : Nat → ClassId} {ad : Nat → Nat} {A : Nat → Prop} {b0 : Nat} {own : String} {rt : Option FieldType} {S : sd_St}
/-! ===== SecretDays$Colds.start(I)V ===== -/
def f_X0_start (k0 : Nat) (x1 : Int32) (S : sd_St) : Option (Unit × sd_St) := sd_nm (sd_L S k0 0 (x1.toInt64)) (fun S_1 => (some ((), S_1)))
set_option maxHeartbeats 4000000 in
set_option maxRecDepth 100000 in
theorem c_X0_start {k0 : Nat} {x1 : Int32} (hk0 : sd_kd k0 = 0) {S S' : sd_St} (h : f_X0_start k0 x1 S = some ((), S')) : Met l yX0_start (Cond.code yX0_start cX0_start 2 none :: sd_wl) (sd_rm 0) (sd_P D cy ad A b0 [.ref (ad k0), .int x1] S) (sd_Qv D cy ad A S') 0 0 A := by
  refine sd_met (by decide) (Nat.le_of_ble_eq_true rfl) (fun p e s m args below meth c ls C X hl => ?_)
  obtain ⟨hx, hb, -, hml, hown, hts, -, hG⟩ := id C
  replace C : sd_C RX0 cX0_start 2 none D cy ad A b0 p s m args meth c := C
  replace hl : lv_has ls 2 [(0, .ref (ad k0)), (1, .int x1)] := hl
  unfold f_X0_start at h
  refine lv_aload_n hx hb dX0_start_0 rfl (lv_at hl 0 rfl) ?_
  refine lv_iload_n hx hb dX0_start_1 rfl (lv_at hl 1 rfl) ?_
  refine lv_i2l (v := x1.toInt64) hx hb dX0_start_2 rfl ?_
  obtain ⟨S_1, eS_1, h⟩ := sd_nm_some h
  refine sd_p0_0 C X hk0 sd_w47_21 dX0_start_3 (fun H locs X => ?_)
  rw [← eS_1] at X
  cases h
  exact sd_vret C X dX0_start_6
theorem k_X0_start (C : sd_C own cc nL rt D cy ad A b0 p s m args meth c) (X : sd_H D cy ad A s S H locs) (hls : ls.size = nL) {k0 : Nat} {x1 : Int32} {S2 : sd_St} (hk0 : sd_kd k0 = 0) (h : f_X0_start k0 x1 S = some ((), S2)) (hlink : Cond.methodLink own index yX0_start ∈ sd_wl) (hR : 1 ≤ R.frames ∧ 21 ≤ R.locals ∧ cells ≤ R.cells ∧ slots ≤ R.slots) (hst : (rest.map fun v => v.category).sum ≤ 8) (hdg : decode cc pc = .ok (.invokevirtual index, 3)) (kk : ∀ (H1 : Heap) (locs1 : List Loc), sd_H D cy ad A s S2 H1 locs1 → W p l e R s m args below meth c H1 locs1 cells slots Q (F0 m (pc + 3) ls rest)) : W p l e R s m args below meth c H locs cells slots Q (F0 m pc ls (.int x1 :: .ref (ad k0) :: rest)) :=
  sd_goV X (sd_runV C X hls (n := 1) (k := k0) (As := [.int x1]) (c_X0_start (l := l) (b0 := b0) hk0 h) (sd_goodV hlink sd_w47_18 sd_w47_19 sd_w2_16 sd_w47_20) (ci := 0) rfl (by rw [hk0]; decide) (sd_c0 hk0) (by decide +kernel) rfl hR rfl hst hdg) kk
/-! ===== java/util/Arrays.fill([II)V ===== -/
def f_J7_fill_53178_l5 (k0 : Nat) : Nat → Int32 → Int32 → Int32 → sd_St → Option (Unit × sd_St)
  | 0 => fun _ _ _ _ => none
  | n + 1 => fun x1 x2 x3 S => (if x3 ≤ x2 then (some ((), S)) else sd_st S k0 x2 x1 (fun S_2 => (f_J7_fill_53178_l5 k0 n) x1 (x2 + (1 : Int32)) x3 S_2))
set_option maxHeartbeats 4000000 in
set_option maxRecDepth 100000 in
theorem t_J7_fill_53178_l5 (C : sd_C RJ7 cJ7_fill_53178 4 none D cy ad A b0 p s m args meth c) {k0 : Nat} (hk0 : sd_kd k0 = 13) {S' : sd_St} : ∀ (n : Nat) (x1 : Int32) (x2 : Int32) (x3 : Int32) (S : sd_St) (H : Heap) (locs : List Loc) (ls : Array Slot), f_J7_fill_53178_l5 k0 n x1 x2 x3 S = some ((), S') → sd_H D cy ad A s S H locs → lv_has ls 4 [(0, .ref (ad k0)), (1, .int x1), (2, .int x2), (3, .int x3)] → W p l e (sd_rm 0) s m args below meth c H locs 0 0 (MQ below (sd_Qv D cy ad A S') args s 0 0 A) (F0 m 5 ls []) := by
  obtain ⟨hx, hb, -, hml, hown, hts, -, hG⟩ := id C
  intro n
  induction n with
  | zero => intro x1 x2 x3 S H locs ls h; cases h
  | succ n ih =>
    intro x1 x2 x3 S H locs ls h X hl
    unfold f_J7_fill_53178_l5 at h
    refine lv_iload_n hx hb dJ7_fill_53178_5 rfl (lv_at hl 2 rfl) ?_
    refine lv_iload_n hx hb dJ7_fill_53178_6 rfl (lv_at hl 3 rfl) ?_
    refine lv_icmp_ge (tgt := 20) hx hb dJ7_fill_53178_7 (by decide) (fun c_1 => ?_) (fun c_1 => ?_)
    · have h := sd_ifp c_1 h
      cases h
      exact sd_vret C X dJ7_fill_53178_20
    · have h := sd_ifn c_1 h
      refine lv_aload_n hx hb dJ7_fill_53178_10 rfl (lv_at hl 0 rfl) ?_
      refine lv_iload_n hx hb dJ7_fill_53178_11 rfl (lv_at hl 2 rfl) ?_
      refine lv_iload_n hx hb dJ7_fill_53178_12 rfl (lv_at hl 1 rfl) ?_
      obtain ⟨bS_2, S_2, eS_2, h⟩ := sd_st_some h
      refine sd_iast C X hk0 bS_2 dJ7_fill_53178_13 (fun H locs X => ?_)
      rw [← eS_2] at X
      refine lv_iinc (v := (x2 + (1 : Int32))) (lv' := [(2, .int (x2 + (1 : Int32))), (0, .ref (ad k0)), (1, .int x1), (3, .int x3)]) hx hb dJ7_fill_53178_14 hl (k := 2) rfl rfl (by decide) rfl (fun ls hl => ?_)
      refine lv_goto (tgt := 5) hx hb dJ7_fill_53178_17 (by decide) ?_
      exact ih x1 (x2 + (1 : Int32)) x3 S_2 _ _ _ h X (lv_sub hl [1, 2, 0, 3] rfl)
def f_J7_fill_53178 (k0 : Nat) (x1 : Int32) (S : sd_St) : Option (Unit × sd_St) := sd_nm ((Int32.ofNat (sd_al k0))) (fun v_3 => f_J7_fill_53178_l5 k0 sd_FU x1 (0 : Int32) v_3 S)
set_option maxHeartbeats 4000000 in
set_option maxRecDepth 100000 in
theorem c_J7_fill_53178 {k0 : Nat} {x1 : Int32} (hk0 : sd_kd k0 = 13) {S S' : sd_St} (h : f_J7_fill_53178 k0 x1 S = some ((), S')) : Met l yJ7_fill_53178 (Cond.code yJ7_fill_53178 cJ7_fill_53178 4 none :: sd_wl) (sd_rm 0) (sd_P D cy ad A b0 [.ref (ad k0), .int x1] S) (sd_Qv D cy ad A S') 0 0 A := by
  refine sd_met (by decide) (Nat.le_of_ble_eq_true rfl) (fun p e s m args below meth c ls C X hl => ?_)
  obtain ⟨hx, hb, -, hml, hown, hts, -, hG⟩ := id C
  replace C : sd_C RJ7 cJ7_fill_53178 4 none D cy ad A b0 p s m args meth c := C
  replace hl : lv_has ls 4 [(0, .ref (ad k0)), (1, .int x1)] := hl
  unfold f_J7_fill_53178 at h
  refine lv_iconst (v := (0 : Int32)) hx hb dJ7_fill_53178_0 (by decide) ?_
  refine lv_istore_n (lv' := [(2, .int (0 : Int32)), (0, .ref (ad k0)), (1, .int x1)]) hx hb dJ7_fill_53178_1 rfl hl (by decide) rfl (fun ls hl => ?_)
  refine lv_aload_n hx hb dJ7_fill_53178_2 rfl (lv_at hl 1 rfl) ?_
  refine sd_ialen C X hk0 dJ7_fill_53178_3 ?_
  obtain ⟨v_3, e_3, h⟩ := sd_nm_some h
  refine sd_nmi e_3 ?_
  refine lv_istore_n (lv' := [(3, .int v_3), (2, .int (0 : Int32)), (0, .ref (ad k0)), (1, .int x1)]) hx hb dJ7_fill_53178_4 rfl hl (by decide) rfl (fun ls hl => ?_)
  exact t_J7_fill_53178_l5 C hk0 sd_FU x1 (0 : Int32) v_3 S _ _ _ h X (lv_sub hl [2, 3, 1, 0] rfl)
theorem k_J7_fill_53178 (C : sd_C own cc nL rt D cy ad A b0 p s m args meth c) (X : sd_H D cy ad A s S H locs) (hls : ls.size = nL) {k0 : Nat} {x1 : Int32} {S2 : sd_St} (hk0 : sd_kd k0 = 13) (h : f_J7_fill_53178 k0 x1 S = some ((), S2)) (hlink : Cond.methodLink own index yJ7_fill_53178 ∈ sd_wl) (hR : 1 ≤ R.frames ∧ 23 ≤ R.locals ∧ cells ≤ R.cells ∧ slots ≤ R.slots) (hst : (rest.map fun v => v.category).sum ≤ 8) (hdg : decode cc pc = .ok (.invokestatic index, 3)) (kk : ∀ (H1 : Heap) (locs1 : List Loc), sd_H D cy ad A s S2 H1 locs1 → W p l e R s m args below meth c H1 locs1 cells slots Q (F0 m (pc + 3) ls rest)) : W p l e R s m args below meth c H locs cells slots Q (F0 m pc ls (.int x1 :: .ref (ad k0) :: rest)) :=
  sd_goV X (sd_runJ C X hls (n := 2) (As := [.ref (ad k0), .int x1]) (c_J7_fill_53178 (l := l) (b0 := b0) hk0 h) hlink sd_w7_6 sd_w7_7 sd_w7_8 (by decide +kernel) rfl hR rfl hst hdg) kk
/-! ===== SecretDays$Rumour.begin(II)V ===== -/
def f_X5_begin (k0 : Nat) (x1 : Int32) (x2 : Int32) (S : sd_St) : Option (Unit × sd_St) := sd_cl (f_J7_fill_53178 (k0 + 1) (4393 : Int32) S) (fun _ S_1 => sd_nm (sd_I S_1 k0 0 x1) (fun S_3 => sd_st S_3 (k0 + 1) x1 x2 (fun S_4 => sd_nm (sd_I S_4 k0 1 ((1 : Int32) <<< (x1 &&& 31))) (fun S_5 => (some ((), S_5))))))
set_option maxHeartbeats 4000000 in
set_option maxRecDepth 100000 in
theorem c_X5_begin {k0 : Nat} {x1 : Int32} {x2 : Int32} (hk0 : sd_kd k0 = 5) {S S' : sd_St} (h : f_X5_begin k0 x1 x2 S = some ((), S')) : Met l yX5_begin (Cond.code yX5_begin cX5_begin 3 none :: sd_wl) (sd_rm 1) (sd_P D cy ad A b0 [.ref (ad k0), .int x1, .int x2] S) (sd_Qv D cy ad A S') 0 0 A := by
  refine sd_met (by decide) (Nat.le_of_ble_eq_true rfl) (fun p e s m args below meth c ls C X hl => ?_)
  obtain ⟨hx, hb, -, hml, hown, hts, -, hG⟩ := id C
  replace C : sd_C RX5 cX5_begin 3 none D cy ad A b0 p s m args meth c := C
  replace hl : lv_has ls 3 [(0, .ref (ad k0)), (1, .int x1), (2, .int x2)] := hl
  unfold f_X5_begin at h
  refine lv_aload_n hx hb dX5_begin_0 rfl (lv_at hl 0 rfl) ?_
  refine sd_g5_2 (k := k0) C X hk0 sd_w5_0 dX5_begin_1 ?_
  refine lv_sipush (v := (4393 : Int32)) hx hb dX5_begin_4 (by decide) ?_
  obtain ⟨r_2, S_1, er_2, h⟩ := sd_cl_some h
  refine k_J7_fill_53178 C X hl.1 (sd_k5_1 hk0) er_2 sd_w30_10 (by decide) (Nat.le_of_ble_eq_true rfl) dX5_begin_7 (fun H locs X => ?_)
  refine lv_aload_n hx hb dX5_begin_10 rfl (lv_at hl 0 rfl) ?_
  refine lv_iload_n hx hb dX5_begin_11 rfl (lv_at hl 1 rfl) ?_
  obtain ⟨S_3, eS_3, h⟩ := sd_nm_some h
  refine sd_p5_0 C X hk0 sd_w30_8 dX5_begin_12 (fun H locs X => ?_)
  rw [← eS_3] at X
  refine lv_aload_n hx hb dX5_begin_15 rfl (lv_at hl 0 rfl) ?_
  refine sd_g5_2 (k := k0) C X hk0 sd_w5_0 dX5_begin_16 ?_
  refine lv_iload_n hx hb dX5_begin_19 rfl (lv_at hl 1 rfl) ?_
  refine lv_iload_n hx hb dX5_begin_20 rfl (lv_at hl 2 rfl) ?_
  obtain ⟨bS_4, S_4, eS_4, h⟩ := sd_st_some h
  refine sd_iast C X (sd_k5_1 hk0) bS_4 dX5_begin_21 (fun H locs X => ?_)
  rw [← eS_4] at X
  refine lv_aload_n hx hb dX5_begin_22 rfl (lv_at hl 0 rfl) ?_
  refine lv_iconst (v := (1 : Int32)) hx hb dX5_begin_23 (by decide) ?_
  refine lv_iload_n hx hb dX5_begin_24 rfl (lv_at hl 1 rfl) ?_
  refine lv_ishl hx hb dX5_begin_25 ?_
  obtain ⟨S_5, eS_5, h⟩ := sd_nm_some h
  refine sd_p5_1 C X hk0 sd_w30_9 dX5_begin_26 (fun H locs X => ?_)
  rw [← eS_5] at X
  cases h
  exact sd_vret C X dX5_begin_29
theorem k_X5_begin (C : sd_C own cc nL rt D cy ad A b0 p s m args meth c) (X : sd_H D cy ad A s S H locs) (hls : ls.size = nL) {k0 : Nat} {x1 : Int32} {x2 : Int32} {S2 : sd_St} (hk0 : sd_kd k0 = 5) (h : f_X5_begin k0 x1 x2 S = some ((), S2)) (hlink : Cond.methodLink own index yX5_begin ∈ sd_wl) (hR : 2 ≤ R.frames ∧ 62 ≤ R.locals ∧ cells ≤ R.cells ∧ slots ≤ R.slots) (hst : (rest.map fun v => v.category).sum ≤ 8) (hdg : decode cc pc = .ok (.invokevirtual index, 3)) (kk : ∀ (H1 : Heap) (locs1 : List Loc), sd_H D cy ad A s S2 H1 locs1 → W p l e R s m args below meth c H1 locs1 cells slots Q (F0 m (pc + 3) ls rest)) : W p l e R s m args below meth c H locs cells slots Q (F0 m pc ls (.int x2 :: .int x1 :: .ref (ad k0) :: rest)) :=
  sd_goV X (sd_runV C X hls (n := 2) (k := k0) (As := [.int x1, .int x2]) (c_X5_begin (l := l) (b0 := b0) hk0 h) (sd_goodV hlink sd_w30_5 sd_w30_6 sd_w2_4 sd_w30_7) (ci := 5) rfl (by rw [hk0]; decide) (sd_c5 hk0) (by decide +kernel) rfl hR rfl hst hdg) kk
/-! ===== SecretDays$Colds.drawPercent()I ===== -/
def f_X0_drawPercent (k0 : Nat) (S : sd_St) : Option (Int32 × sd_St) := sd_nm (sd_L S k0 0 (sd_lrem (((S.2 k0 0) * (1103515245 : Int64)) + (12345 : Int64)) (2147483648 : Int64))) (fun S_1 => (some (((sd_lrem ((S_1.2 k0 0) / (65536 : Int64)) (100 : Int64)).toInt32), S_1)))
set_option maxHeartbeats 4000000 in
set_option maxRecDepth 100000 in
theorem c_X0_drawPercent {k0 : Nat} (hk0 : sd_kd k0 = 0) {S S' : sd_St} {r : Int32} (h : f_X0_drawPercent k0 S = some (r, S')) : Met l yX0_drawPercent (Cond.code yX0_drawPercent cX0_drawPercent 1 (some .int) :: sd_wl) (sd_rm 0) (sd_P D cy ad A b0 [.ref (ad k0)] S) (sd_Qi D cy ad A r S') 0 0 A := by
  refine sd_met (by decide) (Nat.le_of_ble_eq_true rfl) (fun p e s m args below meth c ls C X hl => ?_)
  obtain ⟨hx, hb, -, hml, hown, hts, -, hG⟩ := id C
  replace C : sd_C RX0 cX0_drawPercent 1 (some .int) D cy ad A b0 p s m args meth c := C
  replace hl : lv_has ls 1 [(0, .ref (ad k0))] := hl
  unfold f_X0_drawPercent at h
  refine lv_aload_n hx hb dX0_drawPercent_0 rfl (lv_at hl 0 rfl) ?_
  refine lv_aload_n hx hb dX0_drawPercent_1 rfl (lv_at hl 0 rfl) ?_
  refine sd_g0_0 C X hk0 sd_w47_21 dX0_drawPercent_2 ?_
  refine lv_ldc2 (v := (1103515245 : Int64)) hx hb hown (hts _ sd_w48_12) dX0_drawPercent_5 ?_
  refine lv_lmul hx hb dX0_drawPercent_8 ?_
  refine lv_ldc2 (v := (12345 : Int64)) hx hb hown (hts _ sd_w48_13) dX0_drawPercent_9 ?_
  refine lv_ladd hx hb dX0_drawPercent_12 ?_
  refine lv_ldc2 (v := (2147483648 : Int64)) hx hb hown (hts _ sd_w48_14) dX0_drawPercent_13 ?_
  refine lv_lrem hx hb dX0_drawPercent_16 (by decide) ?_
  obtain ⟨S_1, eS_1, h⟩ := sd_nm_some h
  refine sd_p0_0 C X hk0 sd_w47_21 dX0_drawPercent_17 (fun H locs X => ?_)
  rw [← eS_1] at X
  refine lv_aload_n hx hb dX0_drawPercent_20 rfl (lv_at hl 0 rfl) ?_
  refine sd_g0_0 C X hk0 sd_w47_21 dX0_drawPercent_21 ?_
  refine lv_ldc2 (v := (65536 : Int64)) hx hb hown (hts _ sd_w48_15) dX0_drawPercent_24 ?_
  refine lv_ldiv hx hb dX0_drawPercent_27 (by decide) ?_
  refine lv_ldc2 (v := (100 : Int64)) hx hb hown (hts _ sd_w48_16) dX0_drawPercent_28 ?_
  refine lv_lrem hx hb dX0_drawPercent_31 (by decide) ?_
  refine lv_l2i (v := (sd_lrem ((S_1.2 k0 0) / (65536 : Int64)) (100 : Int64)).toInt32) hx hb dX0_drawPercent_32 rfl ?_
  cases h
  exact sd_iret C X dX0_drawPercent_33
theorem k_X0_drawPercent (C : sd_C own cc nL rt D cy ad A b0 p s m args meth c) (X : sd_H D cy ad A s S H locs) (hls : ls.size = nL) {k0 : Nat} {S2 : sd_St} {r : Int32} (hk0 : sd_kd k0 = 0) (h : f_X0_drawPercent k0 S = some (r, S2)) (hlink : Cond.methodLink own index yX0_drawPercent ∈ sd_wl) (hR : 1 ≤ R.frames ∧ 20 ≤ R.locals ∧ cells ≤ R.cells ∧ slots ≤ R.slots) (hst : (rest.map fun v => v.category).sum ≤ 8) (hdg : decode cc pc = .ok (.invokevirtual index, 3)) (kk : ∀ (H1 : Heap) (locs1 : List Loc), sd_H D cy ad A s S2 H1 locs1 → W p l e R s m args below meth c H1 locs1 cells slots Q (F0 m (pc + 3) ls (.int r :: rest))) : W p l e R s m args below meth c H locs cells slots Q (F0 m pc ls (.ref (ad k0) :: rest)) :=
  sd_goI X (sd_runV C X hls (n := 0) (k := k0) (As := []) (c_X0_drawPercent (l := l) (b0 := b0) hk0 h) (sd_goodV hlink sd_w48_9 sd_w48_10 sd_w2_16 sd_w48_11) (ci := 0) rfl (by rw [hk0]; decide) (sd_c0 hk0) (by decide +kernel) rfl hR rfl hst hdg) kk
/-! ===== SecretDays.has(II)Z ===== -/
def f_X11_has (x0 : Int32) (x1 : Int32) (S : sd_St) : Option (Int32 × sd_St) := (if ((x0 >>> (x1 &&& 31)) &&& (1 : Int32)) = 0 then (some ((0 : Int32), S)) else (some ((1 : Int32), S)))
set_option maxHeartbeats 4000000 in
set_option maxRecDepth 100000 in
theorem c_X11_has {x0 : Int32} {x1 : Int32} {S S' : sd_St} {r : Int32} (h : f_X11_has x0 x1 S = some (r, S')) : Met l yX11_has (Cond.code yX11_has cX11_has 2 (some .boolean) :: sd_wl) (sd_rm 0) (sd_P D cy ad A b0 [.int x0, .int x1] S) (sd_Qi D cy ad A r S') 0 0 A := by
  refine sd_met (by decide) (Nat.le_of_ble_eq_true rfl) (fun p e s m args below meth c ls C X hl => ?_)
  obtain ⟨hx, hb, -, hml, hown, hts, -, hG⟩ := id C
  replace C : sd_C RX11 cX11_has 2 (some .boolean) D cy ad A b0 p s m args meth c := C
  replace hl : lv_has ls 2 [(0, .int x0), (1, .int x1)] := hl
  unfold f_X11_has at h
  refine lv_iload_n hx hb dX11_has_0 rfl (lv_at hl 0 rfl) ?_
  refine lv_iload_n hx hb dX11_has_1 rfl (lv_at hl 1 rfl) ?_
  refine lv_ishr hx hb dX11_has_2 ?_
  refine lv_iconst (v := (1 : Int32)) hx hb dX11_has_3 (by decide) ?_
  refine lv_iand hx hb dX11_has_4 ?_
  refine lv_if_eq (tgt := 12) hx hb dX11_has_5 (by decide) (fun c_1 => ?_) (fun c_1 => ?_)
  · have h := sd_ifp c_1 h
    refine lv_iconst (v := (0 : Int32)) hx hb dX11_has_12 (by decide) ?_
    cases h
    exact sd_zret C X (by decide) dX11_has_13
  · have h := sd_ifn c_1 h
    refine lv_iconst (v := (1 : Int32)) hx hb dX11_has_8 (by decide) ?_
    refine lv_goto (tgt := 13) hx hb dX11_has_9 (by decide) ?_
    cases h
    exact sd_zret C X (by decide) dX11_has_13
theorem k_X11_has (C : sd_C own cc nL rt D cy ad A b0 p s m args meth c) (X : sd_H D cy ad A s S H locs) (hls : ls.size = nL) {x0 : Int32} {x1 : Int32} {S2 : sd_St} {r : Int32} (h : f_X11_has x0 x1 S = some (r, S2)) (hlink : Cond.methodLink own index yX11_has ∈ sd_wl) (hR : 1 ≤ R.frames ∧ 21 ≤ R.locals ∧ cells ≤ R.cells ∧ slots ≤ R.slots) (hst : (rest.map fun v => v.category).sum ≤ 8) (hdg : decode cc pc = .ok (.invokestatic index, 3)) (kk : ∀ (H1 : Heap) (locs1 : List Loc), sd_H D cy ad A s S2 H1 locs1 → W p l e R s m args below meth c H1 locs1 cells slots Q (F0 m (pc + 3) ls (.int r :: rest))) : W p l e R s m args below meth c H locs cells slots Q (F0 m pc ls (.int x1 :: .int x0 :: rest)) :=
  sd_goI X (sd_runJ C X hls (n := 2) (As := [.int x0, .int x1]) (c_X11_has (l := l) (b0 := b0) h) hlink sd_w15_14 sd_w1_2 sd_w15_15 (by decide +kernel) rfl hR rfl hst hdg) kk
theorem k_X11_has_n (C : sd_C own cc nL rt D cy ad A b0 p s m args meth c) (X : sd_H D cy ad A s S H locs) (hls : ls.size = nL) {x0 : Int32} {x1 : Int32} {S2 : sd_St} {r : Int32} (h : f_X11_has x0 x1 S = some (r, S2)) {host : String} (hlink : Cond.methodLinkNest own index yX11_has host ∈ sd_nest) (hR : 1 ≤ R.frames ∧ 21 ≤ R.locals ∧ cells ≤ R.cells ∧ slots ≤ R.slots) (hst : (rest.map fun v => v.category).sum ≤ 8) (hdg : decode cc pc = .ok (.invokestatic index, 3)) (kk : ∀ (H1 : Heap) (locs1 : List Loc), sd_H D cy ad A s S2 H1 locs1 → W p l e R s m args below meth c H1 locs1 cells slots Q (F0 m (pc + 3) ls (.int r :: rest))) : W p l e R s m args below meth c H locs cells slots Q (F0 m pc ls (.int x1 :: .int x0 :: rest)) :=
  sd_goI X (sd_runN C X hls (n := 2) (As := [.int x0, .int x1]) (c_X11_has (l := l) (b0 := b0) h) hlink sd_w15_14 sd_w1_2 sd_w15_15 (by decide +kernel) rfl hR rfl hst hdg) kk
/-! ===== SecretDays$Rumour.pass(LSecretDays$Doors;I)V ===== -/
def f_X5_pass_b84 (q57 : (Int32 → Int32 → Int32 → sd_St → Option (Unit × sd_St))) (k0 : Nat) (k1 : Nat) (x3 : Int32) (x4 : Int32) (x5 : Int32) (S : sd_St) : Option (Unit × sd_St) := q57 x3 x4 (x5 + (1 : Int32)) S
set_option maxHeartbeats 4000000 in
set_option maxRecDepth 100000 in
theorem t_X5_pass_b84 (C : sd_C RX5 cX5_pass 6 none D cy ad A b0 p s m args meth c) {k0 : Nat} {k1 : Nat} (hk0 : sd_kd k0 = 5) (hk1 : sd_kd k1 = 1) {S' : sd_St} {q57 : (Int32 → Int32 → Int32 → sd_St → Option (Unit × sd_St))} (hq57 : ∀ (x3 : Int32) (x4 : Int32) (x5 : Int32) (S : sd_St) (H : Heap) (locs : List Loc) (ls : Array Slot), q57 x3 x4 x5 S = some ((), S') → sd_H D cy ad A s S H locs → lv_has ls 6 [(0, .ref (ad k0)), (3, .int x3), (4, .int x4), (5, .int x5)] → W p l e (sd_rm 1) s m args below meth c H locs 0 0 (MQ below (sd_Qv D cy ad A S') args s 0 0 A) (F0 m 57 ls [])) : ∀ (x3 : Int32) (x4 : Int32) (x5 : Int32) (S : sd_St) (H : Heap) (locs : List Loc) (ls : Array Slot), f_X5_pass_b84 q57 k0 k1 x3 x4 x5 S = some ((), S') → sd_H D cy ad A s S H locs → lv_has ls 6 [(0, .ref (ad k0)), (3, .int x3), (4, .int x4), (5, .int x5)] → W p l e (sd_rm 1) s m args below meth c H locs 0 0 (MQ below (sd_Qv D cy ad A S') args s 0 0 A) (F0 m 84 ls []) := by
  obtain ⟨hx, hb, -, hml, hown, hts, -, hG⟩ := id C
  intro x3 x4 x5 S H locs ls h X hl
  unfold f_X5_pass_b84 at h
  refine lv_iinc (v := (x5 + (1 : Int32))) (lv' := [(5, .int (x5 + (1 : Int32))), (0, .ref (ad k0)), (3, .int x3), (4, .int x4)]) hx hb dX5_pass_84 hl (k := 3) rfl rfl (by decide) rfl (fun ls hl => ?_)
  refine lv_goto (tgt := 57) hx hb dX5_pass_87 (by decide) ?_
  exact hq57 x3 x4 (x5 + (1 : Int32)) S _ _ _ h X (lv_sub hl [1, 2, 3, 0] rfl)
def f_X5_pass_l57 (k0 : Nat) (k1 : Nat) : Nat → Int32 → Int32 → Int32 → sd_St → Option (Unit × sd_St)
  | 0 => fun _ _ _ _ => none
  | n + 1 => fun x3 x4 x5 S => (if (12 : Int32) ≤ x5 then (some ((), S)) else sd_cl (f_X11_has x4 x5 S) (fun r_3 S_2 => (if r_3 = 0 then f_X5_pass_b84 (f_X5_pass_l57 k0 k1 n) k0 k1 x3 x4 x5 S_2 else sd_st S_2 (k0 + 1) x5 (x3 + (1 : Int32)) (fun S_5 => f_X5_pass_b84 (f_X5_pass_l57 k0 k1 n) k0 k1 x3 x4 x5 S_5))))
set_option maxHeartbeats 4000000 in
set_option maxRecDepth 100000 in
theorem t_X5_pass_l57 (C : sd_C RX5 cX5_pass 6 none D cy ad A b0 p s m args meth c) {k0 : Nat} {k1 : Nat} (hk0 : sd_kd k0 = 5) (hk1 : sd_kd k1 = 1) {S' : sd_St} : ∀ (n : Nat) (x3 : Int32) (x4 : Int32) (x5 : Int32) (S : sd_St) (H : Heap) (locs : List Loc) (ls : Array Slot), f_X5_pass_l57 k0 k1 n x3 x4 x5 S = some ((), S') → sd_H D cy ad A s S H locs → lv_has ls 6 [(0, .ref (ad k0)), (3, .int x3), (4, .int x4), (5, .int x5)] → W p l e (sd_rm 1) s m args below meth c H locs 0 0 (MQ below (sd_Qv D cy ad A S') args s 0 0 A) (F0 m 57 ls []) := by
  obtain ⟨hx, hb, -, hml, hown, hts, -, hG⟩ := id C
  intro n
  induction n with
  | zero => intro x3 x4 x5 S H locs ls h; cases h
  | succ n ih =>
    intro x3 x4 x5 S H locs ls h X hl
    unfold f_X5_pass_l57 at h
    refine lv_iload hx hb dX5_pass_57 (lv_at hl 3 rfl) ?_
    refine lv_bipush (v := (12 : Int32)) hx hb dX5_pass_59 (by decide) ?_
    refine lv_icmp_ge (tgt := 90) hx hb dX5_pass_61 (by decide) (fun c_1 => ?_) (fun c_1 => ?_)
    · have h := sd_ifp c_1 h
      cases h
      exact sd_vret C X dX5_pass_90
    · have h := sd_ifn c_1 h
      refine lv_iload hx hb dX5_pass_64 (lv_at hl 2 rfl) ?_
      refine lv_iload hx hb dX5_pass_66 (lv_at hl 3 rfl) ?_
      obtain ⟨r_3, S_2, er_3, h⟩ := sd_cl_some h
      refine k_X11_has_n C X hl.1 er_3 (List.mem_of_getElem? (i := 14) rfl) (by decide) (Nat.le_of_ble_eq_true rfl) dX5_pass_68 (fun H locs X => ?_)
      refine lv_if_eq (tgt := 84) hx hb dX5_pass_71 (by decide) (fun c_4 => ?_) (fun c_4 => ?_)
      · have h := sd_ifp c_4 h
        exact t_X5_pass_b84 C hk0 hk1 ih x3 x4 x5 S_2 _ _ _ h X (lv_sub hl [0, 1, 2, 3] rfl)
      · have h := sd_ifn c_4 h
        refine lv_aload_n hx hb dX5_pass_74 rfl (lv_at hl 0 rfl) ?_
        refine sd_g5_2 (k := k0) C X hk0 sd_w5_0 dX5_pass_75 ?_
        refine lv_iload hx hb dX5_pass_78 (lv_at hl 3 rfl) ?_
        refine lv_iload_n hx hb dX5_pass_80 rfl (lv_at hl 1 rfl) ?_
        refine lv_iconst (v := (1 : Int32)) hx hb dX5_pass_81 (by decide) ?_
        refine lv_iadd hx hb dX5_pass_82 ?_
        obtain ⟨bS_5, S_5, eS_5, h⟩ := sd_st_some h
        refine sd_iast C X (sd_k5_1 hk0) bS_5 dX5_pass_83 (fun H locs X => ?_)
        rw [← eS_5] at X
        exact t_X5_pass_b84 C hk0 hk1 ih x3 x4 x5 S_5 _ _ _ h X (lv_sub hl [0, 1, 2, 3] rfl)
def f_X5_pass (k0 : Nat) (k1 : Nat) (x2 : Int32) (S : sd_St) : Option (Unit × sd_St) := sd_ld S (k1 + 2) x2 (fun v_6 => sd_ld S (k1 + 4) x2 (fun v_7 => sd_nm ((v_7 &&& ((S.1 k0 1) ^^^ (-1 : Int32)))) (fun v_8 => (if v_8 = 0 then (some ((), S)) else sd_ld S (k1 + 3) x2 (fun v_10 => sd_ld S (k0 + 1) v_10 (fun v_11 => (if v_11 ≤ v_6 then sd_nm (sd_I S k0 1 ((S.1 k0 1) ||| v_8)) (fun S_13 => f_X5_pass_l57 k0 k1 sd_FU v_6 v_8 (0 : Int32) S_13) else (some ((), S)))))))))
set_option maxHeartbeats 4000000 in
set_option maxRecDepth 100000 in
theorem c_X5_pass {k0 : Nat} {k1 : Nat} {x2 : Int32} (hk0 : sd_kd k0 = 5) (hk1 : sd_kd k1 = 1) {S S' : sd_St} (h : f_X5_pass k0 k1 x2 S = some ((), S')) : Met l yX5_pass (Cond.code yX5_pass cX5_pass 6 none :: sd_wl) (sd_rm 1) (sd_P D cy ad A b0 [.ref (ad k0), .ref (ad k1), .int x2] S) (sd_Qv D cy ad A S') 0 0 A := by
  refine sd_met (by decide) (Nat.le_of_ble_eq_true rfl) (fun p e s m args below meth c ls C X hl => ?_)
  obtain ⟨hx, hb, -, hml, hown, hts, -, hG⟩ := id C
  replace C : sd_C RX5 cX5_pass 6 none D cy ad A b0 p s m args meth c := C
  replace hl : lv_has ls 6 [(0, .ref (ad k0)), (1, .ref (ad k1)), (2, .int x2)] := hl
  unfold f_X5_pass at h
  refine lv_aload_n hx hb dX5_pass_0 rfl (lv_at hl 1 rfl) ?_
  refine sd_g1_1 (k := k1) C X hk1 sd_w30_3 dX5_pass_1 ?_
  refine lv_iload_n hx hb dX5_pass_4 rfl (lv_at hl 2 rfl) ?_
  obtain ⟨b_6, v_6, e_6, h⟩ := sd_ld_some h
  refine sd_iald C X (sd_k1_2 hk1) b_6 dX5_pass_5 (sd_nmi e_6 ?_)
  refine lv_istore_n (lv' := [(3, .int v_6), (0, .ref (ad k0)), (1, .ref (ad k1)), (2, .int x2)]) hx hb dX5_pass_6 rfl hl (by decide) rfl (fun ls hl => ?_)
  refine lv_aload_n hx hb dX5_pass_7 rfl (lv_at hl 2 rfl) ?_
  refine sd_g1_3 (k := k1) C X hk1 sd_w30_15 dX5_pass_8 ?_
  refine lv_iload_n hx hb dX5_pass_11 rfl (lv_at hl 3 rfl) ?_
  obtain ⟨b_7, v_7, e_7, h⟩ := sd_ld_some h
  refine sd_iald C X (sd_k1_4 hk1) b_7 dX5_pass_12 (sd_nmi e_7 ?_)
  refine lv_aload_n hx hb dX5_pass_13 rfl (lv_at hl 1 rfl) ?_
  refine sd_g5_1 C X hk0 sd_w30_9 dX5_pass_14 ?_
  refine lv_iconst (v := (-1 : Int32)) hx hb dX5_pass_17 (by decide) ?_
  refine lv_ixor hx hb dX5_pass_18 ?_
  refine lv_iand hx hb dX5_pass_19 ?_
  obtain ⟨v_8, e_8, h⟩ := sd_nm_some h
  refine sd_nmi e_8 ?_
  refine lv_istore (lv' := [(4, .int v_8), (3, .int v_6), (0, .ref (ad k0)), (1, .ref (ad k1)), (2, .int x2)]) hx hb dX5_pass_20 hl (by decide) rfl (fun ls hl => ?_)
  refine lv_iload hx hb dX5_pass_22 (lv_at hl 0 rfl) ?_
  refine lv_if_eq (tgt := 42) hx hb dX5_pass_24 (by decide) (fun c_9 => ?_) (fun c_9 => ?_)
  · have h := sd_ifp c_9 h
    cases h
    exact sd_vret C X dX5_pass_42
  · have h := sd_ifn c_9 h
    refine lv_aload_n hx hb dX5_pass_27 rfl (lv_at hl 2 rfl) ?_
    refine sd_g5_2 (k := k0) C X hk0 sd_w5_0 dX5_pass_28 ?_
    refine lv_aload_n hx hb dX5_pass_31 rfl (lv_at hl 3 rfl) ?_
    refine sd_g1_2 (k := k1) C X hk1 sd_w30_16 dX5_pass_32 ?_
    refine lv_iload_n hx hb dX5_pass_35 rfl (lv_at hl 4 rfl) ?_
    obtain ⟨b_10, v_10, e_10, h⟩ := sd_ld_some h
    refine sd_iald C X (sd_k1_3 hk1) b_10 dX5_pass_36 (sd_nmi e_10 ?_)
    obtain ⟨b_11, v_11, e_11, h⟩ := sd_ld_some h
    refine sd_iald C X (sd_k5_1 hk0) b_11 dX5_pass_37 (sd_nmi e_11 ?_)
    refine lv_iload_n hx hb dX5_pass_38 rfl (lv_at hl 1 rfl) ?_
    refine lv_icmp_le (tgt := 43) hx hb dX5_pass_39 (by decide) (fun c_12 => ?_) (fun c_12 => ?_)
    · have h := sd_ifp c_12 h
      refine lv_aload_n hx hb dX5_pass_43 rfl (lv_at hl 2 rfl) ?_
      refine lv_dup hx hb dX5_pass_44 rfl ?_
      refine sd_g5_1 C X hk0 sd_w30_9 dX5_pass_45 ?_
      refine lv_iload hx hb dX5_pass_48 (lv_at hl 0 rfl) ?_
      refine lv_ior hx hb dX5_pass_50 ?_
      obtain ⟨S_13, eS_13, h⟩ := sd_nm_some h
      refine sd_p5_1 C X hk0 sd_w30_9 dX5_pass_51 (fun H locs X => ?_)
      rw [← eS_13] at X
      refine lv_iconst (v := (0 : Int32)) hx hb dX5_pass_54 (by decide) ?_
      refine lv_istore (lv' := [(5, .int (0 : Int32)), (4, .int v_8), (3, .int v_6), (0, .ref (ad k0)), (1, .ref (ad k1)), (2, .int x2)]) hx hb dX5_pass_55 hl (by decide) rfl (fun ls hl => ?_)
      exact t_X5_pass_l57 C hk0 hk1 sd_FU v_6 v_8 (0 : Int32) S_13 _ _ _ h X (lv_sub hl [3, 2, 1, 0] rfl)
    · have h := sd_ifn c_12 h
      cases h
      exact sd_vret C X dX5_pass_42
theorem k_X5_pass (C : sd_C own cc nL rt D cy ad A b0 p s m args meth c) (X : sd_H D cy ad A s S H locs) (hls : ls.size = nL) {k0 : Nat} {k1 : Nat} {x2 : Int32} {S2 : sd_St} (hk0 : sd_kd k0 = 5) (hk1 : sd_kd k1 = 1) (h : f_X5_pass k0 k1 x2 S = some ((), S2)) (hlink : Cond.methodLink own index yX5_pass ∈ sd_wl) (hR : 2 ≤ R.frames ∧ 65 ≤ R.locals ∧ cells ≤ R.cells ∧ slots ≤ R.slots) (hst : (rest.map fun v => v.category).sum ≤ 8) (hdg : decode cc pc = .ok (.invokevirtual index, 3)) (kk : ∀ (H1 : Heap) (locs1 : List Loc), sd_H D cy ad A s S2 H1 locs1 → W p l e R s m args below meth c H1 locs1 cells slots Q (F0 m (pc + 3) ls rest)) : W p l e R s m args below meth c H locs cells slots Q (F0 m pc ls (.int x2 :: .ref (ad k1) :: .ref (ad k0) :: rest)) :=
  sd_goV X (sd_runV C X hls (n := 2) (k := k0) (As := [.ref (ad k1), .int x2]) (c_X5_pass (l := l) (b0 := b0) hk0 hk1 h) (sd_goodV hlink sd_w30_12 sd_w30_13 sd_w2_4 sd_w30_14) (ci := 5) rfl (by rw [hk0]; decide) (sd_c5 hk0) (by decide +kernel) rfl hR rfl hst hdg) kk
/-! ===== SecretDays$Colds.liveThrough(LSecretDays$Town;LSecretDays$Doors;ILSecretDays$Rumour;)V ===== -/
def f_X0_liveThrough_b68 (q20 : (Int32 → sd_St → Option (Unit × sd_St))) (k0 : Nat) (k1 : Nat) (k2 : Nat) (k4 : Nat) (x5 : Int32) (S : sd_St) : Option (Unit × sd_St) := q20 (x5 + (1 : Int32)) S
set_option maxHeartbeats 4000000 in
set_option maxRecDepth 100000 in
theorem t_X0_liveThrough_b68 (C : sd_C RX0 cX0_liveThrough 7 none D cy ad A b0 p s m args meth c) {k0 : Nat} {k1 : Nat} {k2 : Nat} {k4 : Nat} (hk0 : sd_kd k0 = 0) (hk1 : sd_kd k1 = 8) (hk2 : sd_kd k2 = 1) (hk4 : sd_kd k4 = 5) {S' : sd_St} {q20 : (Int32 → sd_St → Option (Unit × sd_St))} (hq20 : ∀ (x5 : Int32) (S : sd_St) (H : Heap) (locs : List Loc) (ls : Array Slot), q20 x5 S = some ((), S') → sd_H D cy ad A s S H locs → lv_has ls 7 [(0, .ref (ad k0)), (1, .ref (ad k1)), (2, .ref (ad k2)), (4, .ref (ad k4)), (5, .int x5)] → W p l e (sd_rm 2) s m args below meth c H locs 0 0 (MQ below (sd_Qv D cy ad A S') args s 0 0 A) (F0 m 20 ls [])) : ∀ (x5 : Int32) (S : sd_St) (H : Heap) (locs : List Loc) (ls : Array Slot), f_X0_liveThrough_b68 q20 k0 k1 k2 k4 x5 S = some ((), S') → sd_H D cy ad A s S H locs → lv_has ls 7 [(0, .ref (ad k0)), (1, .ref (ad k1)), (2, .ref (ad k2)), (4, .ref (ad k4)), (5, .int x5)] → W p l e (sd_rm 2) s m args below meth c H locs 0 0 (MQ below (sd_Qv D cy ad A S') args s 0 0 A) (F0 m 68 ls []) := by
  obtain ⟨hx, hb, -, hml, hown, hts, -, hG⟩ := id C
  intro x5 S H locs ls h X hl
  unfold f_X0_liveThrough_b68 at h
  refine lv_iinc (v := (x5 + (1 : Int32))) (lv' := [(5, .int (x5 + (1 : Int32))), (0, .ref (ad k0)), (1, .ref (ad k1)), (2, .ref (ad k2)), (4, .ref (ad k4))]) hx hb dX0_liveThrough_68 hl (k := 4) rfl rfl (by decide) rfl (fun ls hl => ?_)
  refine lv_goto (tgt := 20) hx hb dX0_liveThrough_71 (by decide) ?_
  exact hq20 (x5 + (1 : Int32)) S _ _ _ h X (lv_sub hl [1, 2, 3, 4, 0] rfl)
def f_X0_liveThrough_b53 (q20 : (Int32 → sd_St → Option (Unit × sd_St))) (k0 : Nat) (k1 : Nat) (k2 : Nat) (k4 : Nat) (x5 : Int32) (w0 : Int32) (S : sd_St) : Option (Unit × sd_St) := (if w0 = 0 then sd_cl (f_X5_pass k4 k2 x5 S) (fun _ S_2 => f_X0_liveThrough_b68 q20 k0 k1 k2 k4 x5 S_2) else f_X0_liveThrough_b68 q20 k0 k1 k2 k4 x5 S)
set_option maxHeartbeats 4000000 in
set_option maxRecDepth 100000 in
theorem t_X0_liveThrough_b53 (C : sd_C RX0 cX0_liveThrough 7 none D cy ad A b0 p s m args meth c) {k0 : Nat} {k1 : Nat} {k2 : Nat} {k4 : Nat} (hk0 : sd_kd k0 = 0) (hk1 : sd_kd k1 = 8) (hk2 : sd_kd k2 = 1) (hk4 : sd_kd k4 = 5) {S' : sd_St} {q20 : (Int32 → sd_St → Option (Unit × sd_St))} (hq20 : ∀ (x5 : Int32) (S : sd_St) (H : Heap) (locs : List Loc) (ls : Array Slot), q20 x5 S = some ((), S') → sd_H D cy ad A s S H locs → lv_has ls 7 [(0, .ref (ad k0)), (1, .ref (ad k1)), (2, .ref (ad k2)), (4, .ref (ad k4)), (5, .int x5)] → W p l e (sd_rm 2) s m args below meth c H locs 0 0 (MQ below (sd_Qv D cy ad A S') args s 0 0 A) (F0 m 20 ls [])) : ∀ (x5 : Int32) (w0 : Int32) (S : sd_St) (H : Heap) (locs : List Loc) (ls : Array Slot), f_X0_liveThrough_b53 q20 k0 k1 k2 k4 x5 w0 S = some ((), S') → sd_H D cy ad A s S H locs → lv_has ls 7 [(0, .ref (ad k0)), (1, .ref (ad k1)), (2, .ref (ad k2)), (4, .ref (ad k4)), (5, .int x5)] → W p l e (sd_rm 2) s m args below meth c H locs 0 0 (MQ below (sd_Qv D cy ad A S') args s 0 0 A) (F0 m 53 ls [.int w0]) := by
  obtain ⟨hx, hb, -, hml, hown, hts, -, hG⟩ := id C
  intro x5 w0 S H locs ls h X hl
  unfold f_X0_liveThrough_b53 at h
  refine lv_istore (lv' := [(6, .int w0), (0, .ref (ad k0)), (1, .ref (ad k1)), (2, .ref (ad k2)), (4, .ref (ad k4)), (5, .int x5)]) hx hb dX0_liveThrough_53 hl (by decide) rfl (fun ls hl => ?_)
  refine lv_iload hx hb dX0_liveThrough_55 (lv_at hl 0 rfl) ?_
  refine lv_if_ne (tgt := 68) hx hb dX0_liveThrough_57 (by decide) (fun c_1 => ?_) (fun c_1 => ?_)
  · have h := sd_ifn c_1 h
    exact t_X0_liveThrough_b68 C hk0 hk1 hk2 hk4 hq20 x5 S _ _ _ h X (lv_sub hl [1, 2, 3, 4, 5] rfl)
  · have h := sd_ifp c_1 h
    refine lv_aload hx hb dX0_liveThrough_60 (lv_at hl 4 rfl) ?_
    refine lv_aload_n hx hb dX0_liveThrough_62 rfl (lv_at hl 3 rfl) ?_
    refine lv_iload hx hb dX0_liveThrough_63 (lv_at hl 5 rfl) ?_
    obtain ⟨r_3, S_2, er_3, h⟩ := sd_cl_some h
    refine k_X5_pass C X hl.1 hk4 hk2 er_3 sd_w48_17 (by decide) (Nat.le_of_ble_eq_true rfl) dX0_liveThrough_65 (fun H locs X => ?_)
    exact t_X0_liveThrough_b68 C hk0 hk1 hk2 hk4 hq20 x5 S_2 _ _ _ h X (lv_sub hl [1, 2, 3, 4, 5] rfl)
def f_X0_liveThrough_l20 (k0 : Nat) (k1 : Nat) (k2 : Nat) (k4 : Nat) : Nat → Int32 → sd_St → Option (Unit × sd_St)
  | 0 => fun _ _ => none
  | n + 1 => fun x5 S => (if (S.1 k2 0) ≤ x5 then (some ((), S)) else sd_cl (f_X0_drawPercent k0 S) (fun r_6 S_5 => sd_ld S_5 (k2 + 3) x5 (fun v_7 => sd_ld S_5 (k1 + 3) v_7 (fun v_8 => (if v_8 ≤ r_6 then f_X0_liveThrough_b53 (f_X0_liveThrough_l20 k0 k1 k2 k4 n) k0 k1 k2 k4 x5 (0 : Int32) S_5 else f_X0_liveThrough_b53 (f_X0_liveThrough_l20 k0 k1 k2 k4 n) k0 k1 k2 k4 x5 (1 : Int32) S_5)))))
set_option maxHeartbeats 4000000 in
set_option maxRecDepth 100000 in
theorem t_X0_liveThrough_l20 (C : sd_C RX0 cX0_liveThrough 7 none D cy ad A b0 p s m args meth c) {k0 : Nat} {k1 : Nat} {k2 : Nat} {k4 : Nat} (hk0 : sd_kd k0 = 0) (hk1 : sd_kd k1 = 8) (hk2 : sd_kd k2 = 1) (hk4 : sd_kd k4 = 5) {S' : sd_St} : ∀ (n : Nat) (x5 : Int32) (S : sd_St) (H : Heap) (locs : List Loc) (ls : Array Slot), f_X0_liveThrough_l20 k0 k1 k2 k4 n x5 S = some ((), S') → sd_H D cy ad A s S H locs → lv_has ls 7 [(0, .ref (ad k0)), (1, .ref (ad k1)), (2, .ref (ad k2)), (4, .ref (ad k4)), (5, .int x5)] → W p l e (sd_rm 2) s m args below meth c H locs 0 0 (MQ below (sd_Qv D cy ad A S') args s 0 0 A) (F0 m 20 ls []) := by
  obtain ⟨hx, hb, -, hml, hown, hts, -, hG⟩ := id C
  intro n
  induction n with
  | zero => intro x5 S H locs ls h; cases h
  | succ n ih =>
    intro x5 S H locs ls h X hl
    unfold f_X0_liveThrough_l20 at h
    refine lv_iload hx hb dX0_liveThrough_20 (lv_at hl 4 rfl) ?_
    refine lv_aload_n hx hb dX0_liveThrough_22 rfl (lv_at hl 2 rfl) ?_
    refine sd_g1_0 C X hk2 sd_w48_4 dX0_liveThrough_23 ?_
    refine lv_icmp_ge (tgt := 74) hx hb dX0_liveThrough_26 (by decide) (fun c_4 => ?_) (fun c_4 => ?_)
    · have h := sd_ifp c_4 h
      cases h
      exact sd_vret C X dX0_liveThrough_74
    · have h := sd_ifn c_4 h
      refine lv_aload_n hx hb dX0_liveThrough_29 rfl (lv_at hl 0 rfl) ?_
      obtain ⟨r_6, S_5, er_6, h⟩ := sd_cl_some h
      refine k_X0_drawPercent C X hl.1 hk0 er_6 sd_w48_8 (by decide) (Nat.le_of_ble_eq_true rfl) dX0_liveThrough_30 (fun H locs X => ?_)
      refine lv_aload_n hx hb dX0_liveThrough_33 rfl (lv_at hl 1 rfl) ?_
      refine sd_g8_3 (k := k1) C X hk1 sd_w48_5 dX0_liveThrough_34 ?_
      refine lv_aload_n hx hb dX0_liveThrough_37 rfl (lv_at hl 2 rfl) ?_
      refine sd_g1_2 (k := k2) C X hk2 sd_w48_6 dX0_liveThrough_38 ?_
      refine lv_iload hx hb dX0_liveThrough_41 (lv_at hl 4 rfl) ?_
      obtain ⟨b_7, v_7, e_7, h⟩ := sd_ld_some h
      refine sd_iald C X (sd_k1_3 hk2) b_7 dX0_liveThrough_43 (sd_nmi e_7 ?_)
      obtain ⟨b_8, v_8, e_8, h⟩ := sd_ld_some h
      refine sd_iald C X (sd_k8_3 hk1) b_8 dX0_liveThrough_44 (sd_nmi e_8 ?_)
      refine lv_icmp_ge (tgt := 52) hx hb dX0_liveThrough_45 (by decide) (fun c_9 => ?_) (fun c_9 => ?_)
      · have h := sd_ifp c_9 h
        refine lv_iconst (v := (0 : Int32)) hx hb dX0_liveThrough_52 (by decide) ?_
        exact t_X0_liveThrough_b53 C hk0 hk1 hk2 hk4 ih x5 (0 : Int32) S_5 _ _ _ h X (lv_sub hl [0, 1, 2, 3, 4] rfl)
      · have h := sd_ifn c_9 h
        refine lv_iconst (v := (1 : Int32)) hx hb dX0_liveThrough_48 (by decide) ?_
        refine lv_goto (tgt := 53) hx hb dX0_liveThrough_49 (by decide) ?_
        exact t_X0_liveThrough_b53 C hk0 hk1 hk2 hk4 ih x5 (1 : Int32) S_5 _ _ _ h X (lv_sub hl [0, 1, 2, 3, 4] rfl)
def f_X0_liveThrough (k0 : Nat) (k1 : Nat) (k2 : Nat) (k4 : Nat) (x3 : Int32) (S : sd_St) : Option (Unit × sd_St) := sd_ld S (k1 + 9) x3 (fun v_10 => sd_ld S (k1 + 10) x3 (fun v_11 => sd_cl (f_X5_begin k4 v_10 v_11 S) (fun _ S_12 => f_X0_liveThrough_l20 k0 k1 k2 k4 sd_FU (0 : Int32) S_12)))
set_option maxHeartbeats 4000000 in
set_option maxRecDepth 100000 in
theorem c_X0_liveThrough {k0 : Nat} {k1 : Nat} {k2 : Nat} {k4 : Nat} {x3 : Int32} (hk0 : sd_kd k0 = 0) (hk1 : sd_kd k1 = 8) (hk2 : sd_kd k2 = 1) (hk4 : sd_kd k4 = 5) {S S' : sd_St} (h : f_X0_liveThrough k0 k1 k2 k4 x3 S = some ((), S')) : Met l yX0_liveThrough (Cond.code yX0_liveThrough cX0_liveThrough 7 none :: sd_wl) (sd_rm 2) (sd_P D cy ad A b0 [.ref (ad k0), .ref (ad k1), .ref (ad k2), .int x3, .ref (ad k4)] S) (sd_Qv D cy ad A S') 0 0 A := by
  refine sd_met (by decide) (Nat.le_of_ble_eq_true rfl) (fun p e s m args below meth c ls C X hl => ?_)
  obtain ⟨hx, hb, -, hml, hown, hts, -, hG⟩ := id C
  replace C : sd_C RX0 cX0_liveThrough 7 none D cy ad A b0 p s m args meth c := C
  replace hl : lv_has ls 7 [(0, .ref (ad k0)), (1, .ref (ad k1)), (2, .ref (ad k2)), (3, .int x3), (4, .ref (ad k4))] := hl
  unfold f_X0_liveThrough at h
  refine lv_aload hx hb dX0_liveThrough_0 (lv_at hl 4 rfl) ?_
  refine lv_aload_n hx hb dX0_liveThrough_2 rfl (lv_at hl 1 rfl) ?_
  refine sd_g8_12 (k := k1) C X hk1 sd_w48_2 dX0_liveThrough_3 ?_
  refine lv_iload_n hx hb dX0_liveThrough_6 rfl (lv_at hl 3 rfl) ?_
  obtain ⟨b_10, v_10, e_10, h⟩ := sd_ld_some h
  refine sd_iald C X (sd_k8_9 hk1) b_10 dX0_liveThrough_7 (sd_nmi e_10 ?_)
  refine lv_aload_n hx hb dX0_liveThrough_8 rfl (lv_at hl 1 rfl) ?_
  refine sd_g8_13 (k := k1) C X hk1 sd_w48_3 dX0_liveThrough_9 ?_
  refine lv_iload_n hx hb dX0_liveThrough_12 rfl (lv_at hl 3 rfl) ?_
  obtain ⟨b_11, v_11, e_11, h⟩ := sd_ld_some h
  refine sd_iald C X (sd_k8_10 hk1) b_11 dX0_liveThrough_13 (sd_nmi e_11 ?_)
  obtain ⟨r_13, S_12, er_13, h⟩ := sd_cl_some h
  refine k_X5_begin C X hl.1 hk4 er_13 sd_w48_7 (by decide) (Nat.le_of_ble_eq_true rfl) dX0_liveThrough_14 (fun H locs X => ?_)
  refine lv_iconst (v := (0 : Int32)) hx hb dX0_liveThrough_17 (by decide) ?_
  refine lv_istore (lv' := [(5, .int (0 : Int32)), (0, .ref (ad k0)), (1, .ref (ad k1)), (2, .ref (ad k2)), (3, .int x3), (4, .ref (ad k4))]) hx hb dX0_liveThrough_18 hl (by decide) rfl (fun ls hl => ?_)
  exact t_X0_liveThrough_l20 C hk0 hk1 hk2 hk4 sd_FU (0 : Int32) S_12 _ _ _ h X (lv_sub hl [1, 2, 3, 5, 0] rfl)
theorem k_X0_liveThrough (C : sd_C own cc nL rt D cy ad A b0 p s m args meth c) (X : sd_H D cy ad A s S H locs) (hls : ls.size = nL) {k0 : Nat} {k1 : Nat} {k2 : Nat} {k4 : Nat} {x3 : Int32} {S2 : sd_St} (hk0 : sd_kd k0 = 0) (hk1 : sd_kd k1 = 8) (hk2 : sd_kd k2 = 1) (hk4 : sd_kd k4 = 5) (h : f_X0_liveThrough k0 k1 k2 k4 x3 S = some ((), S2)) (hlink : Cond.methodLink own index yX0_liveThrough ∈ sd_wl) (hR : 3 ≤ R.frames ∧ 106 ≤ R.locals ∧ cells ≤ R.cells ∧ slots ≤ R.slots) (hst : (rest.map fun v => v.category).sum ≤ 8) (hdg : decode cc pc = .ok (.invokevirtual index, 3)) (kk : ∀ (H1 : Heap) (locs1 : List Loc), sd_H D cy ad A s S2 H1 locs1 → W p l e R s m args below meth c H1 locs1 cells slots Q (F0 m (pc + 3) ls rest)) : W p l e R s m args below meth c H locs cells slots Q (F0 m pc ls (.ref (ad k4) :: .int x3 :: .ref (ad k2) :: .ref (ad k1) :: .ref (ad k0) :: rest)) :=
  sd_goV X (sd_runV C X hls (n := 4) (k := k0) (As := [.ref (ad k1), .ref (ad k2), .int x3, .ref (ad k4)]) (c_X0_liveThrough (l := l) (b0 := b0) hk0 hk1 hk2 hk4 h) (sd_goodV hlink sd_w47_23 sd_w48_0 sd_w2_16 sd_w48_1) (ci := 0) rfl (by rw [hk0]; decide) (sd_c0 hk0) (by decide +kernel) rfl hR rfl hst hdg) kk
/-! ===== SecretDays$Doors.addToYear(II)V ===== -/
def f_X1_addToYear_b59 (k0 : Nat) (x1 : Int32) (x3 : Int32) (x4 : Int32) (w0 : Int32) (S : sd_St) : Option (Unit × sd_St) := (if x1 = (-1 : Int32) then (some ((), S)) else (if w0 = 0 then (if (S.1 k0 4) < (Int32.ofNat (sd_al (k0 + 1))) then sd_cp S (k0 + 1) x4 (k0 + 1) (x4 + (1 : Int32)) ((S.1 k0 4) - x4) (fun S_4 => sd_st S_4 (k0 + 1) x4 x3 (fun S_5 => sd_nm (sd_I S_5 k0 4 ((S_5.1 k0 4) + (1 : Int32))) (fun S_6 => (some ((), S_6))))) else (some ((), S))) else (some ((), S))))
set_option maxHeartbeats 4000000 in
set_option maxRecDepth 100000 in
theorem t_X1_addToYear_b59 (C : sd_C RX1 cX1_addToYear 6 none D cy ad A b0 p s m args meth c) {k0 : Nat} (hk0 : sd_kd k0 = 1) {S' : sd_St} : ∀ (x1 : Int32) (x3 : Int32) (x4 : Int32) (w0 : Int32) (S : sd_St) (H : Heap) (locs : List Loc) (ls : Array Slot), f_X1_addToYear_b59 k0 x1 x3 x4 w0 S = some ((), S') → sd_H D cy ad A s S H locs → lv_has ls 6 [(0, .ref (ad k0)), (1, .int x1), (3, .int x3), (4, .int x4)] → W p l e (sd_rm 1) s m args below meth c H locs 0 0 (MQ below (sd_Qv D cy ad A S') args s 0 0 A) (F0 m 59 ls [.int w0]) := by
  obtain ⟨hx, hb, -, hml, hown, hts, -, hG⟩ := id C
  intro x1 x3 x4 w0 S H locs ls h X hl
  unfold f_X1_addToYear_b59 at h
  refine lv_istore (lv' := [(5, .int w0), (0, .ref (ad k0)), (1, .int x1), (3, .int x3), (4, .int x4)]) hx hb dX1_addToYear_59 hl (by decide) rfl (fun ls hl => ?_)
  refine lv_iload_n hx hb dX1_addToYear_61 rfl (lv_at hl 2 rfl) ?_
  refine lv_iconst (v := (-1 : Int32)) hx hb dX1_addToYear_62 (by decide) ?_
  refine lv_icmp_eq (tgt := 83) hx hb dX1_addToYear_63 (by decide) (fun c_1 => ?_) (fun c_1 => ?_)
  · have h := sd_ifp c_1 h
    cases h
    exact sd_vret C X dX1_addToYear_83
  · have h := sd_ifn c_1 h
    refine lv_iload hx hb dX1_addToYear_66 (lv_at hl 0 rfl) ?_
    refine lv_if_ne (tgt := 83) hx hb dX1_addToYear_68 (by decide) (fun c_2 => ?_) (fun c_2 => ?_)
    · have h := sd_ifn c_2 h
      cases h
      exact sd_vret C X dX1_addToYear_83
    · have h := sd_ifp c_2 h
      refine lv_aload_n hx hb dX1_addToYear_71 rfl (lv_at hl 1 rfl) ?_
      refine sd_g1_4 C X hk0 sd_w29_0 dX1_addToYear_72 ?_
      refine lv_aload_n hx hb dX1_addToYear_75 rfl (lv_at hl 1 rfl) ?_
      refine sd_g1_5 (k := k0) C X hk0 sd_w4_17 dX1_addToYear_76 ?_
      refine sd_ialen C X (sd_k1_1 hk0) dX1_addToYear_79 ?_
      refine lv_icmp_lt (tgt := 84) hx hb dX1_addToYear_80 (by decide) (fun c_3 => ?_) (fun c_3 => ?_)
      · have h := sd_ifp c_3 h
        refine lv_aload_n hx hb dX1_addToYear_84 rfl (lv_at hl 1 rfl) ?_
        refine sd_g1_5 (k := k0) C X hk0 sd_w4_17 dX1_addToYear_85 ?_
        refine lv_iload hx hb dX1_addToYear_88 (lv_at hl 4 rfl) ?_
        refine lv_aload_n hx hb dX1_addToYear_90 rfl (lv_at hl 1 rfl) ?_
        refine sd_g1_5 (k := k0) C X hk0 sd_w4_17 dX1_addToYear_91 ?_
        refine lv_iload hx hb dX1_addToYear_94 (lv_at hl 4 rfl) ?_
        refine lv_iconst (v := (1 : Int32)) hx hb dX1_addToYear_96 (by decide) ?_
        refine lv_iadd hx hb dX1_addToYear_97 ?_
        refine lv_aload_n hx hb dX1_addToYear_98 rfl (lv_at hl 1 rfl) ?_
        refine sd_g1_4 C X hk0 sd_w29_0 dX1_addToYear_99 ?_
        refine lv_iload hx hb dX1_addToYear_102 (lv_at hl 4 rfl) ?_
        refine lv_isub hx hb dX1_addToYear_104 ?_
        obtain ⟨bS_4, S_4, eS_4, h⟩ := sd_cp_some h
        refine sd_copy C X hl.1 (sd_k1_1 hk0) (sd_k1_1 hk0) sd_w29_9 bS_4.1 bS_4.2.1 bS_4.2.2.1 bS_4.2.2.2.1 bS_4.2.2.2.2 (by decide) (Nat.le_of_ble_eq_true rfl) dX1_addToYear_105 (fun H locs X => ?_)
        rw [← eS_4] at X
        refine lv_aload_n hx hb dX1_addToYear_108 rfl (lv_at hl 1 rfl) ?_
        refine sd_g1_5 (k := k0) C X hk0 sd_w4_17 dX1_addToYear_109 ?_
        refine lv_iload hx hb dX1_addToYear_112 (lv_at hl 4 rfl) ?_
        refine lv_iload_n hx hb dX1_addToYear_114 rfl (lv_at hl 3 rfl) ?_
        obtain ⟨bS_5, S_5, eS_5, h⟩ := sd_st_some h
        refine sd_iast C X (sd_k1_1 hk0) bS_5 dX1_addToYear_115 (fun H locs X => ?_)
        rw [← eS_5] at X
        refine lv_aload_n hx hb dX1_addToYear_116 rfl (lv_at hl 1 rfl) ?_
        refine lv_dup hx hb dX1_addToYear_117 rfl ?_
        refine sd_g1_4 C X hk0 sd_w29_0 dX1_addToYear_118 ?_
        refine lv_iconst (v := (1 : Int32)) hx hb dX1_addToYear_121 (by decide) ?_
        refine lv_iadd hx hb dX1_addToYear_122 ?_
        obtain ⟨S_6, eS_6, h⟩ := sd_nm_some h
        refine sd_p1_4 C X hk0 sd_w29_0 dX1_addToYear_123 (fun H locs X => ?_)
        rw [← eS_6] at X
        cases h
        exact sd_vret C X dX1_addToYear_126
      · have h := sd_ifn c_3 h
        cases h
        exact sd_vret C X dX1_addToYear_83
def f_X1_addToYear_b58 (k0 : Nat) (x1 : Int32) (x3 : Int32) (x4 : Int32) (S : sd_St) : Option (Unit × sd_St) := f_X1_addToYear_b59 k0 x1 x3 x4 (0 : Int32) S
set_option maxHeartbeats 4000000 in
set_option maxRecDepth 100000 in
theorem t_X1_addToYear_b58 (C : sd_C RX1 cX1_addToYear 6 none D cy ad A b0 p s m args meth c) {k0 : Nat} (hk0 : sd_kd k0 = 1) {S' : sd_St} : ∀ (x1 : Int32) (x3 : Int32) (x4 : Int32) (S : sd_St) (H : Heap) (locs : List Loc) (ls : Array Slot), f_X1_addToYear_b58 k0 x1 x3 x4 S = some ((), S') → sd_H D cy ad A s S H locs → lv_has ls 6 [(0, .ref (ad k0)), (1, .int x1), (3, .int x3), (4, .int x4)] → W p l e (sd_rm 1) s m args below meth c H locs 0 0 (MQ below (sd_Qv D cy ad A S') args s 0 0 A) (F0 m 58 ls []) := by
  obtain ⟨hx, hb, -, hml, hown, hts, -, hG⟩ := id C
  intro x1 x3 x4 S H locs ls h X hl
  unfold f_X1_addToYear_b58 at h
  refine lv_iconst (v := (0 : Int32)) hx hb dX1_addToYear_58 (by decide) ?_
  exact t_X1_addToYear_b59 C hk0 x1 x3 x4 (0 : Int32) S _ _ _ h X (lv_sub hl [0, 1, 2, 3] rfl)
def f_X1_addToYear_b36 (k0 : Nat) (x1 : Int32) (x3 : Int32) (x4 : Int32) (S : sd_St) : Option (Unit × sd_St) := (if x4 ≤ 0 then f_X1_addToYear_b58 k0 x1 x3 x4 S else sd_ld S (k0 + 1) (x4 - (1 : Int32)) (fun v_8 => (if v_8 = x3 then f_X1_addToYear_b59 k0 x1 x3 x4 (1 : Int32) S else f_X1_addToYear_b58 k0 x1 x3 x4 S)))
set_option maxHeartbeats 4000000 in
set_option maxRecDepth 100000 in
theorem t_X1_addToYear_b36 (C : sd_C RX1 cX1_addToYear 6 none D cy ad A b0 p s m args meth c) {k0 : Nat} (hk0 : sd_kd k0 = 1) {S' : sd_St} : ∀ (x1 : Int32) (x3 : Int32) (x4 : Int32) (S : sd_St) (H : Heap) (locs : List Loc) (ls : Array Slot), f_X1_addToYear_b36 k0 x1 x3 x4 S = some ((), S') → sd_H D cy ad A s S H locs → lv_has ls 6 [(0, .ref (ad k0)), (1, .int x1), (3, .int x3), (4, .int x4)] → W p l e (sd_rm 1) s m args below meth c H locs 0 0 (MQ below (sd_Qv D cy ad A S') args s 0 0 A) (F0 m 36 ls []) := by
  obtain ⟨hx, hb, -, hml, hown, hts, -, hG⟩ := id C
  intro x1 x3 x4 S H locs ls h X hl
  unfold f_X1_addToYear_b36 at h
  refine lv_iload hx hb dX1_addToYear_36 (lv_at hl 3 rfl) ?_
  refine lv_if_le (tgt := 58) hx hb dX1_addToYear_38 (by decide) (fun c_7 => ?_) (fun c_7 => ?_)
  · have h := sd_ifp c_7 h
    exact t_X1_addToYear_b58 C hk0 x1 x3 x4 S _ _ _ h X (lv_sub hl [0, 1, 2, 3] rfl)
  · have h := sd_ifn c_7 h
    refine lv_aload_n hx hb dX1_addToYear_41 rfl (lv_at hl 0 rfl) ?_
    refine sd_g1_5 (k := k0) C X hk0 sd_w4_17 dX1_addToYear_42 ?_
    refine lv_iload hx hb dX1_addToYear_45 (lv_at hl 3 rfl) ?_
    refine lv_iconst (v := (1 : Int32)) hx hb dX1_addToYear_47 (by decide) ?_
    refine lv_isub hx hb dX1_addToYear_48 ?_
    obtain ⟨b_8, v_8, e_8, h⟩ := sd_ld_some h
    refine sd_iald C X (sd_k1_1 hk0) b_8 dX1_addToYear_49 (sd_nmi e_8 ?_)
    refine lv_iload_n hx hb dX1_addToYear_50 rfl (lv_at hl 2 rfl) ?_
    refine lv_icmp_ne (tgt := 58) hx hb dX1_addToYear_51 (by decide) (fun c_9 => ?_) (fun c_9 => ?_)
    · have h := sd_ifn c_9 h
      exact t_X1_addToYear_b58 C hk0 x1 x3 x4 S _ _ _ h X (lv_sub hl [0, 1, 2, 3] rfl)
    · have h := sd_ifp c_9 h
      refine lv_iconst (v := (1 : Int32)) hx hb dX1_addToYear_54 (by decide) ?_
      refine lv_goto (tgt := 59) hx hb dX1_addToYear_55 (by decide) ?_
      exact t_X1_addToYear_b59 C hk0 x1 x3 x4 (1 : Int32) S _ _ _ h X (lv_sub hl [0, 1, 2, 3] rfl)
def f_X1_addToYear_l12 (k0 : Nat) : Nat → Int32 → Int32 → Int32 → sd_St → Option (Unit × sd_St)
  | 0 => fun _ _ _ _ => none
  | n + 1 => fun x1 x3 x4 S => (if x4 ≤ 0 then f_X1_addToYear_b36 k0 x1 x3 x4 S else sd_ld S (k0 + 1) (x4 - (1 : Int32)) (fun v_11 => (if v_11 ≤ x3 then f_X1_addToYear_b36 k0 x1 x3 x4 S else (f_X1_addToYear_l12 k0 n) x1 x3 (x4 + (-1 : Int32)) S)))
set_option maxHeartbeats 4000000 in
set_option maxRecDepth 100000 in
theorem t_X1_addToYear_l12 (C : sd_C RX1 cX1_addToYear 6 none D cy ad A b0 p s m args meth c) {k0 : Nat} (hk0 : sd_kd k0 = 1) {S' : sd_St} : ∀ (n : Nat) (x1 : Int32) (x3 : Int32) (x4 : Int32) (S : sd_St) (H : Heap) (locs : List Loc) (ls : Array Slot), f_X1_addToYear_l12 k0 n x1 x3 x4 S = some ((), S') → sd_H D cy ad A s S H locs → lv_has ls 6 [(0, .ref (ad k0)), (1, .int x1), (3, .int x3), (4, .int x4)] → W p l e (sd_rm 1) s m args below meth c H locs 0 0 (MQ below (sd_Qv D cy ad A S') args s 0 0 A) (F0 m 12 ls []) := by
  obtain ⟨hx, hb, -, hml, hown, hts, -, hG⟩ := id C
  intro n
  induction n with
  | zero => intro x1 x3 x4 S H locs ls h; cases h
  | succ n ih =>
    intro x1 x3 x4 S H locs ls h X hl
    unfold f_X1_addToYear_l12 at h
    refine lv_iload hx hb dX1_addToYear_12 (lv_at hl 3 rfl) ?_
    refine lv_if_le (tgt := 36) hx hb dX1_addToYear_14 (by decide) (fun c_10 => ?_) (fun c_10 => ?_)
    · have h := sd_ifp c_10 h
      exact t_X1_addToYear_b36 C hk0 x1 x3 x4 S _ _ _ h X (lv_sub hl [0, 1, 2, 3] rfl)
    · have h := sd_ifn c_10 h
      refine lv_aload_n hx hb dX1_addToYear_17 rfl (lv_at hl 0 rfl) ?_
      refine sd_g1_5 (k := k0) C X hk0 sd_w4_17 dX1_addToYear_18 ?_
      refine lv_iload hx hb dX1_addToYear_21 (lv_at hl 3 rfl) ?_
      refine lv_iconst (v := (1 : Int32)) hx hb dX1_addToYear_23 (by decide) ?_
      refine lv_isub hx hb dX1_addToYear_24 ?_
      obtain ⟨b_11, v_11, e_11, h⟩ := sd_ld_some h
      refine sd_iald C X (sd_k1_1 hk0) b_11 dX1_addToYear_25 (sd_nmi e_11 ?_)
      refine lv_iload_n hx hb dX1_addToYear_26 rfl (lv_at hl 2 rfl) ?_
      refine lv_icmp_le (tgt := 36) hx hb dX1_addToYear_27 (by decide) (fun c_12 => ?_) (fun c_12 => ?_)
      · have h := sd_ifp c_12 h
        exact t_X1_addToYear_b36 C hk0 x1 x3 x4 S _ _ _ h X (lv_sub hl [0, 1, 2, 3] rfl)
      · have h := sd_ifn c_12 h
        refine lv_iinc (v := (x4 + (-1 : Int32))) (lv' := [(4, .int (x4 + (-1 : Int32))), (0, .ref (ad k0)), (1, .int x1), (3, .int x3)]) hx hb dX1_addToYear_30 hl (k := 3) rfl rfl (by decide) rfl (fun ls hl => ?_)
        refine lv_goto (tgt := 12) hx hb dX1_addToYear_33 (by decide) ?_
        exact ih x1 x3 (x4 + (-1 : Int32)) S _ _ _ h X (lv_sub hl [1, 2, 3, 0] rfl)
def f_X1_addToYear (k0 : Nat) (x1 : Int32) (x2 : Int32) (S : sd_St) : Option (Unit × sd_St) := sd_nm (((x1 <<< ((4 : Int32) &&& 31)) ||| x2)) (fun v_13 => sd_nm ((S.1 k0 4)) (fun v_14 => f_X1_addToYear_l12 k0 sd_FU x1 v_13 v_14 S))
set_option maxHeartbeats 4000000 in
set_option maxRecDepth 100000 in
theorem c_X1_addToYear {k0 : Nat} {x1 : Int32} {x2 : Int32} (hk0 : sd_kd k0 = 1) {S S' : sd_St} (h : f_X1_addToYear k0 x1 x2 S = some ((), S')) : Met l yX1_addToYear (Cond.code yX1_addToYear cX1_addToYear 6 none :: sd_wl) (sd_rm 1) (sd_P D cy ad A b0 [.ref (ad k0), .int x1, .int x2] S) (sd_Qv D cy ad A S') 0 0 A := by
  refine sd_met (by decide) (Nat.le_of_ble_eq_true rfl) (fun p e s m args below meth c ls C X hl => ?_)
  obtain ⟨hx, hb, -, hml, hown, hts, -, hG⟩ := id C
  replace C : sd_C RX1 cX1_addToYear 6 none D cy ad A b0 p s m args meth c := C
  replace hl : lv_has ls 6 [(0, .ref (ad k0)), (1, .int x1), (2, .int x2)] := hl
  unfold f_X1_addToYear at h
  refine lv_iload_n hx hb dX1_addToYear_0 rfl (lv_at hl 1 rfl) ?_
  refine lv_iconst (v := (4 : Int32)) hx hb dX1_addToYear_1 (by decide) ?_
  refine lv_ishl hx hb dX1_addToYear_2 ?_
  refine lv_iload_n hx hb dX1_addToYear_3 rfl (lv_at hl 2 rfl) ?_
  refine lv_ior hx hb dX1_addToYear_4 ?_
  obtain ⟨v_13, e_13, h⟩ := sd_nm_some h
  refine sd_nmi e_13 ?_
  refine lv_istore_n (lv' := [(3, .int v_13), (0, .ref (ad k0)), (1, .int x1), (2, .int x2)]) hx hb dX1_addToYear_5 rfl hl (by decide) rfl (fun ls hl => ?_)
  refine lv_aload_n hx hb dX1_addToYear_6 rfl (lv_at hl 1 rfl) ?_
  refine sd_g1_4 C X hk0 sd_w29_0 dX1_addToYear_7 ?_
  obtain ⟨v_14, e_14, h⟩ := sd_nm_some h
  refine sd_nmi e_14 ?_
  refine lv_istore (lv' := [(4, .int v_14), (3, .int v_13), (0, .ref (ad k0)), (1, .int x1), (2, .int x2)]) hx hb dX1_addToYear_10 hl (by decide) rfl (fun ls hl => ?_)
  exact t_X1_addToYear_l12 C hk0 sd_FU x1 v_13 v_14 S _ _ _ h X (lv_sub hl [2, 3, 1, 0] rfl)
theorem k_X1_addToYear (C : sd_C own cc nL rt D cy ad A b0 p s m args meth c) (X : sd_H D cy ad A s S H locs) (hls : ls.size = nL) {k0 : Nat} {x1 : Int32} {x2 : Int32} {S2 : sd_St} (hk0 : sd_kd k0 = 1) (h : f_X1_addToYear k0 x1 x2 S = some ((), S2)) (hlink : Cond.methodLink own index yX1_addToYear ∈ sd_wl) (hR : 2 ≤ R.frames ∧ 65 ≤ R.locals ∧ cells ≤ R.cells ∧ slots ≤ R.slots) (hst : (rest.map fun v => v.category).sum ≤ 8) (hdg : decode cc pc = .ok (.invokevirtual index, 3)) (kk : ∀ (H1 : Heap) (locs1 : List Loc), sd_H D cy ad A s S2 H1 locs1 → W p l e R s m args below meth c H1 locs1 cells slots Q (F0 m (pc + 3) ls rest)) : W p l e R s m args below meth c H locs cells slots Q (F0 m pc ls (.int x2 :: .int x1 :: .ref (ad k0) :: rest)) :=
  sd_goV X (sd_runV C X hls (n := 2) (k := k0) (As := [.int x1, .int x2]) (c_X1_addToYear (l := l) (b0 := b0) hk0 h) (sd_goodV hlink sd_w29_6 sd_w29_7 sd_w1_23 sd_w29_8) (ci := 1) rfl (by rw [hk0]; decide) (sd_c1 hk0) (by decide +kernel) rfl hR rfl hst hdg) kk
/-! ===== SecretDays$Town.hasDay(II)Z ===== -/
def f_X8_hasDay (k0 : Nat) (x1 : Int32) (x2 : Int32) (S : sd_St) : Option (Int32 × sd_St) := (if x2 = (59 : Int32) then (if (sd_rem x1 (4 : Int32)) = (S.1 k0 14) then (some ((1 : Int32), S)) else (some ((0 : Int32), S))) else (some ((1 : Int32), S)))
set_option maxHeartbeats 4000000 in
set_option maxRecDepth 100000 in
theorem c_X8_hasDay {k0 : Nat} {x1 : Int32} {x2 : Int32} (hk0 : sd_kd k0 = 8) {S S' : sd_St} {r : Int32} (h : f_X8_hasDay k0 x1 x2 S = some (r, S')) : Met l yX8_hasDay (Cond.code yX8_hasDay cX8_hasDay 3 (some .boolean) :: sd_wl) (sd_rm 0) (sd_P D cy ad A b0 [.ref (ad k0), .int x1, .int x2] S) (sd_Qi D cy ad A r S') 0 0 A := by
  refine sd_met (by decide) (Nat.le_of_ble_eq_true rfl) (fun p e s m args below meth c ls C X hl => ?_)
  obtain ⟨hx, hb, -, hml, hown, hts, -, hG⟩ := id C
  replace C : sd_C RX8 cX8_hasDay 3 (some .boolean) D cy ad A b0 p s m args meth c := C
  replace hl : lv_has ls 3 [(0, .ref (ad k0)), (1, .int x1), (2, .int x2)] := hl
  unfold f_X8_hasDay at h
  refine lv_iload_n hx hb dX8_hasDay_0 rfl (lv_at hl 2 rfl) ?_
  refine lv_bipush (v := (59 : Int32)) hx hb dX8_hasDay_1 (by decide) ?_
  refine lv_icmp_ne (tgt := 16) hx hb dX8_hasDay_3 (by decide) (fun c_1 => ?_) (fun c_1 => ?_)
  · have h := sd_ifn c_1 h
    refine lv_iconst (v := (1 : Int32)) hx hb dX8_hasDay_16 (by decide) ?_
    refine lv_goto (tgt := 21) hx hb dX8_hasDay_17 (by decide) ?_
    cases h
    exact sd_zret C X (by decide) dX8_hasDay_21
  · have h := sd_ifp c_1 h
    refine lv_iload_n hx hb dX8_hasDay_6 rfl (lv_at hl 1 rfl) ?_
    refine lv_iconst (v := (4 : Int32)) hx hb dX8_hasDay_7 (by decide) ?_
    refine lv_irem hx hb dX8_hasDay_8 (by decide) ?_
    refine lv_aload_n hx hb dX8_hasDay_9 rfl (lv_at hl 0 rfl) ?_
    refine sd_g8_14 C X hk0 sd_w11_6 dX8_hasDay_10 ?_
    refine lv_icmp_ne (tgt := 20) hx hb dX8_hasDay_13 (by decide) (fun c_2 => ?_) (fun c_2 => ?_)
    · have h := sd_ifn c_2 h
      refine lv_iconst (v := (0 : Int32)) hx hb dX8_hasDay_20 (by decide) ?_
      cases h
      exact sd_zret C X (by decide) dX8_hasDay_21
    · have h := sd_ifp c_2 h
      refine lv_iconst (v := (1 : Int32)) hx hb dX8_hasDay_16 (by decide) ?_
      refine lv_goto (tgt := 21) hx hb dX8_hasDay_17 (by decide) ?_
      cases h
      exact sd_zret C X (by decide) dX8_hasDay_21
theorem k_X8_hasDay (C : sd_C own cc nL rt D cy ad A b0 p s m args meth c) (X : sd_H D cy ad A s S H locs) (hls : ls.size = nL) {k0 : Nat} {x1 : Int32} {x2 : Int32} {S2 : sd_St} {r : Int32} (hk0 : sd_kd k0 = 8) (h : f_X8_hasDay k0 x1 x2 S = some (r, S2)) (hlink : Cond.methodLink own index yX8_hasDay ∈ sd_wl) (hR : 1 ≤ R.frames ∧ 22 ≤ R.locals ∧ cells ≤ R.cells ∧ slots ≤ R.slots) (hst : (rest.map fun v => v.category).sum ≤ 8) (hdg : decode cc pc = .ok (.invokevirtual index, 3)) (kk : ∀ (H1 : Heap) (locs1 : List Loc), sd_H D cy ad A s S2 H1 locs1 → W p l e R s m args below meth c H1 locs1 cells slots Q (F0 m (pc + 3) ls (.int r :: rest))) : W p l e R s m args below meth c H locs cells slots Q (F0 m pc ls (.int x2 :: .int x1 :: .ref (ad k0) :: rest)) :=
  sd_goI X (sd_runV C X hls (n := 2) (k := k0) (As := [.int x1, .int x2]) (c_X8_hasDay (l := l) (b0 := b0) hk0 h) (sd_goodV hlink sd_w25_14 sd_w25_15 sd_w1_19 sd_w25_16) (ci := 8) rfl (by rw [hk0]; decide) (sd_c8 hk0) (by decide +kernel) rfl hR rfl hst hdg) kk
/-! ===== SecretDays$Town.awayOn(I)I ===== -/
def f_X8_awayOn_b43 (q4 : (Int32 → Int32 → Int32 → sd_St → Option (Int32 × sd_St))) (k0 : Nat) (x1 : Int32) (x2 : Int32) (x3 : Int32) (S : sd_St) : Option (Int32 × sd_St) := q4 x1 x2 (x3 + (1 : Int32)) S
set_option maxHeartbeats 4000000 in
set_option maxRecDepth 100000 in
theorem t_X8_awayOn_b43 (C : sd_C RX8 cX8_awayOn 4 (some .int) D cy ad A b0 p s m args meth c) {k0 : Nat} (hk0 : sd_kd k0 = 8) {r : Int32} {S' : sd_St} {q4 : (Int32 → Int32 → Int32 → sd_St → Option (Int32 × sd_St))} (hq4 : ∀ (x1 : Int32) (x2 : Int32) (x3 : Int32) (S : sd_St) (H : Heap) (locs : List Loc) (ls : Array Slot), q4 x1 x2 x3 S = some (r, S') → sd_H D cy ad A s S H locs → lv_has ls 4 [(0, .ref (ad k0)), (1, .int x1), (2, .int x2), (3, .int x3)] → W p l e (sd_rm 0) s m args below meth c H locs 0 0 (MQ below (sd_Qi D cy ad A r S') args s 0 0 A) (F0 m 4 ls [])) : ∀ (x1 : Int32) (x2 : Int32) (x3 : Int32) (S : sd_St) (H : Heap) (locs : List Loc) (ls : Array Slot), f_X8_awayOn_b43 q4 k0 x1 x2 x3 S = some (r, S') → sd_H D cy ad A s S H locs → lv_has ls 4 [(0, .ref (ad k0)), (1, .int x1), (2, .int x2), (3, .int x3)] → W p l e (sd_rm 0) s m args below meth c H locs 0 0 (MQ below (sd_Qi D cy ad A r S') args s 0 0 A) (F0 m 43 ls []) := by
  obtain ⟨hx, hb, -, hml, hown, hts, -, hG⟩ := id C
  intro x1 x2 x3 S H locs ls h X hl
  unfold f_X8_awayOn_b43 at h
  refine lv_iinc (v := (x3 + (1 : Int32))) (lv' := [(3, .int (x3 + (1 : Int32))), (0, .ref (ad k0)), (1, .int x1), (2, .int x2)]) hx hb dX8_awayOn_43 hl (k := 3) rfl rfl (by decide) rfl (fun ls hl => ?_)
  refine lv_goto (tgt := 4) hx hb dX8_awayOn_46 (by decide) ?_
  exact hq4 x1 x2 (x3 + (1 : Int32)) S _ _ _ h X (lv_sub hl [1, 2, 3, 0] rfl)
def f_X8_awayOn_l4 (k0 : Nat) : Nat → Int32 → Int32 → Int32 → sd_St → Option (Int32 × sd_St)
  | 0 => fun _ _ _ _ => none
  | n + 1 => fun x1 x2 x3 S => (if (S.1 k0 7) ≤ x3 then (some (x2, S)) else sd_ld S (k0 + 7) x3 (fun v_2 => (if x1 < v_2 then f_X8_awayOn_b43 (f_X8_awayOn_l4 k0 n) k0 x1 x2 x3 S else sd_ld S (k0 + 8) x3 (fun v_4 => (if v_4 < x1 then f_X8_awayOn_b43 (f_X8_awayOn_l4 k0 n) k0 x1 x2 x3 S else sd_ld S (k0 + 6) x3 (fun v_6 => sd_nm ((x2 ||| ((1 : Int32) <<< (v_6 &&& 31)))) (fun v_7 => f_X8_awayOn_b43 (f_X8_awayOn_l4 k0 n) k0 x1 v_7 x3 S)))))))
set_option maxHeartbeats 4000000 in
set_option maxRecDepth 100000 in
theorem t_X8_awayOn_l4 (C : sd_C RX8 cX8_awayOn 4 (some .int) D cy ad A b0 p s m args meth c) {k0 : Nat} (hk0 : sd_kd k0 = 8) {r : Int32} {S' : sd_St} : ∀ (n : Nat) (x1 : Int32) (x2 : Int32) (x3 : Int32) (S : sd_St) (H : Heap) (locs : List Loc) (ls : Array Slot), f_X8_awayOn_l4 k0 n x1 x2 x3 S = some (r, S') → sd_H D cy ad A s S H locs → lv_has ls 4 [(0, .ref (ad k0)), (1, .int x1), (2, .int x2), (3, .int x3)] → W p l e (sd_rm 0) s m args below meth c H locs 0 0 (MQ below (sd_Qi D cy ad A r S') args s 0 0 A) (F0 m 4 ls []) := by
  obtain ⟨hx, hb, -, hml, hown, hts, -, hG⟩ := id C
  intro n
  induction n with
  | zero => intro x1 x2 x3 S H locs ls h; cases h
  | succ n ih =>
    intro x1 x2 x3 S H locs ls h X hl
    unfold f_X8_awayOn_l4 at h
    refine lv_iload_n hx hb dX8_awayOn_4 rfl (lv_at hl 3 rfl) ?_
    refine lv_aload_n hx hb dX8_awayOn_5 rfl (lv_at hl 0 rfl) ?_
    refine sd_g8_7 C X hk0 sd_w11_4 dX8_awayOn_6 ?_
    refine lv_icmp_ge (tgt := 49) hx hb dX8_awayOn_9 (by decide) (fun c_1 => ?_) (fun c_1 => ?_)
    · have h := sd_ifp c_1 h
      refine lv_iload_n hx hb dX8_awayOn_49 rfl (lv_at hl 2 rfl) ?_
      cases h
      exact sd_iret C X dX8_awayOn_50
    · have h := sd_ifn c_1 h
      refine lv_aload_n hx hb dX8_awayOn_12 rfl (lv_at hl 0 rfl) ?_
      refine sd_g8_9 (k := k0) C X hk0 sd_w4_4 dX8_awayOn_13 ?_
      refine lv_iload_n hx hb dX8_awayOn_16 rfl (lv_at hl 3 rfl) ?_
      obtain ⟨b_2, v_2, e_2, h⟩ := sd_ld_some h
      refine sd_iald C X (sd_k8_7 hk0) b_2 dX8_awayOn_17 (sd_nmi e_2 ?_)
      refine lv_iload_n hx hb dX8_awayOn_18 rfl (lv_at hl 1 rfl) ?_
      refine lv_icmp_gt (tgt := 43) hx hb dX8_awayOn_19 (by decide) (fun c_3 => ?_) (fun c_3 => ?_)
      · have h := sd_ifp c_3 h
        exact t_X8_awayOn_b43 C hk0 ih x1 x2 x3 S _ _ _ h X (lv_sub hl [0, 1, 2, 3] rfl)
      · have h := sd_ifn c_3 h
        refine lv_iload_n hx hb dX8_awayOn_22 rfl (lv_at hl 1 rfl) ?_
        refine lv_aload_n hx hb dX8_awayOn_23 rfl (lv_at hl 0 rfl) ?_
        refine sd_g8_10 (k := k0) C X hk0 sd_w4_5 dX8_awayOn_24 ?_
        refine lv_iload_n hx hb dX8_awayOn_27 rfl (lv_at hl 3 rfl) ?_
        obtain ⟨b_4, v_4, e_4, h⟩ := sd_ld_some h
        refine sd_iald C X (sd_k8_8 hk0) b_4 dX8_awayOn_28 (sd_nmi e_4 ?_)
        refine lv_icmp_gt (tgt := 43) hx hb dX8_awayOn_29 (by decide) (fun c_5 => ?_) (fun c_5 => ?_)
        · have h := sd_ifp c_5 h
          exact t_X8_awayOn_b43 C hk0 ih x1 x2 x3 S _ _ _ h X (lv_sub hl [0, 1, 2, 3] rfl)
        · have h := sd_ifn c_5 h
          refine lv_iload_n hx hb dX8_awayOn_32 rfl (lv_at hl 2 rfl) ?_
          refine lv_iconst (v := (1 : Int32)) hx hb dX8_awayOn_33 (by decide) ?_
          refine lv_aload_n hx hb dX8_awayOn_34 rfl (lv_at hl 0 rfl) ?_
          refine sd_g8_8 (k := k0) C X hk0 sd_w4_3 dX8_awayOn_35 ?_
          refine lv_iload_n hx hb dX8_awayOn_38 rfl (lv_at hl 3 rfl) ?_
          obtain ⟨b_6, v_6, e_6, h⟩ := sd_ld_some h
          refine sd_iald C X (sd_k8_6 hk0) b_6 dX8_awayOn_39 (sd_nmi e_6 ?_)
          refine lv_ishl hx hb dX8_awayOn_40 ?_
          refine lv_ior hx hb dX8_awayOn_41 ?_
          obtain ⟨v_7, e_7, h⟩ := sd_nm_some h
          refine sd_nmi e_7 ?_
          refine lv_istore_n (lv' := [(2, .int v_7), (0, .ref (ad k0)), (1, .int x1), (3, .int x3)]) hx hb dX8_awayOn_42 rfl hl (by decide) rfl (fun ls hl => ?_)
          exact t_X8_awayOn_b43 C hk0 ih x1 v_7 x3 S _ _ _ h X (lv_sub hl [1, 2, 0, 3] rfl)
def f_X8_awayOn (k0 : Nat) (x1 : Int32) (S : sd_St) : Option (Int32 × sd_St) := f_X8_awayOn_l4 k0 sd_FU x1 (0 : Int32) (0 : Int32) S
set_option maxHeartbeats 4000000 in
set_option maxRecDepth 100000 in
theorem c_X8_awayOn {k0 : Nat} {x1 : Int32} (hk0 : sd_kd k0 = 8) {S S' : sd_St} {r : Int32} (h : f_X8_awayOn k0 x1 S = some (r, S')) : Met l yX8_awayOn (Cond.code yX8_awayOn cX8_awayOn 4 (some .int) :: sd_wl) (sd_rm 0) (sd_P D cy ad A b0 [.ref (ad k0), .int x1] S) (sd_Qi D cy ad A r S') 0 0 A := by
  refine sd_met (by decide) (Nat.le_of_ble_eq_true rfl) (fun p e s m args below meth c ls C X hl => ?_)
  obtain ⟨hx, hb, -, hml, hown, hts, -, hG⟩ := id C
  replace C : sd_C RX8 cX8_awayOn 4 (some .int) D cy ad A b0 p s m args meth c := C
  replace hl : lv_has ls 4 [(0, .ref (ad k0)), (1, .int x1)] := hl
  unfold f_X8_awayOn at h
  refine lv_iconst (v := (0 : Int32)) hx hb dX8_awayOn_0 (by decide) ?_
  refine lv_istore_n (lv' := [(2, .int (0 : Int32)), (0, .ref (ad k0)), (1, .int x1)]) hx hb dX8_awayOn_1 rfl hl (by decide) rfl (fun ls hl => ?_)
  refine lv_iconst (v := (0 : Int32)) hx hb dX8_awayOn_2 (by decide) ?_
  refine lv_istore_n (lv' := [(3, .int (0 : Int32)), (2, .int (0 : Int32)), (0, .ref (ad k0)), (1, .int x1)]) hx hb dX8_awayOn_3 rfl hl (by decide) rfl (fun ls hl => ?_)
  exact t_X8_awayOn_l4 C hk0 sd_FU x1 (0 : Int32) (0 : Int32) S _ _ _ h X (lv_sub hl [2, 3, 1, 0] rfl)
theorem k_X8_awayOn (C : sd_C own cc nL rt D cy ad A b0 p s m args meth c) (X : sd_H D cy ad A s S H locs) (hls : ls.size = nL) {k0 : Nat} {x1 : Int32} {S2 : sd_St} {r : Int32} (hk0 : sd_kd k0 = 8) (h : f_X8_awayOn k0 x1 S = some (r, S2)) (hlink : Cond.methodLink own index yX8_awayOn ∈ sd_wl) (hR : 1 ≤ R.frames ∧ 23 ≤ R.locals ∧ cells ≤ R.cells ∧ slots ≤ R.slots) (hst : (rest.map fun v => v.category).sum ≤ 8) (hdg : decode cc pc = .ok (.invokevirtual index, 3)) (kk : ∀ (H1 : Heap) (locs1 : List Loc), sd_H D cy ad A s S2 H1 locs1 → W p l e R s m args below meth c H1 locs1 cells slots Q (F0 m (pc + 3) ls (.int r :: rest))) : W p l e R s m args below meth c H locs cells slots Q (F0 m pc ls (.int x1 :: .ref (ad k0) :: rest)) :=
  sd_goI X (sd_runV C X hls (n := 1) (k := k0) (As := [.int x1]) (c_X8_awayOn (l := l) (b0 := b0) hk0 h) (sd_goodV hlink sd_w26_21 sd_w26_22 sd_w1_19 sd_w26_23) (ci := 8) rfl (by rw [hk0]; decide) (sd_c8 hk0) (by decide +kernel) rfl hR rfl hst hdg) kk
/-! ===== SecretDays$Doors.addDoor(LSecretDays$Town;II)V ===== -/
def f_X1_addDoor (k0 : Nat) (k1 : Nat) (x2 : Int32) (x3 : Int32) (S : sd_St) : Option (Unit × sd_St) := sd_cl (f_X8_awayOn k1 x2 S) (fun r_2 S_1 => sd_cl (f_X11_has r_2 x3 S_1) (fun r_4 S_3 => (if r_4 = 0 then (if (S_3.1 k0 0) < (Int32.ofNat (sd_al (k0 + 2))) then sd_st S_3 (k0 + 2) (S_3.1 k0 0) x2 (fun S_7 => sd_st S_7 (k0 + 3) (S_7.1 k0 0) x3 (fun S_8 => sd_ld S_8 (k1 + 4) x3 (fun v_9 => sd_st S_8 (k0 + 4) (S_8.1 k0 0) (v_9 &&& (r_2 ^^^ (-1 : Int32))) (fun S_10 => sd_nm (sd_I S_10 k0 0 ((S_10.1 k0 0) + (1 : Int32))) (fun S_11 => (some ((), S_11))))))) else (some ((), S_3))) else (some ((), S_3)))))
set_option maxHeartbeats 4000000 in
set_option maxRecDepth 100000 in
theorem c_X1_addDoor {k0 : Nat} {k1 : Nat} {x2 : Int32} {x3 : Int32} (hk0 : sd_kd k0 = 1) (hk1 : sd_kd k1 = 8) {S S' : sd_St} (h : f_X1_addDoor k0 k1 x2 x3 S = some ((), S')) : Met l yX1_addDoor (Cond.code yX1_addDoor cX1_addDoor 5 none :: sd_wl) (sd_rm 1) (sd_P D cy ad A b0 [.ref (ad k0), .ref (ad k1), .int x2, .int x3] S) (sd_Qv D cy ad A S') 0 0 A := by
  refine sd_met (by decide) (Nat.le_of_ble_eq_true rfl) (fun p e s m args below meth c ls C X hl => ?_)
  obtain ⟨hx, hb, -, hml, hown, hts, -, hG⟩ := id C
  replace C : sd_C RX1 cX1_addDoor 5 none D cy ad A b0 p s m args meth c := C
  replace hl : lv_has ls 5 [(0, .ref (ad k0)), (1, .ref (ad k1)), (2, .int x2), (3, .int x3)] := hl
  unfold f_X1_addDoor at h
  refine lv_aload_n hx hb dX1_addDoor_0 rfl (lv_at hl 1 rfl) ?_
  refine lv_iload_n hx hb dX1_addDoor_1 rfl (lv_at hl 2 rfl) ?_
  obtain ⟨r_2, S_1, er_2, h⟩ := sd_cl_some h
  refine k_X8_awayOn C X hl.1 hk1 er_2 sd_w29_21 (by decide) (Nat.le_of_ble_eq_true rfl) dX1_addDoor_2 (fun H locs X => ?_)
  refine lv_istore (lv' := [(4, .int r_2), (0, .ref (ad k0)), (1, .ref (ad k1)), (2, .int x2), (3, .int x3)]) hx hb dX1_addDoor_5 hl (by decide) rfl (fun ls hl => ?_)
  refine lv_iload hx hb dX1_addDoor_7 (lv_at hl 0 rfl) ?_
  refine lv_iload_n hx hb dX1_addDoor_9 rfl (lv_at hl 4 rfl) ?_
  obtain ⟨r_4, S_3, er_4, h⟩ := sd_cl_some h
  refine k_X11_has_n C X hl.1 er_4 (List.mem_of_getElem? (i := 13) rfl) (by decide) (Nat.le_of_ble_eq_true rfl) dX1_addDoor_10 (fun H locs X => ?_)
  refine lv_if_ne (tgt := 28) hx hb dX1_addDoor_13 (by decide) (fun c_5 => ?_) (fun c_5 => ?_)
  · have h := sd_ifn c_5 h
    cases h
    exact sd_vret C X dX1_addDoor_28
  · have h := sd_ifp c_5 h
    refine lv_aload_n hx hb dX1_addDoor_16 rfl (lv_at hl 1 rfl) ?_
    refine sd_g1_0 C X hk0 sd_w29_14 dX1_addDoor_17 ?_
    refine lv_aload_n hx hb dX1_addDoor_20 rfl (lv_at hl 1 rfl) ?_
    refine sd_g1_1 (k := k0) C X hk0 sd_w4_18 dX1_addDoor_21 ?_
    refine sd_ialen C X (sd_k1_2 hk0) dX1_addDoor_24 ?_
    refine lv_icmp_lt (tgt := 29) hx hb dX1_addDoor_25 (by decide) (fun c_6 => ?_) (fun c_6 => ?_)
    · have h := sd_ifp c_6 h
      refine lv_aload_n hx hb dX1_addDoor_29 rfl (lv_at hl 1 rfl) ?_
      refine sd_g1_1 (k := k0) C X hk0 sd_w4_18 dX1_addDoor_30 ?_
      refine lv_aload_n hx hb dX1_addDoor_33 rfl (lv_at hl 1 rfl) ?_
      refine sd_g1_0 C X hk0 sd_w29_14 dX1_addDoor_34 ?_
      refine lv_iload_n hx hb dX1_addDoor_37 rfl (lv_at hl 3 rfl) ?_
      obtain ⟨bS_7, S_7, eS_7, h⟩ := sd_st_some h
      refine sd_iast C X (sd_k1_2 hk0) bS_7 dX1_addDoor_38 (fun H locs X => ?_)
      rw [← eS_7] at X
      refine lv_aload_n hx hb dX1_addDoor_39 rfl (lv_at hl 1 rfl) ?_
      refine sd_g1_2 (k := k0) C X hk0 sd_w4_19 dX1_addDoor_40 ?_
      refine lv_aload_n hx hb dX1_addDoor_43 rfl (lv_at hl 1 rfl) ?_
      refine sd_g1_0 C X hk0 sd_w29_14 dX1_addDoor_44 ?_
      refine lv_iload_n hx hb dX1_addDoor_47 rfl (lv_at hl 4 rfl) ?_
      obtain ⟨bS_8, S_8, eS_8, h⟩ := sd_st_some h
      refine sd_iast C X (sd_k1_3 hk0) bS_8 dX1_addDoor_48 (fun H locs X => ?_)
      rw [← eS_8] at X
      refine lv_aload_n hx hb dX1_addDoor_49 rfl (lv_at hl 1 rfl) ?_
      refine sd_g1_3 (k := k0) C X hk0 sd_w4_20 dX1_addDoor_50 ?_
      refine lv_aload_n hx hb dX1_addDoor_53 rfl (lv_at hl 1 rfl) ?_
      refine sd_g1_0 C X hk0 sd_w29_14 dX1_addDoor_54 ?_
      refine lv_aload_n hx hb dX1_addDoor_57 rfl (lv_at hl 2 rfl) ?_
      refine sd_g8_4 (k := k1) C X hk1 sd_w29_20 dX1_addDoor_58 ?_
      refine lv_iload_n hx hb dX1_addDoor_61 rfl (lv_at hl 4 rfl) ?_
      obtain ⟨b_9, v_9, e_9, h⟩ := sd_ld_some h
      refine sd_iald C X (sd_k8_4 hk1) b_9 dX1_addDoor_62 (sd_nmi e_9 ?_)
      refine lv_iload hx hb dX1_addDoor_63 (lv_at hl 0 rfl) ?_
      refine lv_iconst (v := (-1 : Int32)) hx hb dX1_addDoor_65 (by decide) ?_
      refine lv_ixor hx hb dX1_addDoor_66 ?_
      refine lv_iand hx hb dX1_addDoor_67 ?_
      obtain ⟨bS_10, S_10, eS_10, h⟩ := sd_st_some h
      refine sd_iast C X (sd_k1_4 hk0) bS_10 dX1_addDoor_68 (fun H locs X => ?_)
      rw [← eS_10] at X
      refine lv_aload_n hx hb dX1_addDoor_69 rfl (lv_at hl 1 rfl) ?_
      refine lv_dup hx hb dX1_addDoor_70 rfl ?_
      refine sd_g1_0 C X hk0 sd_w29_14 dX1_addDoor_71 ?_
      refine lv_iconst (v := (1 : Int32)) hx hb dX1_addDoor_74 (by decide) ?_
      refine lv_iadd hx hb dX1_addDoor_75 ?_
      obtain ⟨S_11, eS_11, h⟩ := sd_nm_some h
      refine sd_p1_0 C X hk0 sd_w29_14 dX1_addDoor_76 (fun H locs X => ?_)
      rw [← eS_11] at X
      cases h
      exact sd_vret C X dX1_addDoor_79
    · have h := sd_ifn c_6 h
      cases h
      exact sd_vret C X dX1_addDoor_28
theorem k_X1_addDoor (C : sd_C own cc nL rt D cy ad A b0 p s m args meth c) (X : sd_H D cy ad A s S H locs) (hls : ls.size = nL) {k0 : Nat} {k1 : Nat} {x2 : Int32} {x3 : Int32} {S2 : sd_St} (hk0 : sd_kd k0 = 1) (hk1 : sd_kd k1 = 8) (h : f_X1_addDoor k0 k1 x2 x3 S = some ((), S2)) (hlink : Cond.methodLink own index yX1_addDoor ∈ sd_wl) (hR : 2 ≤ R.frames ∧ 64 ≤ R.locals ∧ cells ≤ R.cells ∧ slots ≤ R.slots) (hst : (rest.map fun v => v.category).sum ≤ 8) (hdg : decode cc pc = .ok (.invokevirtual index, 3)) (kk : ∀ (H1 : Heap) (locs1 : List Loc), sd_H D cy ad A s S2 H1 locs1 → W p l e R s m args below meth c H1 locs1 cells slots Q (F0 m (pc + 3) ls rest)) : W p l e R s m args below meth c H locs cells slots Q (F0 m pc ls (.int x3 :: .int x2 :: .ref (ad k1) :: .ref (ad k0) :: rest)) :=
  sd_goV X (sd_runV C X hls (n := 3) (k := k0) (As := [.ref (ad k1), .int x2, .int x3]) (c_X1_addDoor (l := l) (b0 := b0) hk0 hk1 h) (sd_goodV hlink sd_w29_17 sd_w29_18 sd_w1_23 sd_w29_19) (ci := 1) rfl (by rw [hk0]; decide) (sd_c1 hk0) (by decide +kernel) rfl hR rfl hst hdg) kk
/-! ===== SecretDays$Doors.unfold(LSecretDays$Town;)V ===== -/
def f_X1_unfold_b65 (q7 : (Int32 → sd_St → Option (Unit × sd_St))) (q15 : (Int32 → Int32 → sd_St → Option (Unit × sd_St))) (k0 : Nat) (k1 : Nat) (x2 : Int32) (x3 : Int32) (S : sd_St) : Option (Unit × sd_St) := q15 x2 (x3 + (1 : Int32)) S
set_option maxHeartbeats 4000000 in
set_option maxRecDepth 100000 in
theorem t_X1_unfold_b65 (C : sd_C RX1 cX1_unfold 5 none D cy ad A b0 p s m args meth c) {k0 : Nat} {k1 : Nat} (hk0 : sd_kd k0 = 1) (hk1 : sd_kd k1 = 8) {S' : sd_St} {q7 : (Int32 → sd_St → Option (Unit × sd_St))} {q15 : (Int32 → Int32 → sd_St → Option (Unit × sd_St))} (hq7 : ∀ (x2 : Int32) (S : sd_St) (H : Heap) (locs : List Loc) (ls : Array Slot), q7 x2 S = some ((), S') → sd_H D cy ad A s S H locs → lv_has ls 5 [(0, .ref (ad k0)), (1, .ref (ad k1)), (2, .int x2)] → W p l e (sd_rm 2) s m args below meth c H locs 0 0 (MQ below (sd_Qv D cy ad A S') args s 0 0 A) (F0 m 7 ls [])) (hq15 : ∀ (x2 : Int32) (x3 : Int32) (S : sd_St) (H : Heap) (locs : List Loc) (ls : Array Slot), q15 x2 x3 S = some ((), S') → sd_H D cy ad A s S H locs → lv_has ls 5 [(0, .ref (ad k0)), (1, .ref (ad k1)), (2, .int x2), (3, .int x3)] → W p l e (sd_rm 2) s m args below meth c H locs 0 0 (MQ below (sd_Qv D cy ad A S') args s 0 0 A) (F0 m 15 ls [])) : ∀ (x2 : Int32) (x3 : Int32) (S : sd_St) (H : Heap) (locs : List Loc) (ls : Array Slot), f_X1_unfold_b65 q7 q15 k0 k1 x2 x3 S = some ((), S') → sd_H D cy ad A s S H locs → lv_has ls 5 [(0, .ref (ad k0)), (1, .ref (ad k1)), (2, .int x2), (3, .int x3)] → W p l e (sd_rm 2) s m args below meth c H locs 0 0 (MQ below (sd_Qv D cy ad A S') args s 0 0 A) (F0 m 65 ls []) := by
  obtain ⟨hx, hb, -, hml, hown, hts, -, hG⟩ := id C
  intro x2 x3 S H locs ls h X hl
  unfold f_X1_unfold_b65 at h
  refine lv_iinc (v := (x3 + (1 : Int32))) (lv' := [(3, .int (x3 + (1 : Int32))), (0, .ref (ad k0)), (1, .ref (ad k1)), (2, .int x2)]) hx hb dX1_unfold_65 hl (k := 3) rfl rfl (by decide) rfl (fun ls hl => ?_)
  refine lv_goto (tgt := 15) hx hb dX1_unfold_68 (by decide) ?_
  exact hq15 x2 (x3 + (1 : Int32)) S _ _ _ h X (lv_sub hl [1, 2, 3, 0] rfl)
def f_X1_unfold_l15 (q7 : (Int32 → sd_St → Option (Unit × sd_St))) (k0 : Nat) (k1 : Nat) : Nat → Int32 → Int32 → sd_St → Option (Unit × sd_St)
  | 0 => fun _ _ _ => none
  | n + 1 => fun x2 x3 S => (if (S.1 k0 4) ≤ x3 then q7 (x2 + (1 : Int32)) S else sd_ld S (k0 + 1) x3 (fun v_2 => sd_nm ((v_2 >>> ((4 : Int32) &&& 31))) (fun v_3 => sd_cl (f_X8_hasDay k1 x2 v_3 S) (fun r_5 S_4 => (if r_5 = 0 then f_X1_unfold_b65 q7 (f_X1_unfold_l15 q7 k0 k1 n) k0 k1 x2 x3 S_4 else sd_ld S_4 (k0 + 1) x3 (fun v_7 => sd_cl (f_X1_addDoor k0 k1 ((x2 * (366 : Int32)) + v_3) (v_7 &&& (15 : Int32)) S_4) (fun _ S_8 => f_X1_unfold_b65 q7 (f_X1_unfold_l15 q7 k0 k1 n) k0 k1 x2 x3 S_8)))))))
set_option maxHeartbeats 4000000 in
set_option maxRecDepth 100000 in
theorem t_X1_unfold_l15 (C : sd_C RX1 cX1_unfold 5 none D cy ad A b0 p s m args meth c) {k0 : Nat} {k1 : Nat} (hk0 : sd_kd k0 = 1) (hk1 : sd_kd k1 = 8) {S' : sd_St} {q7 : (Int32 → sd_St → Option (Unit × sd_St))} (hq7 : ∀ (x2 : Int32) (S : sd_St) (H : Heap) (locs : List Loc) (ls : Array Slot), q7 x2 S = some ((), S') → sd_H D cy ad A s S H locs → lv_has ls 5 [(0, .ref (ad k0)), (1, .ref (ad k1)), (2, .int x2)] → W p l e (sd_rm 2) s m args below meth c H locs 0 0 (MQ below (sd_Qv D cy ad A S') args s 0 0 A) (F0 m 7 ls [])) : ∀ (n : Nat) (x2 : Int32) (x3 : Int32) (S : sd_St) (H : Heap) (locs : List Loc) (ls : Array Slot), f_X1_unfold_l15 q7 k0 k1 n x2 x3 S = some ((), S') → sd_H D cy ad A s S H locs → lv_has ls 5 [(0, .ref (ad k0)), (1, .ref (ad k1)), (2, .int x2), (3, .int x3)] → W p l e (sd_rm 2) s m args below meth c H locs 0 0 (MQ below (sd_Qv D cy ad A S') args s 0 0 A) (F0 m 15 ls []) := by
  obtain ⟨hx, hb, -, hml, hown, hts, -, hG⟩ := id C
  intro n
  induction n with
  | zero => intro x2 x3 S H locs ls h; cases h
  | succ n ih =>
    intro x2 x3 S H locs ls h X hl
    unfold f_X1_unfold_l15 at h
    refine lv_iload_n hx hb dX1_unfold_15 rfl (lv_at hl 3 rfl) ?_
    refine lv_aload_n hx hb dX1_unfold_16 rfl (lv_at hl 0 rfl) ?_
    refine sd_g1_4 C X hk0 sd_w29_0 dX1_unfold_17 ?_
    refine lv_icmp_ge (tgt := 71) hx hb dX1_unfold_20 (by decide) (fun c_1 => ?_) (fun c_1 => ?_)
    · have h := sd_ifp c_1 h
      refine lv_iinc (v := (x2 + (1 : Int32))) (lv' := [(2, .int (x2 + (1 : Int32))), (0, .ref (ad k0)), (1, .ref (ad k1)), (3, .int x3)]) hx hb dX1_unfold_71 hl (k := 2) rfl rfl (by decide) rfl (fun ls hl => ?_)
      refine lv_goto (tgt := 7) hx hb dX1_unfold_74 (by decide) ?_
      exact hq7 (x2 + (1 : Int32)) S _ _ _ h X (lv_sub hl [1, 2, 0] rfl)
    · have h := sd_ifn c_1 h
      refine lv_aload_n hx hb dX1_unfold_23 rfl (lv_at hl 0 rfl) ?_
      refine sd_g1_5 (k := k0) C X hk0 sd_w4_17 dX1_unfold_24 ?_
      refine lv_iload_n hx hb dX1_unfold_27 rfl (lv_at hl 3 rfl) ?_
      obtain ⟨b_2, v_2, e_2, h⟩ := sd_ld_some h
      refine sd_iald C X (sd_k1_1 hk0) b_2 dX1_unfold_28 (sd_nmi e_2 ?_)
      refine lv_iconst (v := (4 : Int32)) hx hb dX1_unfold_29 (by decide) ?_
      refine lv_ishr hx hb dX1_unfold_30 ?_
      obtain ⟨v_3, e_3, h⟩ := sd_nm_some h
      refine sd_nmi e_3 ?_
      refine lv_istore (lv' := [(4, .int v_3), (0, .ref (ad k0)), (1, .ref (ad k1)), (2, .int x2), (3, .int x3)]) hx hb dX1_unfold_31 hl (by decide) rfl (fun ls hl => ?_)
      refine lv_aload_n hx hb dX1_unfold_33 rfl (lv_at hl 2 rfl) ?_
      refine lv_iload_n hx hb dX1_unfold_34 rfl (lv_at hl 3 rfl) ?_
      refine lv_iload hx hb dX1_unfold_35 (lv_at hl 0 rfl) ?_
      obtain ⟨r_5, S_4, er_5, h⟩ := sd_cl_some h
      refine k_X8_hasDay C X hl.1 hk1 er_5 sd_w29_15 (by decide) (Nat.le_of_ble_eq_true rfl) dX1_unfold_37 (fun H locs X => ?_)
      refine lv_if_eq (tgt := 65) hx hb dX1_unfold_40 (by decide) (fun c_6 => ?_) (fun c_6 => ?_)
      · have h := sd_ifp c_6 h
        exact t_X1_unfold_b65 C hk0 hk1 hq7 ih x2 x3 S_4 _ _ _ h X (lv_sub hl [1, 2, 3, 4] rfl)
      · have h := sd_ifn c_6 h
        refine lv_aload_n hx hb dX1_unfold_43 rfl (lv_at hl 1 rfl) ?_
        refine lv_aload_n hx hb dX1_unfold_44 rfl (lv_at hl 2 rfl) ?_
        refine lv_iload_n hx hb dX1_unfold_45 rfl (lv_at hl 3 rfl) ?_
        refine lv_sipush (v := (366 : Int32)) hx hb dX1_unfold_46 (by decide) ?_
        refine lv_imul hx hb dX1_unfold_49 ?_
        refine lv_iload hx hb dX1_unfold_50 (lv_at hl 0 rfl) ?_
        refine lv_iadd hx hb dX1_unfold_52 ?_
        refine lv_aload_n hx hb dX1_unfold_53 rfl (lv_at hl 1 rfl) ?_
        refine sd_g1_5 (k := k0) C X hk0 sd_w4_17 dX1_unfold_54 ?_
        refine lv_iload_n hx hb dX1_unfold_57 rfl (lv_at hl 4 rfl) ?_
        obtain ⟨b_7, v_7, e_7, h⟩ := sd_ld_some h
        refine sd_iald C X (sd_k1_1 hk0) b_7 dX1_unfold_58 (sd_nmi e_7 ?_)
        refine lv_bipush (v := (15 : Int32)) hx hb dX1_unfold_59 (by decide) ?_
        refine lv_iand hx hb dX1_unfold_61 ?_
        obtain ⟨r_9, S_8, er_9, h⟩ := sd_cl_some h
        refine k_X1_addDoor C X hl.1 hk0 hk1 er_9 sd_w29_16 (by decide) (Nat.le_of_ble_eq_true rfl) dX1_unfold_62 (fun H locs X => ?_)
        exact t_X1_unfold_b65 C hk0 hk1 hq7 ih x2 x3 S_8 _ _ _ h X (lv_sub hl [1, 2, 3, 4] rfl)
def f_X1_unfold_l7 (k0 : Nat) (k1 : Nat) : Nat → Int32 → sd_St → Option (Unit × sd_St)
  | 0 => fun _ _ => none
  | n + 1 => fun x2 S => (if (12 : Int32) ≤ x2 then (some ((), S)) else f_X1_unfold_l15 (f_X1_unfold_l7 k0 k1 n) k0 k1 sd_FU x2 (0 : Int32) S)
set_option maxHeartbeats 4000000 in
set_option maxRecDepth 100000 in
theorem t_X1_unfold_l7 (C : sd_C RX1 cX1_unfold 5 none D cy ad A b0 p s m args meth c) {k0 : Nat} {k1 : Nat} (hk0 : sd_kd k0 = 1) (hk1 : sd_kd k1 = 8) {S' : sd_St} : ∀ (n : Nat) (x2 : Int32) (S : sd_St) (H : Heap) (locs : List Loc) (ls : Array Slot), f_X1_unfold_l7 k0 k1 n x2 S = some ((), S') → sd_H D cy ad A s S H locs → lv_has ls 5 [(0, .ref (ad k0)), (1, .ref (ad k1)), (2, .int x2)] → W p l e (sd_rm 2) s m args below meth c H locs 0 0 (MQ below (sd_Qv D cy ad A S') args s 0 0 A) (F0 m 7 ls []) := by
  obtain ⟨hx, hb, -, hml, hown, hts, -, hG⟩ := id C
  intro n
  induction n with
  | zero => intro x2 S H locs ls h; cases h
  | succ n ih =>
    intro x2 S H locs ls h X hl
    unfold f_X1_unfold_l7 at h
    refine lv_iload_n hx hb dX1_unfold_7 rfl (lv_at hl 2 rfl) ?_
    refine lv_bipush (v := (12 : Int32)) hx hb dX1_unfold_8 (by decide) ?_
    refine lv_icmp_ge (tgt := 77) hx hb dX1_unfold_10 (by decide) (fun c_10 => ?_) (fun c_10 => ?_)
    · have h := sd_ifp c_10 h
      cases h
      exact sd_vret C X dX1_unfold_77
    · have h := sd_ifn c_10 h
      refine lv_iconst (v := (0 : Int32)) hx hb dX1_unfold_13 (by decide) ?_
      refine lv_istore_n (lv' := [(3, .int (0 : Int32)), (0, .ref (ad k0)), (1, .ref (ad k1)), (2, .int x2)]) hx hb dX1_unfold_14 rfl hl (by decide) rfl (fun ls hl => ?_)
      exact t_X1_unfold_l15 C hk0 hk1 ih sd_FU x2 (0 : Int32) S _ _ _ h X (lv_sub hl [1, 2, 3, 0] rfl)
def f_X1_unfold (k0 : Nat) (k1 : Nat) (S : sd_St) : Option (Unit × sd_St) := sd_nm (sd_I S k0 0 (0 : Int32)) (fun S_11 => f_X1_unfold_l7 k0 k1 sd_FU (0 : Int32) S_11)
set_option maxHeartbeats 4000000 in
set_option maxRecDepth 100000 in
theorem c_X1_unfold {k0 : Nat} {k1 : Nat} (hk0 : sd_kd k0 = 1) (hk1 : sd_kd k1 = 8) {S S' : sd_St} (h : f_X1_unfold k0 k1 S = some ((), S')) : Met l yX1_unfold (Cond.code yX1_unfold cX1_unfold 5 none :: sd_wl) (sd_rm 2) (sd_P D cy ad A b0 [.ref (ad k0), .ref (ad k1)] S) (sd_Qv D cy ad A S') 0 0 A := by
  refine sd_met (by decide) (Nat.le_of_ble_eq_true rfl) (fun p e s m args below meth c ls C X hl => ?_)
  obtain ⟨hx, hb, -, hml, hown, hts, -, hG⟩ := id C
  replace C : sd_C RX1 cX1_unfold 5 none D cy ad A b0 p s m args meth c := C
  replace hl : lv_has ls 5 [(0, .ref (ad k0)), (1, .ref (ad k1))] := hl
  unfold f_X1_unfold at h
  refine lv_aload_n hx hb dX1_unfold_0 rfl (lv_at hl 0 rfl) ?_
  refine lv_iconst (v := (0 : Int32)) hx hb dX1_unfold_1 (by decide) ?_
  obtain ⟨S_11, eS_11, h⟩ := sd_nm_some h
  refine sd_p1_0 C X hk0 sd_w29_14 dX1_unfold_2 (fun H locs X => ?_)
  rw [← eS_11] at X
  refine lv_iconst (v := (0 : Int32)) hx hb dX1_unfold_5 (by decide) ?_
  refine lv_istore_n (lv' := [(2, .int (0 : Int32)), (0, .ref (ad k0)), (1, .ref (ad k1))]) hx hb dX1_unfold_6 rfl hl (by decide) rfl (fun ls hl => ?_)
  exact t_X1_unfold_l7 C hk0 hk1 sd_FU (0 : Int32) S_11 _ _ _ h X (lv_sub hl [1, 2, 0] rfl)
theorem k_X1_unfold (C : sd_C own cc nL rt D cy ad A b0 p s m args meth c) (X : sd_H D cy ad A s S H locs) (hls : ls.size = nL) {k0 : Nat} {k1 : Nat} {S2 : sd_St} (hk0 : sd_kd k0 = 1) (hk1 : sd_kd k1 = 8) (h : f_X1_unfold k0 k1 S = some ((), S2)) (hlink : Cond.methodLink own index yX1_unfold ∈ sd_wl) (hR : 3 ≤ R.frames ∧ 104 ≤ R.locals ∧ cells ≤ R.cells ∧ slots ≤ R.slots) (hst : (rest.map fun v => v.category).sum ≤ 8) (hdg : decode cc pc = .ok (.invokevirtual index, 3)) (kk : ∀ (H1 : Heap) (locs1 : List Loc), sd_H D cy ad A s S2 H1 locs1 → W p l e R s m args below meth c H1 locs1 cells slots Q (F0 m (pc + 3) ls rest)) : W p l e R s m args below meth c H locs cells slots Q (F0 m pc ls (.ref (ad k1) :: .ref (ad k0) :: rest)) :=
  sd_goV X (sd_runV C X hls (n := 1) (k := k0) (As := [.ref (ad k1)]) (c_X1_unfold (l := l) (b0 := b0) hk0 hk1 h) (sd_goodV hlink sd_w29_11 sd_w29_12 sd_w1_23 sd_w29_13) (ci := 1) rfl (by rw [hk0]; decide) (sd_c1 hk0) (by decide +kernel) rfl hR rfl hst hdg) kk
/-! ===== SecretDays$Doors.openAll(LSecretDays$Town;)V ===== -/
def f_X1_openAll_b44 (q7 : (Int32 → sd_St → Option (Unit × sd_St))) (k0 : Nat) (k1 : Nat) (x2 : Int32) (S : sd_St) : Option (Unit × sd_St) := q7 (x2 + (1 : Int32)) S
set_option maxHeartbeats 4000000 in
set_option maxRecDepth 100000 in
theorem t_X1_openAll_b44 (C : sd_C RX1 cX1_openAll 3 none D cy ad A b0 p s m args meth c) {k0 : Nat} {k1 : Nat} (hk0 : sd_kd k0 = 1) (hk1 : sd_kd k1 = 8) {S' : sd_St} {q7 : (Int32 → sd_St → Option (Unit × sd_St))} (hq7 : ∀ (x2 : Int32) (S : sd_St) (H : Heap) (locs : List Loc) (ls : Array Slot), q7 x2 S = some ((), S') → sd_H D cy ad A s S H locs → lv_has ls 3 [(0, .ref (ad k0)), (1, .ref (ad k1)), (2, .int x2)] → W p l e (sd_rm 3) s m args below meth c H locs 0 0 (MQ below (sd_Qv D cy ad A S') args s 0 0 A) (F0 m 7 ls [])) : ∀ (x2 : Int32) (S : sd_St) (H : Heap) (locs : List Loc) (ls : Array Slot), f_X1_openAll_b44 q7 k0 k1 x2 S = some ((), S') → sd_H D cy ad A s S H locs → lv_has ls 3 [(0, .ref (ad k0)), (1, .ref (ad k1)), (2, .int x2)] → W p l e (sd_rm 3) s m args below meth c H locs 0 0 (MQ below (sd_Qv D cy ad A S') args s 0 0 A) (F0 m 44 ls []) := by
  obtain ⟨hx, hb, -, hml, hown, hts, -, hG⟩ := id C
  intro x2 S H locs ls h X hl
  unfold f_X1_openAll_b44 at h
  refine lv_iinc (v := (x2 + (1 : Int32))) (lv' := [(2, .int (x2 + (1 : Int32))), (0, .ref (ad k0)), (1, .ref (ad k1))]) hx hb dX1_openAll_44 hl (k := 2) rfl rfl (by decide) rfl (fun ls hl => ?_)
  refine lv_goto (tgt := 7) hx hb dX1_openAll_47 (by decide) ?_
  exact hq7 (x2 + (1 : Int32)) S _ _ _ h X (lv_sub hl [1, 2, 0] rfl)
def f_X1_openAll_l7 (k0 : Nat) (k1 : Nat) : Nat → Int32 → sd_St → Option (Unit × sd_St)
  | 0 => fun _ _ => none
  | n + 1 => fun x2 S => (if (S.1 k1 0) ≤ x2 then sd_cl (f_X1_unfold k0 k1 S) (fun _ S_2 => (some ((), S_2))) else sd_ld S (k1 + 1) x2 (fun v_4 => sd_cl (f_X1_addToYear k0 v_4 x2 S) (fun _ S_5 => (if (S_5.1 k1 15) = 0 then f_X1_openAll_b44 (f_X1_openAll_l7 k0 k1 n) k0 k1 x2 S_5 else sd_ld S_5 (k1 + 2) x2 (fun v_8 => sd_cl (f_X1_addToYear k0 v_8 x2 S_5) (fun _ S_9 => f_X1_openAll_b44 (f_X1_openAll_l7 k0 k1 n) k0 k1 x2 S_9))))))
set_option maxHeartbeats 4000000 in
set_option maxRecDepth 100000 in
theorem t_X1_openAll_l7 (C : sd_C RX1 cX1_openAll 3 none D cy ad A b0 p s m args meth c) {k0 : Nat} {k1 : Nat} (hk0 : sd_kd k0 = 1) (hk1 : sd_kd k1 = 8) {S' : sd_St} : ∀ (n : Nat) (x2 : Int32) (S : sd_St) (H : Heap) (locs : List Loc) (ls : Array Slot), f_X1_openAll_l7 k0 k1 n x2 S = some ((), S') → sd_H D cy ad A s S H locs → lv_has ls 3 [(0, .ref (ad k0)), (1, .ref (ad k1)), (2, .int x2)] → W p l e (sd_rm 3) s m args below meth c H locs 0 0 (MQ below (sd_Qv D cy ad A S') args s 0 0 A) (F0 m 7 ls []) := by
  obtain ⟨hx, hb, -, hml, hown, hts, -, hG⟩ := id C
  intro n
  induction n with
  | zero => intro x2 S H locs ls h; cases h
  | succ n ih =>
    intro x2 S H locs ls h X hl
    unfold f_X1_openAll_l7 at h
    refine lv_iload_n hx hb dX1_openAll_7 rfl (lv_at hl 2 rfl) ?_
    refine lv_aload_n hx hb dX1_openAll_8 rfl (lv_at hl 1 rfl) ?_
    refine sd_g8_0 C X hk1 sd_w29_1 dX1_openAll_9 ?_
    refine lv_icmp_ge (tgt := 50) hx hb dX1_openAll_12 (by decide) (fun c_1 => ?_) (fun c_1 => ?_)
    · have h := sd_ifp c_1 h
      refine lv_aload_n hx hb dX1_openAll_50 rfl (lv_at hl 0 rfl) ?_
      refine lv_aload_n hx hb dX1_openAll_51 rfl (lv_at hl 1 rfl) ?_
      obtain ⟨r_3, S_2, er_3, h⟩ := sd_cl_some h
      refine k_X1_unfold C X hl.1 hk0 hk1 er_3 sd_w29_10 (by decide) (Nat.le_of_ble_eq_true rfl) dX1_openAll_52 (fun H locs X => ?_)
      cases h
      exact sd_vret C X dX1_openAll_55
    · have h := sd_ifn c_1 h
      refine lv_aload_n hx hb dX1_openAll_15 rfl (lv_at hl 0 rfl) ?_
      refine lv_aload_n hx hb dX1_openAll_16 rfl (lv_at hl 1 rfl) ?_
      refine sd_g8_1 (k := k1) C X hk1 sd_w29_2 dX1_openAll_17 ?_
      refine lv_iload_n hx hb dX1_openAll_20 rfl (lv_at hl 2 rfl) ?_
      obtain ⟨b_4, v_4, e_4, h⟩ := sd_ld_some h
      refine sd_iald C X (sd_k8_1 hk1) b_4 dX1_openAll_21 (sd_nmi e_4 ?_)
      refine lv_iload_n hx hb dX1_openAll_22 rfl (lv_at hl 2 rfl) ?_
      obtain ⟨r_6, S_5, er_6, h⟩ := sd_cl_some h
      refine k_X1_addToYear C X hl.1 hk0 er_6 sd_w29_5 (by decide) (Nat.le_of_ble_eq_true rfl) dX1_openAll_23 (fun H locs X => ?_)
      refine lv_aload_n hx hb dX1_openAll_26 rfl (lv_at hl 1 rfl) ?_
      refine sd_g8_15 C X hk1 sd_w29_3 dX1_openAll_27 ?_
      refine lv_if_eq (tgt := 44) hx hb dX1_openAll_30 (by decide) (fun c_7 => ?_) (fun c_7 => ?_)
      · have h := sd_ifp c_7 h
        exact t_X1_openAll_b44 C hk0 hk1 ih x2 S_5 _ _ _ h X (lv_sub hl [0, 1, 2] rfl)
      · have h := sd_ifn c_7 h
        refine lv_aload_n hx hb dX1_openAll_33 rfl (lv_at hl 0 rfl) ?_
        refine lv_aload_n hx hb dX1_openAll_34 rfl (lv_at hl 1 rfl) ?_
        refine sd_g8_2 (k := k1) C X hk1 sd_w29_4 dX1_openAll_35 ?_
        refine lv_iload_n hx hb dX1_openAll_38 rfl (lv_at hl 2 rfl) ?_
        obtain ⟨b_8, v_8, e_8, h⟩ := sd_ld_some h
        refine sd_iald C X (sd_k8_2 hk1) b_8 dX1_openAll_39 (sd_nmi e_8 ?_)
        refine lv_iload_n hx hb dX1_openAll_40 rfl (lv_at hl 2 rfl) ?_
        obtain ⟨r_10, S_9, er_10, h⟩ := sd_cl_some h
        refine k_X1_addToYear C X hl.1 hk0 er_10 sd_w29_5 (by decide) (Nat.le_of_ble_eq_true rfl) dX1_openAll_41 (fun H locs X => ?_)
        exact t_X1_openAll_b44 C hk0 hk1 ih x2 S_9 _ _ _ h X (lv_sub hl [0, 1, 2] rfl)
def f_X1_openAll (k0 : Nat) (k1 : Nat) (S : sd_St) : Option (Unit × sd_St) := sd_nm (sd_I S k0 4 (0 : Int32)) (fun S_11 => f_X1_openAll_l7 k0 k1 sd_FU (0 : Int32) S_11)
set_option maxHeartbeats 4000000 in
set_option maxRecDepth 100000 in
theorem c_X1_openAll {k0 : Nat} {k1 : Nat} (hk0 : sd_kd k0 = 1) (hk1 : sd_kd k1 = 8) {S S' : sd_St} (h : f_X1_openAll k0 k1 S = some ((), S')) : Met l yX1_openAll (Cond.code yX1_openAll cX1_openAll 3 none :: sd_wl) (sd_rm 3) (sd_P D cy ad A b0 [.ref (ad k0), .ref (ad k1)] S) (sd_Qv D cy ad A S') 0 0 A := by
  refine sd_met (by decide) (Nat.le_of_ble_eq_true rfl) (fun p e s m args below meth c ls C X hl => ?_)
  obtain ⟨hx, hb, -, hml, hown, hts, -, hG⟩ := id C
  replace C : sd_C RX1 cX1_openAll 3 none D cy ad A b0 p s m args meth c := C
  replace hl : lv_has ls 3 [(0, .ref (ad k0)), (1, .ref (ad k1))] := hl
  unfold f_X1_openAll at h
  refine lv_aload_n hx hb dX1_openAll_0 rfl (lv_at hl 0 rfl) ?_
  refine lv_iconst (v := (0 : Int32)) hx hb dX1_openAll_1 (by decide) ?_
  obtain ⟨S_11, eS_11, h⟩ := sd_nm_some h
  refine sd_p1_4 C X hk0 sd_w29_0 dX1_openAll_2 (fun H locs X => ?_)
  rw [← eS_11] at X
  refine lv_iconst (v := (0 : Int32)) hx hb dX1_openAll_5 (by decide) ?_
  refine lv_istore_n (lv' := [(2, .int (0 : Int32)), (0, .ref (ad k0)), (1, .ref (ad k1))]) hx hb dX1_openAll_6 rfl hl (by decide) rfl (fun ls hl => ?_)
  exact t_X1_openAll_l7 C hk0 hk1 sd_FU (0 : Int32) S_11 _ _ _ h X (lv_sub hl [1, 2, 0] rfl)
theorem k_X1_openAll (C : sd_C own cc nL rt D cy ad A b0 p s m args meth c) (X : sd_H D cy ad A s S H locs) (hls : ls.size = nL) {k0 : Nat} {k1 : Nat} {S2 : sd_St} (hk0 : sd_kd k0 = 1) (hk1 : sd_kd k1 = 8) (h : f_X1_openAll k0 k1 S = some ((), S2)) (hlink : Cond.methodLink own index yX1_openAll ∈ sd_wl) (hR : 4 ≤ R.frames ∧ 142 ≤ R.locals ∧ cells ≤ R.cells ∧ slots ≤ R.slots) (hst : (rest.map fun v => v.category).sum ≤ 8) (hdg : decode cc pc = .ok (.invokevirtual index, 3)) (kk : ∀ (H1 : Heap) (locs1 : List Loc), sd_H D cy ad A s S2 H1 locs1 → W p l e R s m args below meth c H1 locs1 cells slots Q (F0 m (pc + 3) ls rest)) : W p l e R s m args below meth c H locs cells slots Q (F0 m pc ls (.ref (ad k1) :: .ref (ad k0) :: rest)) :=
  sd_goV X (sd_runV C X hls (n := 1) (k := k0) (As := [.ref (ad k1)]) (c_X1_openAll (l := l) (b0 := b0) hk0 hk1 h) (sd_goodV hlink sd_w28_21 sd_w28_22 sd_w1_23 sd_w28_23) (ci := 1) rfl (by rw [hk0]; decide) (sd_c1 hk0) (by decide +kernel) rfl hR rfl hst hdg) kk
/-! ===== SecretDays$Doors.openOne(LSecretDays$Town;II)V ===== -/
def f_X1_openOne (k0 : Nat) (k1 : Nat) (x2 : Int32) (x3 : Int32) (S : sd_St) : Option (Unit × sd_St) := sd_nm (sd_I S k0 4 (0 : Int32)) (fun S_1 => sd_cl (f_X1_addToYear k0 x3 x2 S_1) (fun _ S_2 => sd_cl (f_X1_unfold k0 k1 S_2) (fun _ S_4 => (some ((), S_4)))))
set_option maxHeartbeats 4000000 in
set_option maxRecDepth 100000 in
theorem c_X1_openOne {k0 : Nat} {k1 : Nat} {x2 : Int32} {x3 : Int32} (hk0 : sd_kd k0 = 1) (hk1 : sd_kd k1 = 8) {S S' : sd_St} (h : f_X1_openOne k0 k1 x2 x3 S = some ((), S')) : Met l yX1_openOne (Cond.code yX1_openOne cX1_openOne 4 none :: sd_wl) (sd_rm 3) (sd_P D cy ad A b0 [.ref (ad k0), .ref (ad k1), .int x2, .int x3] S) (sd_Qv D cy ad A S') 0 0 A := by
  refine sd_met (by decide) (Nat.le_of_ble_eq_true rfl) (fun p e s m args below meth c ls C X hl => ?_)
  obtain ⟨hx, hb, -, hml, hown, hts, -, hG⟩ := id C
  replace C : sd_C RX1 cX1_openOne 4 none D cy ad A b0 p s m args meth c := C
  replace hl : lv_has ls 4 [(0, .ref (ad k0)), (1, .ref (ad k1)), (2, .int x2), (3, .int x3)] := hl
  unfold f_X1_openOne at h
  refine lv_aload_n hx hb dX1_openOne_0 rfl (lv_at hl 0 rfl) ?_
  refine lv_iconst (v := (0 : Int32)) hx hb dX1_openOne_1 (by decide) ?_
  obtain ⟨S_1, eS_1, h⟩ := sd_nm_some h
  refine sd_p1_4 C X hk0 sd_w29_0 dX1_openOne_2 (fun H locs X => ?_)
  rw [← eS_1] at X
  refine lv_aload_n hx hb dX1_openOne_5 rfl (lv_at hl 0 rfl) ?_
  refine lv_iload_n hx hb dX1_openOne_6 rfl (lv_at hl 3 rfl) ?_
  refine lv_iload_n hx hb dX1_openOne_7 rfl (lv_at hl 2 rfl) ?_
  obtain ⟨r_3, S_2, er_3, h⟩ := sd_cl_some h
  refine k_X1_addToYear C X hl.1 hk0 er_3 sd_w29_5 (by decide) (Nat.le_of_ble_eq_true rfl) dX1_openOne_8 (fun H locs X => ?_)
  refine lv_aload_n hx hb dX1_openOne_11 rfl (lv_at hl 0 rfl) ?_
  refine lv_aload_n hx hb dX1_openOne_12 rfl (lv_at hl 1 rfl) ?_
  obtain ⟨r_5, S_4, er_5, h⟩ := sd_cl_some h
  refine k_X1_unfold C X hl.1 hk0 hk1 er_5 sd_w29_10 (by decide) (Nat.le_of_ble_eq_true rfl) dX1_openOne_13 (fun H locs X => ?_)
  cases h
  exact sd_vret C X dX1_openOne_16
theorem k_X1_openOne (C : sd_C own cc nL rt D cy ad A b0 p s m args meth c) (X : sd_H D cy ad A s S H locs) (hls : ls.size = nL) {k0 : Nat} {k1 : Nat} {x2 : Int32} {x3 : Int32} {S2 : sd_St} (hk0 : sd_kd k0 = 1) (hk1 : sd_kd k1 = 8) (h : f_X1_openOne k0 k1 x2 x3 S = some ((), S2)) (hlink : Cond.methodLink own index yX1_openOne ∈ sd_wl) (hR : 4 ≤ R.frames ∧ 143 ≤ R.locals ∧ cells ≤ R.cells ∧ slots ≤ R.slots) (hst : (rest.map fun v => v.category).sum ≤ 8) (hdg : decode cc pc = .ok (.invokevirtual index, 3)) (kk : ∀ (H1 : Heap) (locs1 : List Loc), sd_H D cy ad A s S2 H1 locs1 → W p l e R s m args below meth c H1 locs1 cells slots Q (F0 m (pc + 3) ls rest)) : W p l e R s m args below meth c H locs cells slots Q (F0 m pc ls (.int x3 :: .int x2 :: .ref (ad k1) :: .ref (ad k0) :: rest)) :=
  sd_goV X (sd_runV C X hls (n := 3) (k := k0) (As := [.ref (ad k1), .int x2, .int x3]) (c_X1_openOne (l := l) (b0 := b0) hk0 hk1 h) (sd_goodV hlink sd_w43_1 sd_w43_2 sd_w1_23 sd_w43_3) (ci := 1) rfl (by rw [hk0]; decide) (sd_c1 hk0) (by decide +kernel) rfl hR rfl hst hdg) kk
/-! ===== SecretDays$Letting.forbid(II)V ===== -/
def f_X2_forbid (k0 : Nat) (x1 : Int32) (x2 : Int32) (S : sd_St) : Option (Unit × sd_St) := sd_nm (sd_I S k0 0 x1) (fun S_1 => sd_nm (sd_I S_1 k0 1 x2) (fun S_2 => (some ((), S_2))))
set_option maxHeartbeats 4000000 in
set_option maxRecDepth 100000 in
theorem c_X2_forbid {k0 : Nat} {x1 : Int32} {x2 : Int32} (hk0 : sd_kd k0 = 2) {S S' : sd_St} (h : f_X2_forbid k0 x1 x2 S = some ((), S')) : Met l yX2_forbid (Cond.code yX2_forbid cX2_forbid 3 none :: sd_wl) (sd_rm 0) (sd_P D cy ad A b0 [.ref (ad k0), .int x1, .int x2] S) (sd_Qv D cy ad A S') 0 0 A := by
  refine sd_met (by decide) (Nat.le_of_ble_eq_true rfl) (fun p e s m args below meth c ls C X hl => ?_)
  obtain ⟨hx, hb, -, hml, hown, hts, -, hG⟩ := id C
  replace C : sd_C RX2 cX2_forbid 3 none D cy ad A b0 p s m args meth c := C
  replace hl : lv_has ls 3 [(0, .ref (ad k0)), (1, .int x1), (2, .int x2)] := hl
  unfold f_X2_forbid at h
  refine lv_aload_n hx hb dX2_forbid_0 rfl (lv_at hl 0 rfl) ?_
  refine lv_iload_n hx hb dX2_forbid_1 rfl (lv_at hl 1 rfl) ?_
  obtain ⟨S_1, eS_1, h⟩ := sd_nm_some h
  refine sd_p2_0 C X hk0 sd_w36_21 dX2_forbid_2 (fun H locs X => ?_)
  rw [← eS_1] at X
  refine lv_aload_n hx hb dX2_forbid_5 rfl (lv_at hl 0 rfl) ?_
  refine lv_iload_n hx hb dX2_forbid_6 rfl (lv_at hl 2 rfl) ?_
  obtain ⟨S_2, eS_2, h⟩ := sd_nm_some h
  refine sd_p2_1 C X hk0 sd_w36_22 dX2_forbid_7 (fun H locs X => ?_)
  rw [← eS_2] at X
  cases h
  exact sd_vret C X dX2_forbid_10
theorem k_X2_forbid (C : sd_C own cc nL rt D cy ad A b0 p s m args meth c) (X : sd_H D cy ad A s S H locs) (hls : ls.size = nL) {k0 : Nat} {x1 : Int32} {x2 : Int32} {S2 : sd_St} (hk0 : sd_kd k0 = 2) (h : f_X2_forbid k0 x1 x2 S = some ((), S2)) (hlink : Cond.methodLink own index yX2_forbid ∈ sd_wl) (hR : 1 ≤ R.frames ∧ 22 ≤ R.locals ∧ cells ≤ R.cells ∧ slots ≤ R.slots) (hst : (rest.map fun v => v.category).sum ≤ 8) (hdg : decode cc pc = .ok (.invokevirtual index, 3)) (kk : ∀ (H1 : Heap) (locs1 : List Loc), sd_H D cy ad A s S2 H1 locs1 → W p l e R s m args below meth c H1 locs1 cells slots Q (F0 m (pc + 3) ls rest)) : W p l e R s m args below meth c H locs cells slots Q (F0 m pc ls (.int x2 :: .int x1 :: .ref (ad k0) :: rest)) :=
  sd_goV X (sd_runV C X hls (n := 2) (k := k0) (As := [.int x1, .int x2]) (c_X2_forbid (l := l) (b0 := b0) hk0 h) (sd_goodV hlink sd_w36_18 sd_w36_19 sd_w2_8 sd_w36_20) (ci := 2) rfl (by rw [hk0]; decide) (sd_c2 hk0) (by decide +kernel) rfl hR rfl hst hdg) kk
/-! ===== SecretDays$Letting.welcome(LSecretDays$Doors;I)V ===== -/
def f_X2_welcome_b114 (q52 : (Int32 → Int32 → Int32 → sd_St → Option (Unit × sd_St))) (k0 : Nat) (k1 : Nat) (x3 : Int32) (x4 : Int32) (x5 : Int32) (S : sd_St) : Option (Unit × sd_St) := q52 x3 x4 (x5 + (1 : Int32)) S
set_option maxHeartbeats 4000000 in
set_option maxRecDepth 100000 in
theorem t_X2_welcome_b114 (C : sd_C RX2 cX2_welcome 7 none D cy ad A b0 p s m args meth c) {k0 : Nat} {k1 : Nat} (hk0 : sd_kd k0 = 2) (hk1 : sd_kd k1 = 1) {S' : sd_St} {q52 : (Int32 → Int32 → Int32 → sd_St → Option (Unit × sd_St))} (hq52 : ∀ (x3 : Int32) (x4 : Int32) (x5 : Int32) (S : sd_St) (H : Heap) (locs : List Loc) (ls : Array Slot), q52 x3 x4 x5 S = some ((), S') → sd_H D cy ad A s S H locs → lv_has ls 7 [(0, .ref (ad k0)), (3, .int x3), (4, .int x4), (5, .int x5)] → W p l e (sd_rm 1) s m args below meth c H locs 0 0 (MQ below (sd_Qv D cy ad A S') args s 0 0 A) (F0 m 52 ls [])) : ∀ (x3 : Int32) (x4 : Int32) (x5 : Int32) (S : sd_St) (H : Heap) (locs : List Loc) (ls : Array Slot), f_X2_welcome_b114 q52 k0 k1 x3 x4 x5 S = some ((), S') → sd_H D cy ad A s S H locs → lv_has ls 7 [(0, .ref (ad k0)), (3, .int x3), (4, .int x4), (5, .int x5)] → W p l e (sd_rm 1) s m args below meth c H locs 0 0 (MQ below (sd_Qv D cy ad A S') args s 0 0 A) (F0 m 114 ls []) := by
  obtain ⟨hx, hb, -, hml, hown, hts, -, hG⟩ := id C
  intro x3 x4 x5 S H locs ls h X hl
  unfold f_X2_welcome_b114 at h
  refine lv_iinc (v := (x5 + (1 : Int32))) (lv' := [(5, .int (x5 + (1 : Int32))), (0, .ref (ad k0)), (3, .int x3), (4, .int x4)]) hx hb dX2_welcome_114 hl (k := 3) rfl rfl (by decide) rfl (fun ls hl => ?_)
  refine lv_goto (tgt := 52) hx hb dX2_welcome_117 (by decide) ?_
  exact hq52 x3 x4 (x5 + (1 : Int32)) S _ _ _ h X (lv_sub hl [1, 2, 3, 0] rfl)
def f_X2_welcome_b87 (q52 : (Int32 → Int32 → Int32 → sd_St → Option (Unit × sd_St))) (k0 : Nat) (k1 : Nat) (x3 : Int32) (x4 : Int32) (x5 : Int32) (w0 : Int32) (S : sd_St) : Option (Unit × sd_St) := sd_cl (f_X11_has x4 x5 S) (fun r_2 S_1 => (if r_2 = 0 then f_X2_welcome_b114 q52 k0 k1 x3 x4 x5 S_1 else (if w0 = 0 then f_X2_welcome_b114 q52 k0 k1 x3 x4 x5 S_1 else sd_st S_1 (k0 + 2) x5 (x3 + (1 : Int32)) (fun S_5 => f_X2_welcome_b114 q52 k0 k1 x3 x4 x5 S_5))))
set_option maxHeartbeats 4000000 in
set_option maxRecDepth 100000 in
theorem t_X2_welcome_b87 (C : sd_C RX2 cX2_welcome 7 none D cy ad A b0 p s m args meth c) {k0 : Nat} {k1 : Nat} (hk0 : sd_kd k0 = 2) (hk1 : sd_kd k1 = 1) {S' : sd_St} {q52 : (Int32 → Int32 → Int32 → sd_St → Option (Unit × sd_St))} (hq52 : ∀ (x3 : Int32) (x4 : Int32) (x5 : Int32) (S : sd_St) (H : Heap) (locs : List Loc) (ls : Array Slot), q52 x3 x4 x5 S = some ((), S') → sd_H D cy ad A s S H locs → lv_has ls 7 [(0, .ref (ad k0)), (3, .int x3), (4, .int x4), (5, .int x5)] → W p l e (sd_rm 1) s m args below meth c H locs 0 0 (MQ below (sd_Qv D cy ad A S') args s 0 0 A) (F0 m 52 ls [])) : ∀ (x3 : Int32) (x4 : Int32) (x5 : Int32) (w0 : Int32) (S : sd_St) (H : Heap) (locs : List Loc) (ls : Array Slot), f_X2_welcome_b87 q52 k0 k1 x3 x4 x5 w0 S = some ((), S') → sd_H D cy ad A s S H locs → lv_has ls 7 [(0, .ref (ad k0)), (3, .int x3), (4, .int x4), (5, .int x5)] → W p l e (sd_rm 1) s m args below meth c H locs 0 0 (MQ below (sd_Qv D cy ad A S') args s 0 0 A) (F0 m 87 ls [.int w0]) := by
  obtain ⟨hx, hb, -, hml, hown, hts, -, hG⟩ := id C
  intro x3 x4 x5 w0 S H locs ls h X hl
  unfold f_X2_welcome_b87 at h
  refine lv_istore (lv' := [(6, .int w0), (0, .ref (ad k0)), (3, .int x3), (4, .int x4), (5, .int x5)]) hx hb dX2_welcome_87 hl (by decide) rfl (fun ls hl => ?_)
  refine lv_iload hx hb dX2_welcome_89 (lv_at hl 3 rfl) ?_
  refine lv_iload hx hb dX2_welcome_91 (lv_at hl 4 rfl) ?_
  obtain ⟨r_2, S_1, er_2, h⟩ := sd_cl_some h
  refine k_X11_has_n C X hl.1 er_2 (List.mem_of_getElem? (i := 15) rfl) (by decide) (Nat.le_of_ble_eq_true rfl) dX2_welcome_93 (fun H locs X => ?_)
  refine lv_if_eq (tgt := 114) hx hb dX2_welcome_96 (by decide) (fun c_3 => ?_) (fun c_3 => ?_)
  · have h := sd_ifp c_3 h
    exact t_X2_welcome_b114 C hk0 hk1 hq52 x3 x4 x5 S_1 _ _ _ h X (lv_sub hl [1, 2, 3, 4] rfl)
  · have h := sd_ifn c_3 h
    refine lv_iload hx hb dX2_welcome_99 (lv_at hl 0 rfl) ?_
    refine lv_if_eq (tgt := 114) hx hb dX2_welcome_101 (by decide) (fun c_4 => ?_) (fun c_4 => ?_)
    · have h := sd_ifp c_4 h
      exact t_X2_welcome_b114 C hk0 hk1 hq52 x3 x4 x5 S_1 _ _ _ h X (lv_sub hl [1, 2, 3, 4] rfl)
    · have h := sd_ifn c_4 h
      refine lv_aload_n hx hb dX2_welcome_104 rfl (lv_at hl 1 rfl) ?_
      refine sd_g2_3 (k := k0) C X hk0 sd_w5_8 dX2_welcome_105 ?_
      refine lv_iload hx hb dX2_welcome_108 (lv_at hl 4 rfl) ?_
      refine lv_iload_n hx hb dX2_welcome_110 rfl (lv_at hl 2 rfl) ?_
      refine lv_iconst (v := (1 : Int32)) hx hb dX2_welcome_111 (by decide) ?_
      refine lv_iadd hx hb dX2_welcome_112 ?_
      obtain ⟨bS_5, S_5, eS_5, h⟩ := sd_st_some h
      refine sd_iast C X (sd_k2_2 hk0) bS_5 dX2_welcome_113 (fun H locs X => ?_)
      rw [← eS_5] at X
      exact t_X2_welcome_b114 C hk0 hk1 hq52 x3 x4 x5 S_5 _ _ _ h X (lv_sub hl [1, 2, 3, 4] rfl)
def f_X2_welcome_b82 (q52 : (Int32 → Int32 → Int32 → sd_St → Option (Unit × sd_St))) (k0 : Nat) (k1 : Nat) (x3 : Int32) (x4 : Int32) (x5 : Int32) (S : sd_St) : Option (Unit × sd_St) := f_X2_welcome_b87 q52 k0 k1 x3 x4 x5 (1 : Int32) S
set_option maxHeartbeats 4000000 in
set_option maxRecDepth 100000 in
theorem t_X2_welcome_b82 (C : sd_C RX2 cX2_welcome 7 none D cy ad A b0 p s m args meth c) {k0 : Nat} {k1 : Nat} (hk0 : sd_kd k0 = 2) (hk1 : sd_kd k1 = 1) {S' : sd_St} {q52 : (Int32 → Int32 → Int32 → sd_St → Option (Unit × sd_St))} (hq52 : ∀ (x3 : Int32) (x4 : Int32) (x5 : Int32) (S : sd_St) (H : Heap) (locs : List Loc) (ls : Array Slot), q52 x3 x4 x5 S = some ((), S') → sd_H D cy ad A s S H locs → lv_has ls 7 [(0, .ref (ad k0)), (3, .int x3), (4, .int x4), (5, .int x5)] → W p l e (sd_rm 1) s m args below meth c H locs 0 0 (MQ below (sd_Qv D cy ad A S') args s 0 0 A) (F0 m 52 ls [])) : ∀ (x3 : Int32) (x4 : Int32) (x5 : Int32) (S : sd_St) (H : Heap) (locs : List Loc) (ls : Array Slot), f_X2_welcome_b82 q52 k0 k1 x3 x4 x5 S = some ((), S') → sd_H D cy ad A s S H locs → lv_has ls 7 [(0, .ref (ad k0)), (3, .int x3), (4, .int x4), (5, .int x5)] → W p l e (sd_rm 1) s m args below meth c H locs 0 0 (MQ below (sd_Qv D cy ad A S') args s 0 0 A) (F0 m 82 ls []) := by
  obtain ⟨hx, hb, -, hml, hown, hts, -, hG⟩ := id C
  intro x3 x4 x5 S H locs ls h X hl
  unfold f_X2_welcome_b82 at h
  refine lv_iconst (v := (1 : Int32)) hx hb dX2_welcome_82 (by decide) ?_
  refine lv_goto (tgt := 87) hx hb dX2_welcome_83 (by decide) ?_
  exact t_X2_welcome_b87 C hk0 hk1 hq52 x3 x4 x5 (1 : Int32) S _ _ _ h X (lv_sub hl [0, 1, 2, 3] rfl)
def f_X2_welcome_l52 (k0 : Nat) (k1 : Nat) : Nat → Int32 → Int32 → Int32 → sd_St → Option (Unit × sd_St)
  | 0 => fun _ _ _ _ => none
  | n + 1 => fun x3 x4 x5 S => (if (12 : Int32) ≤ x5 then (some ((), S)) else sd_ld S (k0 + 2) x5 (fun v_7 => (if v_7 = 0 then f_X2_welcome_b82 (f_X2_welcome_l52 k0 k1 n) k0 k1 x3 x4 x5 S else sd_ld S (k0 + 2) x5 (fun v_9 => (if v_9 ≤ (x3 + (1 : Int32)) then f_X2_welcome_b87 (f_X2_welcome_l52 k0 k1 n) k0 k1 x3 x4 x5 (0 : Int32) S else f_X2_welcome_b82 (f_X2_welcome_l52 k0 k1 n) k0 k1 x3 x4 x5 S)))))
set_option maxHeartbeats 4000000 in
set_option maxRecDepth 100000 in
theorem t_X2_welcome_l52 (C : sd_C RX2 cX2_welcome 7 none D cy ad A b0 p s m args meth c) {k0 : Nat} {k1 : Nat} (hk0 : sd_kd k0 = 2) (hk1 : sd_kd k1 = 1) {S' : sd_St} : ∀ (n : Nat) (x3 : Int32) (x4 : Int32) (x5 : Int32) (S : sd_St) (H : Heap) (locs : List Loc) (ls : Array Slot), f_X2_welcome_l52 k0 k1 n x3 x4 x5 S = some ((), S') → sd_H D cy ad A s S H locs → lv_has ls 7 [(0, .ref (ad k0)), (3, .int x3), (4, .int x4), (5, .int x5)] → W p l e (sd_rm 1) s m args below meth c H locs 0 0 (MQ below (sd_Qv D cy ad A S') args s 0 0 A) (F0 m 52 ls []) := by
  obtain ⟨hx, hb, -, hml, hown, hts, -, hG⟩ := id C
  intro n
  induction n with
  | zero => intro x3 x4 x5 S H locs ls h; cases h
  | succ n ih =>
    intro x3 x4 x5 S H locs ls h X hl
    unfold f_X2_welcome_l52 at h
    refine lv_iload hx hb dX2_welcome_52 (lv_at hl 3 rfl) ?_
    refine lv_bipush (v := (12 : Int32)) hx hb dX2_welcome_54 (by decide) ?_
    refine lv_icmp_ge (tgt := 120) hx hb dX2_welcome_56 (by decide) (fun c_6 => ?_) (fun c_6 => ?_)
    · have h := sd_ifp c_6 h
      cases h
      exact sd_vret C X dX2_welcome_120
    · have h := sd_ifn c_6 h
      refine lv_aload_n hx hb dX2_welcome_59 rfl (lv_at hl 0 rfl) ?_
      refine sd_g2_3 (k := k0) C X hk0 sd_w5_8 dX2_welcome_60 ?_
      refine lv_iload hx hb dX2_welcome_63 (lv_at hl 3 rfl) ?_
      obtain ⟨b_7, v_7, e_7, h⟩ := sd_ld_some h
      refine sd_iald C X (sd_k2_2 hk0) b_7 dX2_welcome_65 (sd_nmi e_7 ?_)
      refine lv_if_eq (tgt := 82) hx hb dX2_welcome_66 (by decide) (fun c_8 => ?_) (fun c_8 => ?_)
      · have h := sd_ifp c_8 h
        exact t_X2_welcome_b82 C hk0 hk1 ih x3 x4 x5 S _ _ _ h X (lv_sub hl [0, 1, 2, 3] rfl)
      · have h := sd_ifn c_8 h
        refine lv_aload_n hx hb dX2_welcome_69 rfl (lv_at hl 0 rfl) ?_
        refine sd_g2_3 (k := k0) C X hk0 sd_w5_8 dX2_welcome_70 ?_
        refine lv_iload hx hb dX2_welcome_73 (lv_at hl 3 rfl) ?_
        obtain ⟨b_9, v_9, e_9, h⟩ := sd_ld_some h
        refine sd_iald C X (sd_k2_2 hk0) b_9 dX2_welcome_75 (sd_nmi e_9 ?_)
        refine lv_iload_n hx hb dX2_welcome_76 rfl (lv_at hl 1 rfl) ?_
        refine lv_iconst (v := (1 : Int32)) hx hb dX2_welcome_77 (by decide) ?_
        refine lv_iadd hx hb dX2_welcome_78 ?_
        refine lv_icmp_le (tgt := 86) hx hb dX2_welcome_79 (by decide) (fun c_10 => ?_) (fun c_10 => ?_)
        · have h := sd_ifp c_10 h
          refine lv_iconst (v := (0 : Int32)) hx hb dX2_welcome_86 (by decide) ?_
          exact t_X2_welcome_b87 C hk0 hk1 ih x3 x4 x5 (0 : Int32) S _ _ _ h X (lv_sub hl [0, 1, 2, 3] rfl)
        · have h := sd_ifn c_10 h
          exact t_X2_welcome_b82 C hk0 hk1 ih x3 x4 x5 S _ _ _ h X (lv_sub hl [0, 1, 2, 3] rfl)
def f_X2_welcome_b49 (k0 : Nat) (k1 : Nat) (x3 : Int32) (x4 : Int32) (S : sd_St) : Option (Unit × sd_St) := f_X2_welcome_l52 k0 k1 sd_FU x3 x4 (0 : Int32) S
set_option maxHeartbeats 4000000 in
set_option maxRecDepth 100000 in
theorem t_X2_welcome_b49 (C : sd_C RX2 cX2_welcome 7 none D cy ad A b0 p s m args meth c) {k0 : Nat} {k1 : Nat} (hk0 : sd_kd k0 = 2) (hk1 : sd_kd k1 = 1) {S' : sd_St} : ∀ (x3 : Int32) (x4 : Int32) (S : sd_St) (H : Heap) (locs : List Loc) (ls : Array Slot), f_X2_welcome_b49 k0 k1 x3 x4 S = some ((), S') → sd_H D cy ad A s S H locs → lv_has ls 7 [(0, .ref (ad k0)), (3, .int x3), (4, .int x4)] → W p l e (sd_rm 1) s m args below meth c H locs 0 0 (MQ below (sd_Qv D cy ad A S') args s 0 0 A) (F0 m 49 ls []) := by
  obtain ⟨hx, hb, -, hml, hown, hts, -, hG⟩ := id C
  intro x3 x4 S H locs ls h X hl
  unfold f_X2_welcome_b49 at h
  refine lv_iconst (v := (0 : Int32)) hx hb dX2_welcome_49 (by decide) ?_
  refine lv_istore (lv' := [(5, .int (0 : Int32)), (0, .ref (ad k0)), (3, .int x3), (4, .int x4)]) hx hb dX2_welcome_50 hl (by decide) rfl (fun ls hl => ?_)
  exact t_X2_welcome_l52 C hk0 hk1 sd_FU x3 x4 (0 : Int32) S _ _ _ h X (lv_sub hl [1, 2, 3, 0] rfl)
def f_X2_welcome (k0 : Nat) (k1 : Nat) (x2 : Int32) (S : sd_St) : Option (Unit × sd_St) := sd_ld S (k1 + 3) x2 (fun v_11 => sd_ld S (k0 + 1) v_11 (fun v_12 => (if v_12 = 0 then (some ((), S)) else sd_ld S (k1 + 4) x2 (fun v_14 => sd_ld S (k1 + 2) x2 (fun v_15 => (if (S.1 k0 1) ≤ v_15 then f_X2_welcome_b49 k0 k1 v_12 v_14 S else sd_nm ((v_14 &&& ((S.1 k0 0) ^^^ (-1 : Int32)))) (fun v_17 => f_X2_welcome_b49 k0 k1 v_12 v_17 S)))))))
set_option maxHeartbeats 4000000 in
set_option maxRecDepth 100000 in
theorem c_X2_welcome {k0 : Nat} {k1 : Nat} {x2 : Int32} (hk0 : sd_kd k0 = 2) (hk1 : sd_kd k1 = 1) {S S' : sd_St} (h : f_X2_welcome k0 k1 x2 S = some ((), S')) : Met l yX2_welcome (Cond.code yX2_welcome cX2_welcome 7 none :: sd_wl) (sd_rm 1) (sd_P D cy ad A b0 [.ref (ad k0), .ref (ad k1), .int x2] S) (sd_Qv D cy ad A S') 0 0 A := by
  refine sd_met (by decide) (Nat.le_of_ble_eq_true rfl) (fun p e s m args below meth c ls C X hl => ?_)
  obtain ⟨hx, hb, -, hml, hown, hts, -, hG⟩ := id C
  replace C : sd_C RX2 cX2_welcome 7 none D cy ad A b0 p s m args meth c := C
  replace hl : lv_has ls 7 [(0, .ref (ad k0)), (1, .ref (ad k1)), (2, .int x2)] := hl
  unfold f_X2_welcome at h
  refine lv_aload_n hx hb dX2_welcome_0 rfl (lv_at hl 0 rfl) ?_
  refine sd_g2_2 (k := k0) C X hk0 sd_w5_7 dX2_welcome_1 ?_
  refine lv_aload_n hx hb dX2_welcome_4 rfl (lv_at hl 1 rfl) ?_
  refine sd_g1_2 (k := k1) C X hk1 sd_w37_11 dX2_welcome_5 ?_
  refine lv_iload_n hx hb dX2_welcome_8 rfl (lv_at hl 2 rfl) ?_
  obtain ⟨b_11, v_11, e_11, h⟩ := sd_ld_some h
  refine sd_iald C X (sd_k1_3 hk1) b_11 dX2_welcome_9 (sd_nmi e_11 ?_)
  obtain ⟨b_12, v_12, e_12, h⟩ := sd_ld_some h
  refine sd_iald C X (sd_k2_1 hk0) b_12 dX2_welcome_10 (sd_nmi e_12 ?_)
  refine lv_istore_n (lv' := [(3, .int v_12), (0, .ref (ad k0)), (1, .ref (ad k1)), (2, .int x2)]) hx hb dX2_welcome_11 rfl hl (by decide) rfl (fun ls hl => ?_)
  refine lv_iload_n hx hb dX2_welcome_12 rfl (lv_at hl 0 rfl) ?_
  refine lv_if_ne (tgt := 17) hx hb dX2_welcome_13 (by decide) (fun c_13 => ?_) (fun c_13 => ?_)
  · have h := sd_ifn c_13 h
    refine lv_aload_n hx hb dX2_welcome_17 rfl (lv_at hl 2 rfl) ?_
    refine sd_g1_3 (k := k1) C X hk1 sd_w37_12 dX2_welcome_18 ?_
    refine lv_iload_n hx hb dX2_welcome_21 rfl (lv_at hl 3 rfl) ?_
    obtain ⟨b_14, v_14, e_14, h⟩ := sd_ld_some h
    refine sd_iald C X (sd_k1_4 hk1) b_14 dX2_welcome_22 (sd_nmi e_14 ?_)
    refine lv_istore (lv' := [(4, .int v_14), (3, .int v_12), (0, .ref (ad k0)), (1, .ref (ad k1)), (2, .int x2)]) hx hb dX2_welcome_23 hl (by decide) rfl (fun ls hl => ?_)
    refine lv_aload_n hx hb dX2_welcome_25 rfl (lv_at hl 3 rfl) ?_
    refine sd_g1_1 (k := k1) C X hk1 sd_w37_4 dX2_welcome_26 ?_
    refine lv_iload_n hx hb dX2_welcome_29 rfl (lv_at hl 4 rfl) ?_
    obtain ⟨b_15, v_15, e_15, h⟩ := sd_ld_some h
    refine sd_iald C X (sd_k1_2 hk1) b_15 dX2_welcome_30 (sd_nmi e_15 ?_)
    refine lv_aload_n hx hb dX2_welcome_31 rfl (lv_at hl 2 rfl) ?_
    refine sd_g2_1 C X hk0 sd_w36_22 dX2_welcome_32 ?_
    refine lv_icmp_ge (tgt := 49) hx hb dX2_welcome_35 (by decide) (fun c_16 => ?_) (fun c_16 => ?_)
    · have h := sd_ifp c_16 h
      exact t_X2_welcome_b49 C hk0 hk1 v_12 v_14 S _ _ _ h X (lv_sub hl [2, 1, 0] rfl)
    · have h := sd_ifn c_16 h
      refine lv_iload hx hb dX2_welcome_38 (lv_at hl 0 rfl) ?_
      refine lv_aload_n hx hb dX2_welcome_40 rfl (lv_at hl 2 rfl) ?_
      refine sd_g2_0 C X hk0 sd_w36_21 dX2_welcome_41 ?_
      refine lv_iconst (v := (-1 : Int32)) hx hb dX2_welcome_44 (by decide) ?_
      refine lv_ixor hx hb dX2_welcome_45 ?_
      refine lv_iand hx hb dX2_welcome_46 ?_
      obtain ⟨v_17, e_17, h⟩ := sd_nm_some h
      refine sd_nmi e_17 ?_
      refine lv_istore (lv' := [(4, .int v_17), (3, .int v_12), (0, .ref (ad k0)), (1, .ref (ad k1)), (2, .int x2)]) hx hb dX2_welcome_47 hl (by decide) rfl (fun ls hl => ?_)
      exact t_X2_welcome_b49 C hk0 hk1 v_12 v_17 S _ _ _ h X (lv_sub hl [2, 1, 0] rfl)
  · have h := sd_ifp c_13 h
    cases h
    exact sd_vret C X dX2_welcome_16
theorem k_X2_welcome (C : sd_C own cc nL rt D cy ad A b0 p s m args meth c) (X : sd_H D cy ad A s S H locs) (hls : ls.size = nL) {k0 : Nat} {k1 : Nat} {x2 : Int32} {S2 : sd_St} (hk0 : sd_kd k0 = 2) (hk1 : sd_kd k1 = 1) (h : f_X2_welcome k0 k1 x2 S = some ((), S2)) (hlink : Cond.methodLink own index yX2_welcome ∈ sd_wl) (hR : 2 ≤ R.frames ∧ 66 ≤ R.locals ∧ cells ≤ R.cells ∧ slots ≤ R.slots) (hst : (rest.map fun v => v.category).sum ≤ 8) (hdg : decode cc pc = .ok (.invokevirtual index, 3)) (kk : ∀ (H1 : Heap) (locs1 : List Loc), sd_H D cy ad A s S2 H1 locs1 → W p l e R s m args below meth c H1 locs1 cells slots Q (F0 m (pc + 3) ls rest)) : W p l e R s m args below meth c H locs cells slots Q (F0 m pc ls (.int x2 :: .ref (ad k1) :: .ref (ad k0) :: rest)) :=
  sd_goV X (sd_runV C X hls (n := 2) (k := k0) (As := [.ref (ad k1), .int x2]) (c_X2_welcome (l := l) (b0 := b0) hk0 hk1 h) (sd_goodV hlink sd_w37_8 sd_w37_9 sd_w2_8 sd_w37_10) (ci := 2) rfl (by rw [hk0]; decide) (sd_c2 hk0) (by decide +kernel) rfl hR rfl hst hdg) kk
/-! ===== SecretDays$Letting.fewest(LSecretDays$Doors;IIII)I ===== -/
def f_X2_fewest_b99 (q21 : (Int32 → Int32 → Int32 → Int32 → Int32 → sd_St → Option (Int32 × sd_St))) (k0 : Nat) (k1 : Nat) (x3 : Int32) (x4 : Int32) (x5 : Int32) (x6 : Int32) (x7 : Int32) (S : sd_St) : Option (Int32 × sd_St) := q21 x3 x4 x5 x6 (x7 + (1 : Int32)) S
set_option maxHeartbeats 4000000 in
set_option maxRecDepth 100000 in
theorem t_X2_fewest_b99 (C : sd_C RX2 cX2_fewest 8 (some .int) D cy ad A b0 p s m args meth c) {k0 : Nat} {k1 : Nat} (hk0 : sd_kd k0 = 2) (hk1 : sd_kd k1 = 1) {r : Int32} {S' : sd_St} {q21 : (Int32 → Int32 → Int32 → Int32 → Int32 → sd_St → Option (Int32 × sd_St))} (hq21 : ∀ (x3 : Int32) (x4 : Int32) (x5 : Int32) (x6 : Int32) (x7 : Int32) (S : sd_St) (H : Heap) (locs : List Loc) (ls : Array Slot), q21 x3 x4 x5 x6 x7 S = some (r, S') → sd_H D cy ad A s S H locs → lv_has ls 8 [(0, .ref (ad k0)), (1, .ref (ad k1)), (3, .int x3), (4, .int x4), (5, .int x5), (6, .int x6), (7, .int x7)] → W p l e (sd_rm 2) s m args below meth c H locs 0 0 (MQ below (sd_Qi D cy ad A r S') args s 0 0 A) (F0 m 21 ls [])) : ∀ (x3 : Int32) (x4 : Int32) (x5 : Int32) (x6 : Int32) (x7 : Int32) (S : sd_St) (H : Heap) (locs : List Loc) (ls : Array Slot), f_X2_fewest_b99 q21 k0 k1 x3 x4 x5 x6 x7 S = some (r, S') → sd_H D cy ad A s S H locs → lv_has ls 8 [(0, .ref (ad k0)), (1, .ref (ad k1)), (3, .int x3), (4, .int x4), (5, .int x5), (6, .int x6), (7, .int x7)] → W p l e (sd_rm 2) s m args below meth c H locs 0 0 (MQ below (sd_Qi D cy ad A r S') args s 0 0 A) (F0 m 99 ls []) := by
  obtain ⟨hx, hb, -, hml, hown, hts, -, hG⟩ := id C
  intro x3 x4 x5 x6 x7 S H locs ls h X hl
  unfold f_X2_fewest_b99 at h
  refine lv_iinc (v := (x7 + (1 : Int32))) (lv' := [(7, .int (x7 + (1 : Int32))), (0, .ref (ad k0)), (1, .ref (ad k1)), (3, .int x3), (4, .int x4), (5, .int x5), (6, .int x6)]) hx hb dX2_fewest_99 hl (k := 6) rfl rfl (by decide) rfl (fun ls hl => ?_)
  refine lv_goto (tgt := 21) hx hb dX2_fewest_102 (by decide) ?_
  exact hq21 x3 x4 x5 x6 (x7 + (1 : Int32)) S _ _ _ h X (lv_sub hl [1, 2, 3, 4, 5, 6, 0] rfl)
def f_X2_fewest_b92 (q21 : (Int32 → Int32 → Int32 → Int32 → Int32 → sd_St → Option (Int32 × sd_St))) (k0 : Nat) (k1 : Nat) (x3 : Int32) (x4 : Int32) (x5 : Int32) (x6 : Int32) (x7 : Int32) (S : sd_St) : Option (Int32 × sd_St) := sd_cl (f_X2_welcome k0 k1 x7 S) (fun _ S_1 => f_X2_fewest_b99 q21 k0 k1 x3 x4 x5 x6 x7 S_1)
set_option maxHeartbeats 4000000 in
set_option maxRecDepth 100000 in
theorem t_X2_fewest_b92 (C : sd_C RX2 cX2_fewest 8 (some .int) D cy ad A b0 p s m args meth c) {k0 : Nat} {k1 : Nat} (hk0 : sd_kd k0 = 2) (hk1 : sd_kd k1 = 1) {r : Int32} {S' : sd_St} {q21 : (Int32 → Int32 → Int32 → Int32 → Int32 → sd_St → Option (Int32 × sd_St))} (hq21 : ∀ (x3 : Int32) (x4 : Int32) (x5 : Int32) (x6 : Int32) (x7 : Int32) (S : sd_St) (H : Heap) (locs : List Loc) (ls : Array Slot), q21 x3 x4 x5 x6 x7 S = some (r, S') → sd_H D cy ad A s S H locs → lv_has ls 8 [(0, .ref (ad k0)), (1, .ref (ad k1)), (3, .int x3), (4, .int x4), (5, .int x5), (6, .int x6), (7, .int x7)] → W p l e (sd_rm 2) s m args below meth c H locs 0 0 (MQ below (sd_Qi D cy ad A r S') args s 0 0 A) (F0 m 21 ls [])) : ∀ (x3 : Int32) (x4 : Int32) (x5 : Int32) (x6 : Int32) (x7 : Int32) (S : sd_St) (H : Heap) (locs : List Loc) (ls : Array Slot), f_X2_fewest_b92 q21 k0 k1 x3 x4 x5 x6 x7 S = some (r, S') → sd_H D cy ad A s S H locs → lv_has ls 8 [(0, .ref (ad k0)), (1, .ref (ad k1)), (3, .int x3), (4, .int x4), (5, .int x5), (6, .int x6), (7, .int x7)] → W p l e (sd_rm 2) s m args below meth c H locs 0 0 (MQ below (sd_Qi D cy ad A r S') args s 0 0 A) (F0 m 92 ls []) := by
  obtain ⟨hx, hb, -, hml, hown, hts, -, hG⟩ := id C
  intro x3 x4 x5 x6 x7 S H locs ls h X hl
  unfold f_X2_fewest_b92 at h
  refine lv_aload_n hx hb dX2_fewest_92 rfl (lv_at hl 0 rfl) ?_
  refine lv_aload_n hx hb dX2_fewest_93 rfl (lv_at hl 1 rfl) ?_
  refine lv_iload hx hb dX2_fewest_94 (lv_at hl 6 rfl) ?_
  obtain ⟨r_2, S_1, er_2, h⟩ := sd_cl_some h
  refine k_X2_welcome C X hl.1 hk0 hk1 er_2 sd_w37_7 (by decide) (Nat.le_of_ble_eq_true rfl) dX2_fewest_96 (fun H locs X => ?_)
  exact t_X2_fewest_b99 C hk0 hk1 hq21 x3 x4 x5 x6 x7 S_1 _ _ _ h X (lv_sub hl [0, 1, 2, 3, 4, 5, 6] rfl)
def f_X2_fewest_b105 (k0 : Nat) (k1 : Nat) (x4 : Int32) (S : sd_St) : Option (Int32 × sd_St) := sd_ld S (k0 + 2) x4 (fun v_3 => (if v_3 = 0 then (some ((-1 : Int32), S)) else sd_ld S (k0 + 2) x4 (fun v_5 => (some (v_5, S)))))
set_option maxHeartbeats 4000000 in
set_option maxRecDepth 100000 in
theorem t_X2_fewest_b105 (C : sd_C RX2 cX2_fewest 8 (some .int) D cy ad A b0 p s m args meth c) {k0 : Nat} {k1 : Nat} (hk0 : sd_kd k0 = 2) (hk1 : sd_kd k1 = 1) {r : Int32} {S' : sd_St} : ∀ (x4 : Int32) (S : sd_St) (H : Heap) (locs : List Loc) (ls : Array Slot), f_X2_fewest_b105 k0 k1 x4 S = some (r, S') → sd_H D cy ad A s S H locs → lv_has ls 8 [(0, .ref (ad k0)), (4, .int x4)] → W p l e (sd_rm 2) s m args below meth c H locs 0 0 (MQ below (sd_Qi D cy ad A r S') args s 0 0 A) (F0 m 105 ls []) := by
  obtain ⟨hx, hb, -, hml, hown, hts, -, hG⟩ := id C
  intro x4 S H locs ls h X hl
  unfold f_X2_fewest_b105 at h
  refine lv_aload_n hx hb dX2_fewest_105 rfl (lv_at hl 0 rfl) ?_
  refine sd_g2_3 (k := k0) C X hk0 sd_w5_8 dX2_fewest_106 ?_
  refine lv_iload hx hb dX2_fewest_109 (lv_at hl 1 rfl) ?_
  obtain ⟨b_3, v_3, e_3, h⟩ := sd_ld_some h
  refine sd_iald C X (sd_k2_2 hk0) b_3 dX2_fewest_111 (sd_nmi e_3 ?_)
  refine lv_if_ne (tgt := 119) hx hb dX2_fewest_112 (by decide) (fun c_4 => ?_) (fun c_4 => ?_)
  · have h := sd_ifn c_4 h
    refine lv_aload_n hx hb dX2_fewest_119 rfl (lv_at hl 0 rfl) ?_
    refine sd_g2_3 (k := k0) C X hk0 sd_w5_8 dX2_fewest_120 ?_
    refine lv_iload hx hb dX2_fewest_123 (lv_at hl 1 rfl) ?_
    obtain ⟨b_5, v_5, e_5, h⟩ := sd_ld_some h
    refine sd_iald C X (sd_k2_2 hk0) b_5 dX2_fewest_125 (sd_nmi e_5 ?_)
    cases h
    exact sd_iret C X dX2_fewest_126
  · have h := sd_ifp c_4 h
    refine lv_iconst (v := (-1 : Int32)) hx hb dX2_fewest_115 (by decide) ?_
    refine lv_goto (tgt := 126) hx hb dX2_fewest_116 (by decide) ?_
    cases h
    exact sd_iret C X dX2_fewest_126
def f_X2_fewest_l21 (k0 : Nat) (k1 : Nat) : Nat → Int32 → Int32 → Int32 → Int32 → Int32 → sd_St → Option (Int32 × sd_St)
  | 0 => fun _ _ _ _ _ _ => none
  | n + 1 => fun x3 x4 x5 x6 x7 S => (if (S.1 k1 0) ≤ x7 then f_X2_fewest_b105 k0 k1 x4 S else sd_ld S (k1 + 2) x7 (fun v_7 => (if x5 < v_7 then f_X2_fewest_b105 k0 k1 x4 S else sd_ld S (k1 + 2) x7 (fun v_9 => (if x3 ≤ v_9 then sd_ld S (k1 + 2) x7 (fun v_11 => (if v_11 = x6 then f_X2_fewest_b92 (f_X2_fewest_l21 k0 k1 n) k0 k1 x3 x4 x5 x6 x7 S else sd_ld S (k1 + 2) x7 (fun v_13 => sd_cp S (k0 + 2) (0 : Int32) (k0 + 1) (0 : Int32) (12 : Int32) (fun S_14 => f_X2_fewest_b92 (f_X2_fewest_l21 k0 k1 n) k0 k1 x3 x4 x5 v_13 x7 S_14)))) else f_X2_fewest_b99 (f_X2_fewest_l21 k0 k1 n) k0 k1 x3 x4 x5 x6 x7 S)))))
set_option maxHeartbeats 4000000 in
set_option maxRecDepth 100000 in
theorem t_X2_fewest_l21 (C : sd_C RX2 cX2_fewest 8 (some .int) D cy ad A b0 p s m args meth c) {k0 : Nat} {k1 : Nat} (hk0 : sd_kd k0 = 2) (hk1 : sd_kd k1 = 1) {r : Int32} {S' : sd_St} : ∀ (n : Nat) (x3 : Int32) (x4 : Int32) (x5 : Int32) (x6 : Int32) (x7 : Int32) (S : sd_St) (H : Heap) (locs : List Loc) (ls : Array Slot), f_X2_fewest_l21 k0 k1 n x3 x4 x5 x6 x7 S = some (r, S') → sd_H D cy ad A s S H locs → lv_has ls 8 [(0, .ref (ad k0)), (1, .ref (ad k1)), (3, .int x3), (4, .int x4), (5, .int x5), (6, .int x6), (7, .int x7)] → W p l e (sd_rm 2) s m args below meth c H locs 0 0 (MQ below (sd_Qi D cy ad A r S') args s 0 0 A) (F0 m 21 ls []) := by
  obtain ⟨hx, hb, -, hml, hown, hts, -, hG⟩ := id C
  intro n
  induction n with
  | zero => intro x3 x4 x5 x6 x7 S H locs ls h; cases h
  | succ n ih =>
    intro x3 x4 x5 x6 x7 S H locs ls h X hl
    unfold f_X2_fewest_l21 at h
    refine lv_iload hx hb dX2_fewest_21 (lv_at hl 6 rfl) ?_
    refine lv_aload_n hx hb dX2_fewest_23 rfl (lv_at hl 1 rfl) ?_
    refine sd_g1_0 C X hk1 sd_w37_3 dX2_fewest_24 ?_
    refine lv_icmp_ge (tgt := 105) hx hb dX2_fewest_27 (by decide) (fun c_6 => ?_) (fun c_6 => ?_)
    · have h := sd_ifp c_6 h
      exact t_X2_fewest_b105 C hk0 hk1 x4 S _ _ _ h X (lv_sub hl [0, 3] rfl)
    · have h := sd_ifn c_6 h
      refine lv_aload_n hx hb dX2_fewest_30 rfl (lv_at hl 1 rfl) ?_
      refine sd_g1_1 (k := k1) C X hk1 sd_w37_4 dX2_fewest_31 ?_
      refine lv_iload hx hb dX2_fewest_34 (lv_at hl 6 rfl) ?_
      obtain ⟨b_7, v_7, e_7, h⟩ := sd_ld_some h
      refine sd_iald C X (sd_k1_2 hk1) b_7 dX2_fewest_36 (sd_nmi e_7 ?_)
      refine lv_iload hx hb dX2_fewest_37 (lv_at hl 4 rfl) ?_
      refine lv_icmp_gt (tgt := 105) hx hb dX2_fewest_39 (by decide) (fun c_8 => ?_) (fun c_8 => ?_)
      · have h := sd_ifp c_8 h
        exact t_X2_fewest_b105 C hk0 hk1 x4 S _ _ _ h X (lv_sub hl [0, 3] rfl)
      · have h := sd_ifn c_8 h
        refine lv_aload_n hx hb dX2_fewest_42 rfl (lv_at hl 1 rfl) ?_
        refine sd_g1_1 (k := k1) C X hk1 sd_w37_4 dX2_fewest_43 ?_
        refine lv_iload hx hb dX2_fewest_46 (lv_at hl 6 rfl) ?_
        obtain ⟨b_9, v_9, e_9, h⟩ := sd_ld_some h
        refine sd_iald C X (sd_k1_2 hk1) b_9 dX2_fewest_48 (sd_nmi e_9 ?_)
        refine lv_iload_n hx hb dX2_fewest_49 rfl (lv_at hl 2 rfl) ?_
        refine lv_icmp_ge (tgt := 56) hx hb dX2_fewest_50 (by decide) (fun c_10 => ?_) (fun c_10 => ?_)
        · have h := sd_ifp c_10 h
          refine lv_aload_n hx hb dX2_fewest_56 rfl (lv_at hl 1 rfl) ?_
          refine sd_g1_1 (k := k1) C X hk1 sd_w37_4 dX2_fewest_57 ?_
          refine lv_iload hx hb dX2_fewest_60 (lv_at hl 6 rfl) ?_
          obtain ⟨b_11, v_11, e_11, h⟩ := sd_ld_some h
          refine sd_iald C X (sd_k1_2 hk1) b_11 dX2_fewest_62 (sd_nmi e_11 ?_)
          refine lv_iload hx hb dX2_fewest_63 (lv_at hl 5 rfl) ?_
          refine lv_icmp_eq (tgt := 92) hx hb dX2_fewest_65 (by decide) (fun c_12 => ?_) (fun c_12 => ?_)
          · have h := sd_ifp c_12 h
            exact t_X2_fewest_b92 C hk0 hk1 ih x3 x4 x5 x6 x7 S _ _ _ h X (lv_sub hl [0, 1, 2, 3, 4, 5, 6] rfl)
          · have h := sd_ifn c_12 h
            refine lv_aload_n hx hb dX2_fewest_68 rfl (lv_at hl 1 rfl) ?_
            refine sd_g1_1 (k := k1) C X hk1 sd_w37_4 dX2_fewest_69 ?_
            refine lv_iload hx hb dX2_fewest_72 (lv_at hl 6 rfl) ?_
            obtain ⟨b_13, v_13, e_13, h⟩ := sd_ld_some h
            refine sd_iald C X (sd_k1_2 hk1) b_13 dX2_fewest_74 (sd_nmi e_13 ?_)
            refine lv_istore (lv' := [(6, .int v_13), (0, .ref (ad k0)), (1, .ref (ad k1)), (3, .int x3), (4, .int x4), (5, .int x5), (7, .int x7)]) hx hb dX2_fewest_75 hl (by decide) rfl (fun ls hl => ?_)
            refine lv_aload_n hx hb dX2_fewest_77 rfl (lv_at hl 1 rfl) ?_
            refine sd_g2_3 (k := k0) C X hk0 sd_w5_8 dX2_fewest_78 ?_
            refine lv_iconst (v := (0 : Int32)) hx hb dX2_fewest_81 (by decide) ?_
            refine lv_aload_n hx hb dX2_fewest_82 rfl (lv_at hl 1 rfl) ?_
            refine sd_g2_2 (k := k0) C X hk0 sd_w5_7 dX2_fewest_83 ?_
            refine lv_iconst (v := (0 : Int32)) hx hb dX2_fewest_86 (by decide) ?_
            refine lv_bipush (v := (12 : Int32)) hx hb dX2_fewest_87 (by decide) ?_
            obtain ⟨bS_14, S_14, eS_14, h⟩ := sd_cp_some h
            refine sd_copy C X hl.1 (sd_k2_2 hk0) (sd_k2_1 hk0) sd_w37_5 bS_14.1 bS_14.2.1 bS_14.2.2.1 bS_14.2.2.2.1 bS_14.2.2.2.2 (by decide) (Nat.le_of_ble_eq_true rfl) dX2_fewest_89 (fun H locs X => ?_)
            rw [← eS_14] at X
            exact t_X2_fewest_b92 C hk0 hk1 ih x3 x4 x5 v_13 x7 S_14 _ _ _ h X (lv_sub hl [1, 2, 3, 4, 5, 0, 6] rfl)
        · have h := sd_ifn c_10 h
          refine lv_goto (tgt := 99) hx hb dX2_fewest_53 (by decide) ?_
          exact t_X2_fewest_b99 C hk0 hk1 ih x3 x4 x5 x6 x7 S _ _ _ h X (lv_sub hl [0, 1, 2, 3, 4, 5, 6] rfl)
def f_X2_fewest (k0 : Nat) (k1 : Nat) (x2 : Int32) (x3 : Int32) (x4 : Int32) (x5 : Int32) (S : sd_St) : Option (Int32 × sd_St) := sd_cl (f_J7_fill_53178 (k0 + 2) (0 : Int32) S) (fun _ S_15 => sd_st S_15 (k0 + 2) x2 (1 : Int32) (fun S_17 => f_X2_fewest_l21 k0 k1 sd_FU x3 x4 x5 (-1 : Int32) (0 : Int32) S_17))
set_option maxHeartbeats 4000000 in
set_option maxRecDepth 100000 in
theorem c_X2_fewest {k0 : Nat} {k1 : Nat} {x2 : Int32} {x3 : Int32} {x4 : Int32} {x5 : Int32} (hk0 : sd_kd k0 = 2) (hk1 : sd_kd k1 = 1) {S S' : sd_St} {r : Int32} (h : f_X2_fewest k0 k1 x2 x3 x4 x5 S = some (r, S')) : Met l yX2_fewest (Cond.code yX2_fewest cX2_fewest 8 (some .int) :: sd_wl) (sd_rm 2) (sd_P D cy ad A b0 [.ref (ad k0), .ref (ad k1), .int x2, .int x3, .int x4, .int x5] S) (sd_Qi D cy ad A r S') 0 0 A := by
  refine sd_met (by decide) (Nat.le_of_ble_eq_true rfl) (fun p e s m args below meth c ls C X hl => ?_)
  obtain ⟨hx, hb, -, hml, hown, hts, -, hG⟩ := id C
  replace C : sd_C RX2 cX2_fewest 8 (some .int) D cy ad A b0 p s m args meth c := C
  replace hl : lv_has ls 8 [(0, .ref (ad k0)), (1, .ref (ad k1)), (2, .int x2), (3, .int x3), (4, .int x4), (5, .int x5)] := hl
  unfold f_X2_fewest at h
  refine lv_aload_n hx hb dX2_fewest_0 rfl (lv_at hl 0 rfl) ?_
  refine sd_g2_3 (k := k0) C X hk0 sd_w5_8 dX2_fewest_1 ?_
  refine lv_iconst (v := (0 : Int32)) hx hb dX2_fewest_4 (by decide) ?_
  obtain ⟨r_16, S_15, er_16, h⟩ := sd_cl_some h
  refine k_J7_fill_53178 C X hl.1 (sd_k2_2 hk0) er_16 sd_w37_6 (by decide) (Nat.le_of_ble_eq_true rfl) dX2_fewest_5 (fun H locs X => ?_)
  refine lv_aload_n hx hb dX2_fewest_8 rfl (lv_at hl 0 rfl) ?_
  refine sd_g2_3 (k := k0) C X hk0 sd_w5_8 dX2_fewest_9 ?_
  refine lv_iload_n hx hb dX2_fewest_12 rfl (lv_at hl 2 rfl) ?_
  refine lv_iconst (v := (1 : Int32)) hx hb dX2_fewest_13 (by decide) ?_
  obtain ⟨bS_17, S_17, eS_17, h⟩ := sd_st_some h
  refine sd_iast C X (sd_k2_2 hk0) bS_17 dX2_fewest_14 (fun H locs X => ?_)
  rw [← eS_17] at X
  refine lv_iconst (v := (-1 : Int32)) hx hb dX2_fewest_15 (by decide) ?_
  refine lv_istore (lv' := [(6, .int (-1 : Int32)), (0, .ref (ad k0)), (1, .ref (ad k1)), (2, .int x2), (3, .int x3), (4, .int x4), (5, .int x5)]) hx hb dX2_fewest_16 hl (by decide) rfl (fun ls hl => ?_)
  refine lv_iconst (v := (0 : Int32)) hx hb dX2_fewest_18 (by decide) ?_
  refine lv_istore (lv' := [(7, .int (0 : Int32)), (6, .int (-1 : Int32)), (0, .ref (ad k0)), (1, .ref (ad k1)), (2, .int x2), (3, .int x3), (4, .int x4), (5, .int x5)]) hx hb dX2_fewest_19 hl (by decide) rfl (fun ls hl => ?_)
  exact t_X2_fewest_l21 C hk0 hk1 sd_FU x3 x4 x5 (-1 : Int32) (0 : Int32) S_17 _ _ _ h X (lv_sub hl [2, 3, 5, 6, 7, 1, 0] rfl)
theorem k_X2_fewest (C : sd_C own cc nL rt D cy ad A b0 p s m args meth c) (X : sd_H D cy ad A s S H locs) (hls : ls.size = nL) {k0 : Nat} {k1 : Nat} {x2 : Int32} {x3 : Int32} {x4 : Int32} {x5 : Int32} {S2 : sd_St} {r : Int32} (hk0 : sd_kd k0 = 2) (hk1 : sd_kd k1 = 1) (h : f_X2_fewest k0 k1 x2 x3 x4 x5 S = some (r, S2)) (hlink : Cond.methodLink own index yX2_fewest ∈ sd_wl) (hR : 3 ≤ R.frames ∧ 107 ≤ R.locals ∧ cells ≤ R.cells ∧ slots ≤ R.slots) (hst : (rest.map fun v => v.category).sum ≤ 8) (hdg : decode cc pc = .ok (.invokevirtual index, 3)) (kk : ∀ (H1 : Heap) (locs1 : List Loc), sd_H D cy ad A s S2 H1 locs1 → W p l e R s m args below meth c H1 locs1 cells slots Q (F0 m (pc + 3) ls (.int r :: rest))) : W p l e R s m args below meth c H locs cells slots Q (F0 m pc ls (.int x5 :: .int x4 :: .int x3 :: .int x2 :: .ref (ad k1) :: .ref (ad k0) :: rest)) :=
  sd_goI X (sd_runV C X hls (n := 5) (k := k0) (As := [.ref (ad k1), .int x2, .int x3, .int x4, .int x5]) (c_X2_fewest (l := l) (b0 := b0) hk0 hk1 h) (sd_goodV hlink sd_w37_0 sd_w37_1 sd_w2_8 sd_w37_2) (ci := 2) rfl (by rw [hk0]; decide) (sd_c2 hk0) (by decide +kernel) rfl hR rfl hst hdg) kk
/-! ===== SecretDays$Marks.wipe()V ===== -/
def f_X3_wipe_l2 (k0 : Nat) : Nat → Int32 → sd_St → Option (Unit × sd_St)
  | 0 => fun _ _ => none
  | n + 1 => fun x1 S => (if (4 : Int32) ≤ x1 then (some ((), S)) else sd_st S (k0 + 1) x1 (vp_nar .boolean (0 : Int32)) (fun S_2 => (f_X3_wipe_l2 k0 n) (x1 + (1 : Int32)) S_2))
set_option maxHeartbeats 4000000 in
set_option maxRecDepth 100000 in
theorem t_X3_wipe_l2 (C : sd_C RX3 cX3_wipe 2 none D cy ad A b0 p s m args meth c) {k0 : Nat} (hk0 : sd_kd k0 = 3) {S' : sd_St} : ∀ (n : Nat) (x1 : Int32) (S : sd_St) (H : Heap) (locs : List Loc) (ls : Array Slot), f_X3_wipe_l2 k0 n x1 S = some ((), S') → sd_H D cy ad A s S H locs → lv_has ls 2 [(0, .ref (ad k0)), (1, .int x1)] → W p l e (sd_rm 0) s m args below meth c H locs 0 0 (MQ below (sd_Qv D cy ad A S') args s 0 0 A) (F0 m 2 ls []) := by
  obtain ⟨hx, hb, -, hml, hown, hts, -, hG⟩ := id C
  intro n
  induction n with
  | zero => intro x1 S H locs ls h; cases h
  | succ n ih =>
    intro x1 S H locs ls h X hl
    unfold f_X3_wipe_l2 at h
    refine lv_iload_n hx hb dX3_wipe_2 rfl (lv_at hl 1 rfl) ?_
    refine lv_iconst (v := (4 : Int32)) hx hb dX3_wipe_3 (by decide) ?_
    refine lv_icmp_ge (tgt := 20) hx hb dX3_wipe_4 (by decide) (fun c_1 => ?_) (fun c_1 => ?_)
    · have h := sd_ifp c_1 h
      cases h
      exact sd_vret C X dX3_wipe_20
    · have h := sd_ifn c_1 h
      refine lv_aload_n hx hb dX3_wipe_7 rfl (lv_at hl 0 rfl) ?_
      refine sd_g3_0 (k := k0) C X hk0 sd_w6_11 dX3_wipe_8 ?_
      refine lv_iload_n hx hb dX3_wipe_11 rfl (lv_at hl 1 rfl) ?_
      refine lv_iconst (v := (0 : Int32)) hx hb dX3_wipe_12 (by decide) ?_
      obtain ⟨bS_2, S_2, eS_2, h⟩ := sd_st_some h
      refine sd_zast C X (sd_k3_1 hk0) bS_2 dX3_wipe_13 (fun H locs X => ?_)
      rw [← eS_2] at X
      refine lv_iinc (v := (x1 + (1 : Int32))) (lv' := [(1, .int (x1 + (1 : Int32))), (0, .ref (ad k0))]) hx hb dX3_wipe_14 hl (k := 1) rfl rfl (by decide) rfl (fun ls hl => ?_)
      refine lv_goto (tgt := 2) hx hb dX3_wipe_17 (by decide) ?_
      exact ih (x1 + (1 : Int32)) S_2 _ _ _ h X (lv_sub hl [1, 0] rfl)
def f_X3_wipe (k0 : Nat) (S : sd_St) : Option (Unit × sd_St) := f_X3_wipe_l2 k0 sd_FU (0 : Int32) S
set_option maxHeartbeats 4000000 in
set_option maxRecDepth 100000 in
theorem c_X3_wipe {k0 : Nat} (hk0 : sd_kd k0 = 3) {S S' : sd_St} (h : f_X3_wipe k0 S = some ((), S')) : Met l yX3_wipe (Cond.code yX3_wipe cX3_wipe 2 none :: sd_wl) (sd_rm 0) (sd_P D cy ad A b0 [.ref (ad k0)] S) (sd_Qv D cy ad A S') 0 0 A := by
  refine sd_met (by decide) (Nat.le_of_ble_eq_true rfl) (fun p e s m args below meth c ls C X hl => ?_)
  obtain ⟨hx, hb, -, hml, hown, hts, -, hG⟩ := id C
  replace C : sd_C RX3 cX3_wipe 2 none D cy ad A b0 p s m args meth c := C
  replace hl : lv_has ls 2 [(0, .ref (ad k0))] := hl
  unfold f_X3_wipe at h
  refine lv_iconst (v := (0 : Int32)) hx hb dX3_wipe_0 (by decide) ?_
  refine lv_istore_n (lv' := [(1, .int (0 : Int32)), (0, .ref (ad k0))]) hx hb dX3_wipe_1 rfl hl (by decide) rfl (fun ls hl => ?_)
  exact t_X3_wipe_l2 C hk0 sd_FU (0 : Int32) S _ _ _ h X (lv_sub hl [1, 0] rfl)
theorem k_X3_wipe (C : sd_C own cc nL rt D cy ad A b0 p s m args meth c) (X : sd_H D cy ad A s S H locs) (hls : ls.size = nL) {k0 : Nat} {S2 : sd_St} (hk0 : sd_kd k0 = 3) (h : f_X3_wipe k0 S = some ((), S2)) (hlink : Cond.methodLink own index yX3_wipe ∈ sd_wl) (hR : 1 ≤ R.frames ∧ 21 ≤ R.locals ∧ cells ≤ R.cells ∧ slots ≤ R.slots) (hst : (rest.map fun v => v.category).sum ≤ 8) (hdg : decode cc pc = .ok (.invokevirtual index, 3)) (kk : ∀ (H1 : Heap) (locs1 : List Loc), sd_H D cy ad A s S2 H1 locs1 → W p l e R s m args below meth c H1 locs1 cells slots Q (F0 m (pc + 3) ls rest)) : W p l e R s m args below meth c H locs cells slots Q (F0 m pc ls (.ref (ad k0) :: rest)) :=
  sd_goV X (sd_runV C X hls (n := 0) (k := k0) (As := []) (c_X3_wipe (l := l) (b0 := b0) hk0 h) (sd_goodV hlink sd_w18_3 sd_w18_4 sd_w3_0 sd_w18_5) (ci := 3) rfl (by rw [hk0]; decide) (sd_c3 hk0) (by decide +kernel) rfl hR rfl hst hdg) kk
/-! ===== SecretDays$Reports.copyFrom(LSecretDays$Reports;)V ===== -/
def f_X4_copyFrom_l10 (k0 : Nat) (k1 : Nat) : Nat → Int32 → sd_St → Option (Unit × sd_St)
  | 0 => fun _ _ => none
  | n + 1 => fun x2 S => (if (S.1 k0 0) ≤ x2 then (some ((), S)) else sd_ld S (k1 + 1) x2 (fun v_2 => sd_st S (k0 + 1) x2 v_2 (fun S_3 => sd_ld S_3 (k1 + 2) x2 (fun v_4 => sd_st S_3 (k0 + 2) x2 v_4 (fun S_5 => sd_ld S_5 (k1 + 3) x2 (fun v_6 => sd_st S_5 (k0 + 3) x2 v_6 (fun S_7 => sd_ld S_7 (k1 + 4) x2 (fun v_8 => sd_st S_7 (k0 + 4) x2 (vp_nar .boolean v_8) (fun S_9 => (f_X4_copyFrom_l10 k0 k1 n) (x2 + (1 : Int32)) S_9)))))))))
set_option maxHeartbeats 4000000 in
set_option maxRecDepth 100000 in
theorem t_X4_copyFrom_l10 (C : sd_C RX4 cX4_copyFrom 3 none D cy ad A b0 p s m args meth c) {k0 : Nat} {k1 : Nat} (hk0 : sd_kd k0 = 4) (hk1 : sd_kd k1 = 4) {S' : sd_St} : ∀ (n : Nat) (x2 : Int32) (S : sd_St) (H : Heap) (locs : List Loc) (ls : Array Slot), f_X4_copyFrom_l10 k0 k1 n x2 S = some ((), S') → sd_H D cy ad A s S H locs → lv_has ls 3 [(0, .ref (ad k0)), (1, .ref (ad k1)), (2, .int x2)] → W p l e (sd_rm 0) s m args below meth c H locs 0 0 (MQ below (sd_Qv D cy ad A S') args s 0 0 A) (F0 m 10 ls []) := by
  obtain ⟨hx, hb, -, hml, hown, hts, -, hG⟩ := id C
  intro n
  induction n with
  | zero => intro x2 S H locs ls h; cases h
  | succ n ih =>
    intro x2 S H locs ls h X hl
    unfold f_X4_copyFrom_l10 at h
    refine lv_iload_n hx hb dX4_copyFrom_10 rfl (lv_at hl 2 rfl) ?_
    refine lv_aload_n hx hb dX4_copyFrom_11 rfl (lv_at hl 0 rfl) ?_
    refine sd_g4_0 C X hk0 sd_w18_1 dX4_copyFrom_12 ?_
    refine lv_icmp_ge (tgt := 72) hx hb dX4_copyFrom_15 (by decide) (fun c_1 => ?_) (fun c_1 => ?_)
    · have h := sd_ifp c_1 h
      cases h
      exact sd_vret C X dX4_copyFrom_72
    · have h := sd_ifn c_1 h
      refine lv_aload_n hx hb dX4_copyFrom_18 rfl (lv_at hl 0 rfl) ?_
      refine sd_g4_1 (k := k0) C X hk0 sd_w6_3 dX4_copyFrom_19 ?_
      refine lv_iload_n hx hb dX4_copyFrom_22 rfl (lv_at hl 2 rfl) ?_
      refine lv_aload_n hx hb dX4_copyFrom_23 rfl (lv_at hl 1 rfl) ?_
      refine sd_g4_1 (k := k1) C X hk1 sd_w6_3 dX4_copyFrom_24 ?_
      refine lv_iload_n hx hb dX4_copyFrom_27 rfl (lv_at hl 2 rfl) ?_
      obtain ⟨b_2, v_2, e_2, h⟩ := sd_ld_some h
      refine sd_iald C X (sd_k4_1 hk1) b_2 dX4_copyFrom_28 (sd_nmi e_2 ?_)
      obtain ⟨bS_3, S_3, eS_3, h⟩ := sd_st_some h
      refine sd_iast C X (sd_k4_1 hk0) bS_3 dX4_copyFrom_29 (fun H locs X => ?_)
      rw [← eS_3] at X
      refine lv_aload_n hx hb dX4_copyFrom_30 rfl (lv_at hl 0 rfl) ?_
      refine sd_g4_2 (k := k0) C X hk0 sd_w6_4 dX4_copyFrom_31 ?_
      refine lv_iload_n hx hb dX4_copyFrom_34 rfl (lv_at hl 2 rfl) ?_
      refine lv_aload_n hx hb dX4_copyFrom_35 rfl (lv_at hl 1 rfl) ?_
      refine sd_g4_2 (k := k1) C X hk1 sd_w6_4 dX4_copyFrom_36 ?_
      refine lv_iload_n hx hb dX4_copyFrom_39 rfl (lv_at hl 2 rfl) ?_
      obtain ⟨b_4, v_4, e_4, h⟩ := sd_ld_some h
      refine sd_iald C X (sd_k4_2 hk1) b_4 dX4_copyFrom_40 (sd_nmi e_4 ?_)
      obtain ⟨bS_5, S_5, eS_5, h⟩ := sd_st_some h
      refine sd_iast C X (sd_k4_2 hk0) bS_5 dX4_copyFrom_41 (fun H locs X => ?_)
      rw [← eS_5] at X
      refine lv_aload_n hx hb dX4_copyFrom_42 rfl (lv_at hl 0 rfl) ?_
      refine sd_g4_3 (k := k0) C X hk0 sd_w6_5 dX4_copyFrom_43 ?_
      refine lv_iload_n hx hb dX4_copyFrom_46 rfl (lv_at hl 2 rfl) ?_
      refine lv_aload_n hx hb dX4_copyFrom_47 rfl (lv_at hl 1 rfl) ?_
      refine sd_g4_3 (k := k1) C X hk1 sd_w6_5 dX4_copyFrom_48 ?_
      refine lv_iload_n hx hb dX4_copyFrom_51 rfl (lv_at hl 2 rfl) ?_
      obtain ⟨b_6, v_6, e_6, h⟩ := sd_ld_some h
      refine sd_iald C X (sd_k4_3 hk1) b_6 dX4_copyFrom_52 (sd_nmi e_6 ?_)
      obtain ⟨bS_7, S_7, eS_7, h⟩ := sd_st_some h
      refine sd_iast C X (sd_k4_3 hk0) bS_7 dX4_copyFrom_53 (fun H locs X => ?_)
      rw [← eS_7] at X
      refine lv_aload_n hx hb dX4_copyFrom_54 rfl (lv_at hl 0 rfl) ?_
      refine sd_g4_4 (k := k0) C X hk0 sd_w6_6 dX4_copyFrom_55 ?_
      refine lv_iload_n hx hb dX4_copyFrom_58 rfl (lv_at hl 2 rfl) ?_
      refine lv_aload_n hx hb dX4_copyFrom_59 rfl (lv_at hl 1 rfl) ?_
      refine sd_g4_4 (k := k1) C X hk1 sd_w6_6 dX4_copyFrom_60 ?_
      refine lv_iload_n hx hb dX4_copyFrom_63 rfl (lv_at hl 2 rfl) ?_
      obtain ⟨b_8, v_8, e_8, h⟩ := sd_ld_some h
      refine sd_zald C X (sd_k4_4 hk1) b_8 dX4_copyFrom_64 (sd_nmi e_8 ?_)
      obtain ⟨bS_9, S_9, eS_9, h⟩ := sd_st_some h
      refine sd_zast C X (sd_k4_4 hk0) bS_9 dX4_copyFrom_65 (fun H locs X => ?_)
      rw [← eS_9] at X
      refine lv_iinc (v := (x2 + (1 : Int32))) (lv' := [(2, .int (x2 + (1 : Int32))), (0, .ref (ad k0)), (1, .ref (ad k1))]) hx hb dX4_copyFrom_66 hl (k := 2) rfl rfl (by decide) rfl (fun ls hl => ?_)
      refine lv_goto (tgt := 10) hx hb dX4_copyFrom_69 (by decide) ?_
      exact ih (x2 + (1 : Int32)) S_9 _ _ _ h X (lv_sub hl [1, 2, 0] rfl)
def f_X4_copyFrom (k0 : Nat) (k1 : Nat) (S : sd_St) : Option (Unit × sd_St) := sd_nm (sd_I S k0 0 (S.1 k1 0)) (fun S_10 => f_X4_copyFrom_l10 k0 k1 sd_FU (0 : Int32) S_10)
set_option maxHeartbeats 4000000 in
set_option maxRecDepth 100000 in
theorem c_X4_copyFrom {k0 : Nat} {k1 : Nat} (hk0 : sd_kd k0 = 4) (hk1 : sd_kd k1 = 4) {S S' : sd_St} (h : f_X4_copyFrom k0 k1 S = some ((), S')) : Met l yX4_copyFrom (Cond.code yX4_copyFrom cX4_copyFrom 3 none :: sd_wl) (sd_rm 0) (sd_P D cy ad A b0 [.ref (ad k0), .ref (ad k1)] S) (sd_Qv D cy ad A S') 0 0 A := by
  refine sd_met (by decide) (Nat.le_of_ble_eq_true rfl) (fun p e s m args below meth c ls C X hl => ?_)
  obtain ⟨hx, hb, -, hml, hown, hts, -, hG⟩ := id C
  replace C : sd_C RX4 cX4_copyFrom 3 none D cy ad A b0 p s m args meth c := C
  replace hl : lv_has ls 3 [(0, .ref (ad k0)), (1, .ref (ad k1))] := hl
  unfold f_X4_copyFrom at h
  refine lv_aload_n hx hb dX4_copyFrom_0 rfl (lv_at hl 0 rfl) ?_
  refine lv_aload_n hx hb dX4_copyFrom_1 rfl (lv_at hl 1 rfl) ?_
  refine sd_g4_0 C X hk1 sd_w18_1 dX4_copyFrom_2 ?_
  obtain ⟨S_10, eS_10, h⟩ := sd_nm_some h
  refine sd_p4_0 C X hk0 sd_w18_1 dX4_copyFrom_5 (fun H locs X => ?_)
  rw [← eS_10] at X
  refine lv_iconst (v := (0 : Int32)) hx hb dX4_copyFrom_8 (by decide) ?_
  refine lv_istore_n (lv' := [(2, .int (0 : Int32)), (0, .ref (ad k0)), (1, .ref (ad k1))]) hx hb dX4_copyFrom_9 rfl hl (by decide) rfl (fun ls hl => ?_)
  exact t_X4_copyFrom_l10 C hk0 hk1 sd_FU (0 : Int32) S_10 _ _ _ h X (lv_sub hl [1, 2, 0] rfl)
theorem k_X4_copyFrom (C : sd_C own cc nL rt D cy ad A b0 p s m args meth c) (X : sd_H D cy ad A s S H locs) (hls : ls.size = nL) {k0 : Nat} {k1 : Nat} {S2 : sd_St} (hk0 : sd_kd k0 = 4) (hk1 : sd_kd k1 = 4) (h : f_X4_copyFrom k0 k1 S = some ((), S2)) (hlink : Cond.methodLink own index yX4_copyFrom ∈ sd_wl) (hR : 1 ≤ R.frames ∧ 22 ≤ R.locals ∧ cells ≤ R.cells ∧ slots ≤ R.slots) (hst : (rest.map fun v => v.category).sum ≤ 8) (hdg : decode cc pc = .ok (.invokevirtual index, 3)) (kk : ∀ (H1 : Heap) (locs1 : List Loc), sd_H D cy ad A s S2 H1 locs1 → W p l e R s m args below meth c H1 locs1 cells slots Q (F0 m (pc + 3) ls rest)) : W p l e R s m args below meth c H locs cells slots Q (F0 m pc ls (.ref (ad k1) :: .ref (ad k0) :: rest)) :=
  sd_goV X (sd_runV C X hls (n := 1) (k := k0) (As := [.ref (ad k1)]) (c_X4_copyFrom (l := l) (b0 := b0) hk0 hk1 h) (sd_goodV hlink sd_w49_22 sd_w49_23 sd_w2_20 sd_w50_0) (ci := 4) rfl (by rw [hk0]; decide) (sd_c4 hk0) (by decide +kernel) rfl hR rfl hst hdg) kk
/-! ===== SecretDays$Marks.lay(ILSecretDays$Town;LSecretDays$Reports;)V ===== -/
def f_X3_lay (k0 : Nat) (k2 : Nat) (k3 : Nat) (x1 : Int32) (S : sd_St) : Option (Unit × sd_St) := sd_st S (k0 + 1) x1 (vp_nar .boolean (1 : Int32)) (fun S_1 => sd_st S_1 (k0 + 2) x1 (vp_nar .boolean (S_1.1 k2 15)) (fun S_2 => sd_in x1 (sd_al (k0 + 3)) (sd_nm (81 + 5 * x1.toNatClampNeg) (fun q_4 => sd_cl (f_X4_copyFrom q_4 k3 S_2) (fun _ S_5 => (some ((), S_5)))))))
set_option maxHeartbeats 4000000 in
set_option maxRecDepth 100000 in
theorem c_X3_lay {k0 : Nat} {k2 : Nat} {k3 : Nat} {x1 : Int32} (hk0 : sd_kd k0 = 3) (hk2 : sd_kd k2 = 8) (hk3 : sd_kd k3 = 4) {S S' : sd_St} (h : f_X3_lay k0 k2 k3 x1 S = some ((), S')) : Met l yX3_lay (Cond.code yX3_lay cX3_lay 4 none :: sd_wl) (sd_rm 1) (sd_P D cy ad A b0 [.ref (ad k0), .int x1, .ref (ad k2), .ref (ad k3)] S) (sd_Qv D cy ad A S') 0 0 A := by
  refine sd_met (by decide) (Nat.le_of_ble_eq_true rfl) (fun p e s m args below meth c ls C X hl => ?_)
  obtain ⟨hx, hb, -, hml, hown, hts, -, hG⟩ := id C
  replace C : sd_C RX3 cX3_lay 4 none D cy ad A b0 p s m args meth c := C
  replace hl : lv_has ls 4 [(0, .ref (ad k0)), (1, .int x1), (2, .ref (ad k2)), (3, .ref (ad k3))] := hl
  unfold f_X3_lay at h
  refine lv_aload_n hx hb dX3_lay_0 rfl (lv_at hl 0 rfl) ?_
  refine sd_g3_0 (k := k0) C X hk0 sd_w6_11 dX3_lay_1 ?_
  refine lv_iload_n hx hb dX3_lay_4 rfl (lv_at hl 1 rfl) ?_
  refine lv_iconst (v := (1 : Int32)) hx hb dX3_lay_5 (by decide) ?_
  obtain ⟨bS_1, S_1, eS_1, h⟩ := sd_st_some h
  refine sd_zast C X (sd_k3_1 hk0) bS_1 dX3_lay_6 (fun H locs X => ?_)
  rw [← eS_1] at X
  refine lv_aload_n hx hb dX3_lay_7 rfl (lv_at hl 0 rfl) ?_
  refine sd_g3_1 (k := k0) C X hk0 sd_w6_12 dX3_lay_8 ?_
  refine lv_iload_n hx hb dX3_lay_11 rfl (lv_at hl 1 rfl) ?_
  refine lv_aload_n hx hb dX3_lay_12 rfl (lv_at hl 2 rfl) ?_
  refine sd_g8_15 C X hk2 sd_w49_20 dX3_lay_13 ?_
  obtain ⟨bS_2, S_2, eS_2, h⟩ := sd_st_some h
  refine sd_zast C X (sd_k3_2 hk0) bS_2 dX3_lay_16 (fun H locs X => ?_)
  rw [← eS_2] at X
  refine lv_aload_n hx hb dX3_lay_17 rfl (lv_at hl 0 rfl) ?_
  refine sd_g3_2 (k := k0) C X hk0 sd_w6_14 dX3_lay_18 ?_
  refine lv_iload_n hx hb dX3_lay_21 rfl (lv_at hl 1 rfl) ?_
  obtain ⟨b_3, h⟩ := sd_in_some h
  obtain ⟨q_4, eq_4, h⟩ := sd_nm_some h
  have hq_4 : sd_kd q_4 = 4 := sd_e4 (sd_k3_3 hk0) b_3 eq_4
  refine sd_aald4 C X (sd_k3_3 hk0) b_3 dX3_lay_22 ?_
  rw [← eq_4]
  refine lv_aload_n hx hb dX3_lay_23 rfl (lv_at hl 3 rfl) ?_
  obtain ⟨r_6, S_5, er_6, h⟩ := sd_cl_some h
  refine k_X4_copyFrom C X hl.1 hq_4 hk3 er_6 sd_w49_21 (by decide) (Nat.le_of_ble_eq_true rfl) dX3_lay_24 (fun H locs X => ?_)
  cases h
  exact sd_vret C X dX3_lay_27
theorem k_X3_lay (C : sd_C own cc nL rt D cy ad A b0 p s m args meth c) (X : sd_H D cy ad A s S H locs) (hls : ls.size = nL) {k0 : Nat} {k2 : Nat} {k3 : Nat} {x1 : Int32} {S2 : sd_St} (hk0 : sd_kd k0 = 3) (hk2 : sd_kd k2 = 8) (hk3 : sd_kd k3 = 4) (h : f_X3_lay k0 k2 k3 x1 S = some ((), S2)) (hlink : Cond.methodLink own index yX3_lay ∈ sd_wl) (hR : 2 ≤ R.frames ∧ 63 ≤ R.locals ∧ cells ≤ R.cells ∧ slots ≤ R.slots) (hst : (rest.map fun v => v.category).sum ≤ 8) (hdg : decode cc pc = .ok (.invokevirtual index, 3)) (kk : ∀ (H1 : Heap) (locs1 : List Loc), sd_H D cy ad A s S2 H1 locs1 → W p l e R s m args below meth c H1 locs1 cells slots Q (F0 m (pc + 3) ls rest)) : W p l e R s m args below meth c H locs cells slots Q (F0 m pc ls (.ref (ad k3) :: .ref (ad k2) :: .int x1 :: .ref (ad k0) :: rest)) :=
  sd_goV X (sd_runV C X hls (n := 3) (k := k0) (As := [.int x1, .ref (ad k2), .ref (ad k3)]) (c_X3_lay (l := l) (b0 := b0) hk0 hk2 hk3 h) (sd_goodV hlink sd_w49_17 sd_w49_18 sd_w3_0 sd_w49_19) (ci := 3) rfl (by rw [hk0]; decide) (sd_c3 hk0) (by decide +kernel) rfl hR rfl hst hdg) kk
/-! ===== SecretDays$Marks.goBack(ILSecretDays$Town;LSecretDays$Reports;)V ===== -/
def f_X3_goBack (k0 : Nat) (k2 : Nat) (k3 : Nat) (x1 : Int32) (S : sd_St) : Option (Unit × sd_St) := sd_ld S (k0 + 2) x1 (fun v_1 => sd_ckz v_1 (sd_nm (sd_I S k2 15 v_1) (fun S_3 => sd_in x1 (sd_al (k0 + 3)) (sd_nm (81 + 5 * x1.toNatClampNeg) (fun q_5 => sd_cl (f_X4_copyFrom k3 q_5 S_3) (fun _ S_6 => (some ((), S_6))))))))
set_option maxHeartbeats 4000000 in
set_option maxRecDepth 100000 in
theorem c_X3_goBack {k0 : Nat} {k2 : Nat} {k3 : Nat} {x1 : Int32} (hk0 : sd_kd k0 = 3) (hk2 : sd_kd k2 = 8) (hk3 : sd_kd k3 = 4) {S S' : sd_St} (h : f_X3_goBack k0 k2 k3 x1 S = some ((), S')) : Met l yX3_goBack (Cond.code yX3_goBack cX3_goBack 4 none :: sd_wl) (sd_rm 1) (sd_P D cy ad A b0 [.ref (ad k0), .int x1, .ref (ad k2), .ref (ad k3)] S) (sd_Qv D cy ad A S') 0 0 A := by
  refine sd_met (by decide) (Nat.le_of_ble_eq_true rfl) (fun p e s m args below meth c ls C X hl => ?_)
  obtain ⟨hx, hb, -, hml, hown, hts, -, hG⟩ := id C
  replace C : sd_C RX3 cX3_goBack 4 none D cy ad A b0 p s m args meth c := C
  replace hl : lv_has ls 4 [(0, .ref (ad k0)), (1, .int x1), (2, .ref (ad k2)), (3, .ref (ad k3))] := hl
  unfold f_X3_goBack at h
  refine lv_aload_n hx hb dX3_goBack_0 rfl (lv_at hl 2 rfl) ?_
  refine lv_aload_n hx hb dX3_goBack_1 rfl (lv_at hl 0 rfl) ?_
  refine sd_g3_1 (k := k0) C X hk0 sd_w6_12 dX3_goBack_2 ?_
  refine lv_iload_n hx hb dX3_goBack_5 rfl (lv_at hl 1 rfl) ?_
  obtain ⟨b_1, v_1, e_1, h⟩ := sd_ld_some h
  refine sd_zald C X (sd_k3_2 hk0) b_1 dX3_goBack_6 (sd_nmi e_1 ?_)
  obtain ⟨z_2, h⟩ := sd_ckz_some h
  obtain ⟨S_3, eS_3, h⟩ := sd_nm_some h
  refine sd_p8_15 C X z_2 hk2 sd_w49_20 dX3_goBack_7 (fun H locs X => ?_)
  rw [← eS_3] at X
  refine lv_aload_n hx hb dX3_goBack_10 rfl (lv_at hl 3 rfl) ?_
  refine lv_aload_n hx hb dX3_goBack_11 rfl (lv_at hl 0 rfl) ?_
  refine sd_g3_2 (k := k0) C X hk0 sd_w6_14 dX3_goBack_12 ?_
  refine lv_iload_n hx hb dX3_goBack_15 rfl (lv_at hl 1 rfl) ?_
  obtain ⟨b_4, h⟩ := sd_in_some h
  obtain ⟨q_5, eq_5, h⟩ := sd_nm_some h
  have hq_5 : sd_kd q_5 = 4 := sd_e4 (sd_k3_3 hk0) b_4 eq_5
  refine sd_aald4 C X (sd_k3_3 hk0) b_4 dX3_goBack_16 ?_
  rw [← eq_5]
  obtain ⟨r_7, S_6, er_7, h⟩ := sd_cl_some h
  refine k_X4_copyFrom C X hl.1 hk3 hq_5 er_7 sd_w49_21 (by decide) (Nat.le_of_ble_eq_true rfl) dX3_goBack_17 (fun H locs X => ?_)
  cases h
  exact sd_vret C X dX3_goBack_20
theorem k_X3_goBack (C : sd_C own cc nL rt D cy ad A b0 p s m args meth c) (X : sd_H D cy ad A s S H locs) (hls : ls.size = nL) {k0 : Nat} {k2 : Nat} {k3 : Nat} {x1 : Int32} {S2 : sd_St} (hk0 : sd_kd k0 = 3) (hk2 : sd_kd k2 = 8) (hk3 : sd_kd k3 = 4) (h : f_X3_goBack k0 k2 k3 x1 S = some ((), S2)) (hlink : Cond.methodLink own index yX3_goBack ∈ sd_wl) (hR : 2 ≤ R.frames ∧ 63 ≤ R.locals ∧ cells ≤ R.cells ∧ slots ≤ R.slots) (hst : (rest.map fun v => v.category).sum ≤ 8) (hdg : decode cc pc = .ok (.invokevirtual index, 3)) (kk : ∀ (H1 : Heap) (locs1 : List Loc), sd_H D cy ad A s S2 H1 locs1 → W p l e R s m args below meth c H1 locs1 cells slots Q (F0 m (pc + 3) ls rest)) : W p l e R s m args below meth c H locs cells slots Q (F0 m pc ls (.ref (ad k3) :: .ref (ad k2) :: .int x1 :: .ref (ad k0) :: rest)) :=
  sd_goV X (sd_runV C X hls (n := 3) (k := k0) (As := [.int x1, .ref (ad k2), .ref (ad k3)]) (c_X3_goBack (l := l) (b0 := b0) hk0 hk2 hk3 h) (sd_goodV hlink sd_w50_2 sd_w50_3 sd_w3_0 sd_w50_4) (ci := 3) rfl (by rw [hk0]; decide) (sd_c3 hk0) (by decide +kernel) rfl hR rfl hst hdg) kk
/-! ===== SecretDays$Reports.add(IIIZ)V ===== -/
def f_X4_add (k0 : Nat) (x1 : Int32) (x2 : Int32) (x3 : Int32) (x4 : Int32) (S : sd_St) : Option (Unit × sd_St) := (if (16 : Int32) ≤ (S.1 k0 0) then (some ((), S)) else sd_st S (k0 + 1) (S.1 k0 0) x1 (fun S_2 => sd_st S_2 (k0 + 2) (S_2.1 k0 0) x2 (fun S_3 => sd_st S_3 (k0 + 3) (S_3.1 k0 0) x3 (fun S_4 => sd_st S_4 (k0 + 4) (S_4.1 k0 0) (vp_nar .boolean x4) (fun S_5 => sd_nm (sd_I S_5 k0 0 ((S_5.1 k0 0) + (1 : Int32))) (fun S_6 => (some ((), S_6))))))))
set_option maxHeartbeats 4000000 in
set_option maxRecDepth 100000 in
theorem c_X4_add {k0 : Nat} {x1 : Int32} {x2 : Int32} {x3 : Int32} {x4 : Int32} (hk0 : sd_kd k0 = 4) {S S' : sd_St} (h : f_X4_add k0 x1 x2 x3 x4 S = some ((), S')) : Met l yX4_add (Cond.code yX4_add cX4_add 5 none :: sd_wl) (sd_rm 0) (sd_P D cy ad A b0 [.ref (ad k0), .int x1, .int x2, .int x3, .int x4] S) (sd_Qv D cy ad A S') 0 0 A := by
  refine sd_met (by decide) (Nat.le_of_ble_eq_true rfl) (fun p e s m args below meth c ls C X hl => ?_)
  obtain ⟨hx, hb, -, hml, hown, hts, -, hG⟩ := id C
  replace C : sd_C RX4 cX4_add 5 none D cy ad A b0 p s m args meth c := C
  replace hl : lv_has ls 5 [(0, .ref (ad k0)), (1, .int x1), (2, .int x2), (3, .int x3), (4, .int x4)] := hl
  unfold f_X4_add at h
  refine lv_aload_n hx hb dX4_add_0 rfl (lv_at hl 0 rfl) ?_
  refine sd_g4_0 C X hk0 sd_w18_1 dX4_add_1 ?_
  refine lv_bipush (v := (16 : Int32)) hx hb dX4_add_4 (by decide) ?_
  refine lv_icmp_ge (tgt := 60) hx hb dX4_add_6 (by decide) (fun c_1 => ?_) (fun c_1 => ?_)
  · have h := sd_ifp c_1 h
    cases h
    exact sd_vret C X dX4_add_60
  · have h := sd_ifn c_1 h
    refine lv_aload_n hx hb dX4_add_9 rfl (lv_at hl 0 rfl) ?_
    refine sd_g4_1 (k := k0) C X hk0 sd_w6_3 dX4_add_10 ?_
    refine lv_aload_n hx hb dX4_add_13 rfl (lv_at hl 0 rfl) ?_
    refine sd_g4_0 C X hk0 sd_w18_1 dX4_add_14 ?_
    refine lv_iload_n hx hb dX4_add_17 rfl (lv_at hl 1 rfl) ?_
    obtain ⟨bS_2, S_2, eS_2, h⟩ := sd_st_some h
    refine sd_iast C X (sd_k4_1 hk0) bS_2 dX4_add_18 (fun H locs X => ?_)
    rw [← eS_2] at X
    refine lv_aload_n hx hb dX4_add_19 rfl (lv_at hl 0 rfl) ?_
    refine sd_g4_2 (k := k0) C X hk0 sd_w6_4 dX4_add_20 ?_
    refine lv_aload_n hx hb dX4_add_23 rfl (lv_at hl 0 rfl) ?_
    refine sd_g4_0 C X hk0 sd_w18_1 dX4_add_24 ?_
    refine lv_iload_n hx hb dX4_add_27 rfl (lv_at hl 2 rfl) ?_
    obtain ⟨bS_3, S_3, eS_3, h⟩ := sd_st_some h
    refine sd_iast C X (sd_k4_2 hk0) bS_3 dX4_add_28 (fun H locs X => ?_)
    rw [← eS_3] at X
    refine lv_aload_n hx hb dX4_add_29 rfl (lv_at hl 0 rfl) ?_
    refine sd_g4_3 (k := k0) C X hk0 sd_w6_5 dX4_add_30 ?_
    refine lv_aload_n hx hb dX4_add_33 rfl (lv_at hl 0 rfl) ?_
    refine sd_g4_0 C X hk0 sd_w18_1 dX4_add_34 ?_
    refine lv_iload_n hx hb dX4_add_37 rfl (lv_at hl 3 rfl) ?_
    obtain ⟨bS_4, S_4, eS_4, h⟩ := sd_st_some h
    refine sd_iast C X (sd_k4_3 hk0) bS_4 dX4_add_38 (fun H locs X => ?_)
    rw [← eS_4] at X
    refine lv_aload_n hx hb dX4_add_39 rfl (lv_at hl 0 rfl) ?_
    refine sd_g4_4 (k := k0) C X hk0 sd_w6_6 dX4_add_40 ?_
    refine lv_aload_n hx hb dX4_add_43 rfl (lv_at hl 0 rfl) ?_
    refine sd_g4_0 C X hk0 sd_w18_1 dX4_add_44 ?_
    refine lv_iload hx hb dX4_add_47 (lv_at hl 4 rfl) ?_
    obtain ⟨bS_5, S_5, eS_5, h⟩ := sd_st_some h
    refine sd_zast C X (sd_k4_4 hk0) bS_5 dX4_add_49 (fun H locs X => ?_)
    rw [← eS_5] at X
    refine lv_aload_n hx hb dX4_add_50 rfl (lv_at hl 0 rfl) ?_
    refine lv_dup hx hb dX4_add_51 rfl ?_
    refine sd_g4_0 C X hk0 sd_w18_1 dX4_add_52 ?_
    refine lv_iconst (v := (1 : Int32)) hx hb dX4_add_55 (by decide) ?_
    refine lv_iadd hx hb dX4_add_56 ?_
    obtain ⟨S_6, eS_6, h⟩ := sd_nm_some h
    refine sd_p4_0 C X hk0 sd_w18_1 dX4_add_57 (fun H locs X => ?_)
    rw [← eS_6] at X
    cases h
    exact sd_vret C X dX4_add_60
theorem k_X4_add (C : sd_C own cc nL rt D cy ad A b0 p s m args meth c) (X : sd_H D cy ad A s S H locs) (hls : ls.size = nL) {k0 : Nat} {x1 : Int32} {x2 : Int32} {x3 : Int32} {x4 : Int32} {S2 : sd_St} (hk0 : sd_kd k0 = 4) (h : f_X4_add k0 x1 x2 x3 x4 S = some ((), S2)) (hlink : Cond.methodLink own index yX4_add ∈ sd_wl) (hR : 1 ≤ R.frames ∧ 24 ≤ R.locals ∧ cells ≤ R.cells ∧ slots ≤ R.slots) (hst : (rest.map fun v => v.category).sum ≤ 8) (hdg : decode cc pc = .ok (.invokevirtual index, 3)) (kk : ∀ (H1 : Heap) (locs1 : List Loc), sd_H D cy ad A s S2 H1 locs1 → W p l e R s m args below meth c H1 locs1 cells slots Q (F0 m (pc + 3) ls rest)) : W p l e R s m args below meth c H locs cells slots Q (F0 m pc ls (.int x4 :: .int x3 :: .int x2 :: .int x1 :: .ref (ad k0) :: rest)) :=
  sd_goV X (sd_runV C X hls (n := 4) (k := k0) (As := [.int x1, .int x2, .int x3, .int x4]) (c_X4_add (l := l) (b0 := b0) hk0 h) (sd_goodV hlink sd_w43_20 sd_w43_21 sd_w2_20 sd_w43_22) (ci := 4) rfl (by rw [hk0]; decide) (sd_c4 hk0) (by decide +kernel) rfl hR rfl hst hdg) kk
/-! ===== SecretDays$Reports.wipe()V ===== -/
def f_X4_wipe (k0 : Nat) (S : sd_St) : Option (Unit × sd_St) := sd_nm (sd_I S k0 0 (0 : Int32)) (fun S_1 => (some ((), S_1)))
set_option maxHeartbeats 4000000 in
set_option maxRecDepth 100000 in
theorem c_X4_wipe {k0 : Nat} (hk0 : sd_kd k0 = 4) {S S' : sd_St} (h : f_X4_wipe k0 S = some ((), S')) : Met l yX4_wipe (Cond.code yX4_wipe cX4_wipe 1 none :: sd_wl) (sd_rm 0) (sd_P D cy ad A b0 [.ref (ad k0)] S) (sd_Qv D cy ad A S') 0 0 A := by
  refine sd_met (by decide) (Nat.le_of_ble_eq_true rfl) (fun p e s m args below meth c ls C X hl => ?_)
  obtain ⟨hx, hb, -, hml, hown, hts, -, hG⟩ := id C
  replace C : sd_C RX4 cX4_wipe 1 none D cy ad A b0 p s m args meth c := C
  replace hl : lv_has ls 1 [(0, .ref (ad k0))] := hl
  unfold f_X4_wipe at h
  refine lv_aload_n hx hb dX4_wipe_0 rfl (lv_at hl 0 rfl) ?_
  refine lv_iconst (v := (0 : Int32)) hx hb dX4_wipe_1 (by decide) ?_
  obtain ⟨S_1, eS_1, h⟩ := sd_nm_some h
  refine sd_p4_0 C X hk0 sd_w18_1 dX4_wipe_2 (fun H locs X => ?_)
  rw [← eS_1] at X
  cases h
  exact sd_vret C X dX4_wipe_5
theorem k_X4_wipe (C : sd_C own cc nL rt D cy ad A b0 p s m args meth c) (X : sd_H D cy ad A s S H locs) (hls : ls.size = nL) {k0 : Nat} {S2 : sd_St} (hk0 : sd_kd k0 = 4) (h : f_X4_wipe k0 S = some ((), S2)) (hlink : Cond.methodLink own index yX4_wipe ∈ sd_wl) (hR : 1 ≤ R.frames ∧ 20 ≤ R.locals ∧ cells ≤ R.cells ∧ slots ≤ R.slots) (hst : (rest.map fun v => v.category).sum ≤ 8) (hdg : decode cc pc = .ok (.invokevirtual index, 3)) (kk : ∀ (H1 : Heap) (locs1 : List Loc), sd_H D cy ad A s S2 H1 locs1 → W p l e R s m args below meth c H1 locs1 cells slots Q (F0 m (pc + 3) ls rest)) : W p l e R s m args below meth c H locs cells slots Q (F0 m pc ls (.ref (ad k0) :: rest)) :=
  sd_goV X (sd_runV C X hls (n := 0) (k := k0) (As := []) (c_X4_wipe (l := l) (b0 := b0) hk0 h) (sd_goodV hlink sd_w17_22 sd_w17_23 sd_w2_20 sd_w18_0) (ci := 4) rfl (by rw [hk0]; decide) (sd_c4 hk0) (by decide +kernel) rfl hR rfl hst hdg) kk
/-! ===== SecretDays$Reports.lastAbout(I)I ===== -/
def f_X4_lastAbout_b33 (q4 : (Int32 → Int32 → Int32 → sd_St → Option (Int32 × sd_St))) (k0 : Nat) (x1 : Int32) (x2 : Int32) (x3 : Int32) (S : sd_St) : Option (Int32 × sd_St) := q4 x1 x2 (x3 + (1 : Int32)) S
set_option maxHeartbeats 4000000 in
set_option maxRecDepth 100000 in
theorem t_X4_lastAbout_b33 (C : sd_C RX4 cX4_lastAbout 4 (some .int) D cy ad A b0 p s m args meth c) {k0 : Nat} (hk0 : sd_kd k0 = 4) {r : Int32} {S' : sd_St} {q4 : (Int32 → Int32 → Int32 → sd_St → Option (Int32 × sd_St))} (hq4 : ∀ (x1 : Int32) (x2 : Int32) (x3 : Int32) (S : sd_St) (H : Heap) (locs : List Loc) (ls : Array Slot), q4 x1 x2 x3 S = some (r, S') → sd_H D cy ad A s S H locs → lv_has ls 4 [(0, .ref (ad k0)), (1, .int x1), (2, .int x2), (3, .int x3)] → W p l e (sd_rm 1) s m args below meth c H locs 0 0 (MQ below (sd_Qi D cy ad A r S') args s 0 0 A) (F0 m 4 ls [])) : ∀ (x1 : Int32) (x2 : Int32) (x3 : Int32) (S : sd_St) (H : Heap) (locs : List Loc) (ls : Array Slot), f_X4_lastAbout_b33 q4 k0 x1 x2 x3 S = some (r, S') → sd_H D cy ad A s S H locs → lv_has ls 4 [(0, .ref (ad k0)), (1, .int x1), (2, .int x2), (3, .int x3)] → W p l e (sd_rm 1) s m args below meth c H locs 0 0 (MQ below (sd_Qi D cy ad A r S') args s 0 0 A) (F0 m 33 ls []) := by
  obtain ⟨hx, hb, -, hml, hown, hts, -, hG⟩ := id C
  intro x1 x2 x3 S H locs ls h X hl
  unfold f_X4_lastAbout_b33 at h
  refine lv_iinc (v := (x3 + (1 : Int32))) (lv' := [(3, .int (x3 + (1 : Int32))), (0, .ref (ad k0)), (1, .int x1), (2, .int x2)]) hx hb dX4_lastAbout_33 hl (k := 3) rfl rfl (by decide) rfl (fun ls hl => ?_)
  refine lv_goto (tgt := 4) hx hb dX4_lastAbout_36 (by decide) ?_
  exact hq4 x1 x2 (x3 + (1 : Int32)) S _ _ _ h X (lv_sub hl [1, 2, 3, 0] rfl)
def f_X4_lastAbout_l4 (k0 : Nat) : Nat → Int32 → Int32 → Int32 → sd_St → Option (Int32 × sd_St)
  | 0 => fun _ _ _ _ => none
  | n + 1 => fun x1 x2 x3 S => (if (S.1 k0 0) ≤ x3 then (some (x2, S)) else sd_ld S (k0 + 2) x3 (fun v_2 => (if v_2 = x1 then sd_ld S (k0 + 3) x3 (fun v_4 => sd_nm (sd_mx x2 v_4) (fun v_5 => f_X4_lastAbout_b33 (f_X4_lastAbout_l4 k0 n) k0 x1 v_5 x3 S)) else f_X4_lastAbout_b33 (f_X4_lastAbout_l4 k0 n) k0 x1 x2 x3 S)))
set_option maxHeartbeats 4000000 in
set_option maxRecDepth 100000 in
theorem t_X4_lastAbout_l4 (C : sd_C RX4 cX4_lastAbout 4 (some .int) D cy ad A b0 p s m args meth c) {k0 : Nat} (hk0 : sd_kd k0 = 4) {r : Int32} {S' : sd_St} : ∀ (n : Nat) (x1 : Int32) (x2 : Int32) (x3 : Int32) (S : sd_St) (H : Heap) (locs : List Loc) (ls : Array Slot), f_X4_lastAbout_l4 k0 n x1 x2 x3 S = some (r, S') → sd_H D cy ad A s S H locs → lv_has ls 4 [(0, .ref (ad k0)), (1, .int x1), (2, .int x2), (3, .int x3)] → W p l e (sd_rm 1) s m args below meth c H locs 0 0 (MQ below (sd_Qi D cy ad A r S') args s 0 0 A) (F0 m 4 ls []) := by
  obtain ⟨hx, hb, -, hml, hown, hts, -, hG⟩ := id C
  intro n
  induction n with
  | zero => intro x1 x2 x3 S H locs ls h; cases h
  | succ n ih =>
    intro x1 x2 x3 S H locs ls h X hl
    unfold f_X4_lastAbout_l4 at h
    refine lv_iload_n hx hb dX4_lastAbout_4 rfl (lv_at hl 3 rfl) ?_
    refine lv_aload_n hx hb dX4_lastAbout_5 rfl (lv_at hl 0 rfl) ?_
    refine sd_g4_0 C X hk0 sd_w18_1 dX4_lastAbout_6 ?_
    refine lv_icmp_ge (tgt := 39) hx hb dX4_lastAbout_9 (by decide) (fun c_1 => ?_) (fun c_1 => ?_)
    · have h := sd_ifp c_1 h
      refine lv_iload_n hx hb dX4_lastAbout_39 rfl (lv_at hl 2 rfl) ?_
      cases h
      exact sd_iret C X dX4_lastAbout_40
    · have h := sd_ifn c_1 h
      refine lv_aload_n hx hb dX4_lastAbout_12 rfl (lv_at hl 0 rfl) ?_
      refine sd_g4_2 (k := k0) C X hk0 sd_w6_4 dX4_lastAbout_13 ?_
      refine lv_iload_n hx hb dX4_lastAbout_16 rfl (lv_at hl 3 rfl) ?_
      obtain ⟨b_2, v_2, e_2, h⟩ := sd_ld_some h
      refine sd_iald C X (sd_k4_2 hk0) b_2 dX4_lastAbout_17 (sd_nmi e_2 ?_)
      refine lv_iload_n hx hb dX4_lastAbout_18 rfl (lv_at hl 1 rfl) ?_
      refine lv_icmp_ne (tgt := 33) hx hb dX4_lastAbout_19 (by decide) (fun c_3 => ?_) (fun c_3 => ?_)
      · have h := sd_ifn c_3 h
        exact t_X4_lastAbout_b33 C hk0 ih x1 x2 x3 S _ _ _ h X (lv_sub hl [0, 1, 2, 3] rfl)
      · have h := sd_ifp c_3 h
        refine lv_iload_n hx hb dX4_lastAbout_22 rfl (lv_at hl 2 rfl) ?_
        refine lv_aload_n hx hb dX4_lastAbout_23 rfl (lv_at hl 0 rfl) ?_
        refine sd_g4_3 (k := k0) C X hk0 sd_w6_5 dX4_lastAbout_24 ?_
        refine lv_iload_n hx hb dX4_lastAbout_27 rfl (lv_at hl 3 rfl) ?_
        obtain ⟨b_4, v_4, e_4, h⟩ := sd_ld_some h
        refine sd_iald C X (sd_k4_3 hk0) b_4 dX4_lastAbout_28 (sd_nmi e_4 ?_)
        obtain ⟨v_5, e_5, h⟩ := sd_nm_some h
        refine sd_max C hl.1 sd_w45_20 (by decide) (Nat.le_of_ble_eq_true rfl) dX4_lastAbout_29 (sd_nmi e_5 ?_)
        refine lv_istore_n (lv' := [(2, .int v_5), (0, .ref (ad k0)), (1, .int x1), (3, .int x3)]) hx hb dX4_lastAbout_32 rfl hl (by decide) rfl (fun ls hl => ?_)
        exact t_X4_lastAbout_b33 C hk0 ih x1 v_5 x3 S _ _ _ h X (lv_sub hl [1, 2, 0, 3] rfl)
def f_X4_lastAbout (k0 : Nat) (x1 : Int32) (S : sd_St) : Option (Int32 × sd_St) := f_X4_lastAbout_l4 k0 sd_FU x1 (-1 : Int32) (0 : Int32) S
set_option maxHeartbeats 4000000 in
set_option maxRecDepth 100000 in
theorem c_X4_lastAbout {k0 : Nat} {x1 : Int32} (hk0 : sd_kd k0 = 4) {S S' : sd_St} {r : Int32} (h : f_X4_lastAbout k0 x1 S = some (r, S')) : Met l yX4_lastAbout (Cond.code yX4_lastAbout cX4_lastAbout 4 (some .int) :: sd_wl) (sd_rm 1) (sd_P D cy ad A b0 [.ref (ad k0), .int x1] S) (sd_Qi D cy ad A r S') 0 0 A := by
  refine sd_met (by decide) (Nat.le_of_ble_eq_true rfl) (fun p e s m args below meth c ls C X hl => ?_)
  obtain ⟨hx, hb, -, hml, hown, hts, -, hG⟩ := id C
  replace C : sd_C RX4 cX4_lastAbout 4 (some .int) D cy ad A b0 p s m args meth c := C
  replace hl : lv_has ls 4 [(0, .ref (ad k0)), (1, .int x1)] := hl
  unfold f_X4_lastAbout at h
  refine lv_iconst (v := (-1 : Int32)) hx hb dX4_lastAbout_0 (by decide) ?_
  refine lv_istore_n (lv' := [(2, .int (-1 : Int32)), (0, .ref (ad k0)), (1, .int x1)]) hx hb dX4_lastAbout_1 rfl hl (by decide) rfl (fun ls hl => ?_)
  refine lv_iconst (v := (0 : Int32)) hx hb dX4_lastAbout_2 (by decide) ?_
  refine lv_istore_n (lv' := [(3, .int (0 : Int32)), (2, .int (-1 : Int32)), (0, .ref (ad k0)), (1, .int x1)]) hx hb dX4_lastAbout_3 rfl hl (by decide) rfl (fun ls hl => ?_)
  exact t_X4_lastAbout_l4 C hk0 sd_FU x1 (-1 : Int32) (0 : Int32) S _ _ _ h X (lv_sub hl [2, 3, 1, 0] rfl)
theorem k_X4_lastAbout (C : sd_C own cc nL rt D cy ad A b0 p s m args meth c) (X : sd_H D cy ad A s S H locs) (hls : ls.size = nL) {k0 : Nat} {x1 : Int32} {S2 : sd_St} {r : Int32} (hk0 : sd_kd k0 = 4) (h : f_X4_lastAbout k0 x1 S = some (r, S2)) (hlink : Cond.methodLink own index yX4_lastAbout ∈ sd_wl) (hR : 2 ≤ R.frames ∧ 63 ≤ R.locals ∧ cells ≤ R.cells ∧ slots ≤ R.slots) (hst : (rest.map fun v => v.category).sum ≤ 8) (hdg : decode cc pc = .ok (.invokevirtual index, 3)) (kk : ∀ (H1 : Heap) (locs1 : List Loc), sd_H D cy ad A s S2 H1 locs1 → W p l e R s m args below meth c H1 locs1 cells slots Q (F0 m (pc + 3) ls (.int r :: rest))) : W p l e R s m args below meth c H locs cells slots Q (F0 m pc ls (.int x1 :: .ref (ad k0) :: rest)) :=
  sd_goI X (sd_runV C X hls (n := 1) (k := k0) (As := [.int x1]) (c_X4_lastAbout (l := l) (b0 := b0) hk0 h) (sd_goodV hlink sd_w45_17 sd_w45_18 sd_w2_20 sd_w45_19) (ci := 4) rfl (by rw [hk0]; decide) (sd_c4 hk0) (by decide +kernel) rfl hR rfl hst hdg) kk
/-! ===== SecretDays$Rumour.had(I)I ===== -/
def f_X5_had (k0 : Nat) (x1 : Int32) (S : sd_St) : Option (Int32 × sd_St) := sd_ld S (k0 + 1) x1 (fun v_1 => (if v_1 = (4393 : Int32) then (some ((-1 : Int32), S)) else (if x1 = (S.1 k0 0) then sd_ld S (k0 + 1) x1 (fun v_5 => (some (v_5, S))) else sd_ld S (k0 + 1) x1 (fun v_4 => (some ((v_4 - (1 : Int32)), S))))))
set_option maxHeartbeats 4000000 in
set_option maxRecDepth 100000 in
theorem c_X5_had {k0 : Nat} {x1 : Int32} (hk0 : sd_kd k0 = 5) {S S' : sd_St} {r : Int32} (h : f_X5_had k0 x1 S = some (r, S')) : Met l yX5_had (Cond.code yX5_had cX5_had 2 (some .int) :: sd_wl) (sd_rm 0) (sd_P D cy ad A b0 [.ref (ad k0), .int x1] S) (sd_Qi D cy ad A r S') 0 0 A := by
  refine sd_met (by decide) (Nat.le_of_ble_eq_true rfl) (fun p e s m args below meth c ls C X hl => ?_)
  obtain ⟨hx, hb, -, hml, hown, hts, -, hG⟩ := id C
  replace C : sd_C RX5 cX5_had 2 (some .int) D cy ad A b0 p s m args meth c := C
  replace hl : lv_has ls 2 [(0, .ref (ad k0)), (1, .int x1)] := hl
  unfold f_X5_had at h
  refine lv_aload_n hx hb dX5_had_0 rfl (lv_at hl 0 rfl) ?_
  refine sd_g5_2 (k := k0) C X hk0 sd_w5_0 dX5_had_1 ?_
  refine lv_iload_n hx hb dX5_had_4 rfl (lv_at hl 1 rfl) ?_
  obtain ⟨b_1, v_1, e_1, h⟩ := sd_ld_some h
  refine sd_iald C X (sd_k5_1 hk0) b_1 dX5_had_5 (sd_nmi e_1 ?_)
  refine lv_sipush (v := (4393 : Int32)) hx hb dX5_had_6 (by decide) ?_
  refine lv_icmp_ne (tgt := 14) hx hb dX5_had_9 (by decide) (fun c_2 => ?_) (fun c_2 => ?_)
  · have h := sd_ifn c_2 h
    refine lv_iload_n hx hb dX5_had_14 rfl (lv_at hl 1 rfl) ?_
    refine lv_aload_n hx hb dX5_had_15 rfl (lv_at hl 0 rfl) ?_
    refine sd_g5_0 C X hk0 sd_w30_8 dX5_had_16 ?_
    refine lv_icmp_ne (tgt := 31) hx hb dX5_had_19 (by decide) (fun c_3 => ?_) (fun c_3 => ?_)
    · have h := sd_ifn c_3 h
      refine lv_aload_n hx hb dX5_had_31 rfl (lv_at hl 0 rfl) ?_
      refine sd_g5_2 (k := k0) C X hk0 sd_w5_0 dX5_had_32 ?_
      refine lv_iload_n hx hb dX5_had_35 rfl (lv_at hl 1 rfl) ?_
      obtain ⟨b_4, v_4, e_4, h⟩ := sd_ld_some h
      refine sd_iald C X (sd_k5_1 hk0) b_4 dX5_had_36 (sd_nmi e_4 ?_)
      refine lv_iconst (v := (1 : Int32)) hx hb dX5_had_37 (by decide) ?_
      refine lv_isub hx hb dX5_had_38 ?_
      cases h
      exact sd_iret C X dX5_had_39
    · have h := sd_ifp c_3 h
      refine lv_aload_n hx hb dX5_had_22 rfl (lv_at hl 0 rfl) ?_
      refine sd_g5_2 (k := k0) C X hk0 sd_w5_0 dX5_had_23 ?_
      refine lv_iload_n hx hb dX5_had_26 rfl (lv_at hl 1 rfl) ?_
      obtain ⟨b_5, v_5, e_5, h⟩ := sd_ld_some h
      refine sd_iald C X (sd_k5_1 hk0) b_5 dX5_had_27 (sd_nmi e_5 ?_)
      refine lv_goto (tgt := 39) hx hb dX5_had_28 (by decide) ?_
      cases h
      exact sd_iret C X dX5_had_39
  · have h := sd_ifp c_2 h
    refine lv_iconst (v := (-1 : Int32)) hx hb dX5_had_12 (by decide) ?_
    cases h
    exact sd_iret C X dX5_had_13
theorem k_X5_had (C : sd_C own cc nL rt D cy ad A b0 p s m args meth c) (X : sd_H D cy ad A s S H locs) (hls : ls.size = nL) {k0 : Nat} {x1 : Int32} {S2 : sd_St} {r : Int32} (hk0 : sd_kd k0 = 5) (h : f_X5_had k0 x1 S = some (r, S2)) (hlink : Cond.methodLink own index yX5_had ∈ sd_wl) (hR : 1 ≤ R.frames ∧ 21 ≤ R.locals ∧ cells ≤ R.cells ∧ slots ≤ R.slots) (hst : (rest.map fun v => v.category).sum ≤ 8) (hdg : decode cc pc = .ok (.invokevirtual index, 3)) (kk : ∀ (H1 : Heap) (locs1 : List Loc), sd_H D cy ad A s S2 H1 locs1 → W p l e R s m args below meth c H1 locs1 cells slots Q (F0 m (pc + 3) ls (.int r :: rest))) : W p l e R s m args below meth c H locs cells slots Q (F0 m pc ls (.int x1 :: .ref (ad k0) :: rest)) :=
  sd_goI X (sd_runV C X hls (n := 1) (k := k0) (As := [.int x1]) (c_X5_had (l := l) (b0 := b0) hk0 h) (sd_goodV hlink sd_w31_3 sd_w31_4 sd_w2_4 sd_w31_5) (ci := 5) rfl (by rw [hk0]; decide) (sd_c5 hk0) (by decide +kernel) rfl hR rfl hst hdg) kk
/-! ===== SecretDays$Rumour.hadBy(II)Z ===== -/
def f_X5_hadBy (k0 : Nat) (x1 : Int32) (x2 : Int32) (S : sd_St) : Option (Int32 × sd_St) := sd_cl (f_X5_had k0 x1 S) (fun r_2 S_1 => (if r_2 = (-1 : Int32) then (some ((0 : Int32), S_1)) else (if x2 < r_2 then (some ((0 : Int32), S_1)) else (some ((1 : Int32), S_1)))))
set_option maxHeartbeats 4000000 in
set_option maxRecDepth 100000 in
theorem c_X5_hadBy {k0 : Nat} {x1 : Int32} {x2 : Int32} (hk0 : sd_kd k0 = 5) {S S' : sd_St} {r : Int32} (h : f_X5_hadBy k0 x1 x2 S = some (r, S')) : Met l yX5_hadBy (Cond.code yX5_hadBy cX5_hadBy 4 (some .boolean) :: sd_wl) (sd_rm 1) (sd_P D cy ad A b0 [.ref (ad k0), .int x1, .int x2] S) (sd_Qi D cy ad A r S') 0 0 A := by
  refine sd_met (by decide) (Nat.le_of_ble_eq_true rfl) (fun p e s m args below meth c ls C X hl => ?_)
  obtain ⟨hx, hb, -, hml, hown, hts, -, hG⟩ := id C
  replace C : sd_C RX5 cX5_hadBy 4 (some .boolean) D cy ad A b0 p s m args meth c := C
  replace hl : lv_has ls 4 [(0, .ref (ad k0)), (1, .int x1), (2, .int x2)] := hl
  unfold f_X5_hadBy at h
  refine lv_aload_n hx hb dX5_hadBy_0 rfl (lv_at hl 0 rfl) ?_
  refine lv_iload_n hx hb dX5_hadBy_1 rfl (lv_at hl 1 rfl) ?_
  obtain ⟨r_2, S_1, er_2, h⟩ := sd_cl_some h
  refine k_X5_had C X hl.1 hk0 er_2 sd_w35_4 (by decide) (Nat.le_of_ble_eq_true rfl) dX5_hadBy_2 (fun H locs X => ?_)
  refine lv_istore_n (lv' := [(3, .int r_2), (0, .ref (ad k0)), (1, .int x1), (2, .int x2)]) hx hb dX5_hadBy_5 rfl hl (by decide) rfl (fun ls hl => ?_)
  refine lv_iload_n hx hb dX5_hadBy_6 rfl (lv_at hl 0 rfl) ?_
  refine lv_iconst (v := (-1 : Int32)) hx hb dX5_hadBy_7 (by decide) ?_
  refine lv_icmp_eq (tgt := 20) hx hb dX5_hadBy_8 (by decide) (fun c_3 => ?_) (fun c_3 => ?_)
  · have h := sd_ifp c_3 h
    refine lv_iconst (v := (0 : Int32)) hx hb dX5_hadBy_20 (by decide) ?_
    cases h
    exact sd_zret C X (by decide) dX5_hadBy_21
  · have h := sd_ifn c_3 h
    refine lv_iload_n hx hb dX5_hadBy_11 rfl (lv_at hl 0 rfl) ?_
    refine lv_iload_n hx hb dX5_hadBy_12 rfl (lv_at hl 3 rfl) ?_
    refine lv_icmp_gt (tgt := 20) hx hb dX5_hadBy_13 (by decide) (fun c_4 => ?_) (fun c_4 => ?_)
    · have h := sd_ifp c_4 h
      refine lv_iconst (v := (0 : Int32)) hx hb dX5_hadBy_20 (by decide) ?_
      cases h
      exact sd_zret C X (by decide) dX5_hadBy_21
    · have h := sd_ifn c_4 h
      refine lv_iconst (v := (1 : Int32)) hx hb dX5_hadBy_16 (by decide) ?_
      refine lv_goto (tgt := 21) hx hb dX5_hadBy_17 (by decide) ?_
      cases h
      exact sd_zret C X (by decide) dX5_hadBy_21
theorem k_X5_hadBy (C : sd_C own cc nL rt D cy ad A b0 p s m args meth c) (X : sd_H D cy ad A s S H locs) (hls : ls.size = nL) {k0 : Nat} {x1 : Int32} {x2 : Int32} {S2 : sd_St} {r : Int32} (hk0 : sd_kd k0 = 5) (h : f_X5_hadBy k0 x1 x2 S = some (r, S2)) (hlink : Cond.methodLink own index yX5_hadBy ∈ sd_wl) (hR : 2 ≤ R.frames ∧ 63 ≤ R.locals ∧ cells ≤ R.cells ∧ slots ≤ R.slots) (hst : (rest.map fun v => v.category).sum ≤ 8) (hdg : decode cc pc = .ok (.invokevirtual index, 3)) (kk : ∀ (H1 : Heap) (locs1 : List Loc), sd_H D cy ad A s S2 H1 locs1 → W p l e R s m args below meth c H1 locs1 cells slots Q (F0 m (pc + 3) ls (.int r :: rest))) : W p l e R s m args below meth c H locs cells slots Q (F0 m pc ls (.int x2 :: .int x1 :: .ref (ad k0) :: rest)) :=
  sd_goI X (sd_runV C X hls (n := 2) (k := k0) (As := [.int x1, .int x2]) (c_X5_hadBy (l := l) (b0 := b0) hk0 h) (sd_goodV hlink sd_w35_1 sd_w35_2 sd_w2_4 sd_w35_3) (ci := 5) rfl (by rw [hk0]; decide) (sd_c5 hk0) (by decide +kernel) rfl hR rfl hst hdg) kk
/-! ===== SecretDays$Reports.agree(ILSecretDays$Rumour;)Z ===== -/
def f_X4_agree_b47 (q2 : (Int32 → Int32 → sd_St → Option (Int32 × sd_St))) (k0 : Nat) (k2 : Nat) (x1 : Int32) (x3 : Int32) (S : sd_St) : Option (Int32 × sd_St) := q2 x1 (x3 + (1 : Int32)) S
set_option maxHeartbeats 4000000 in
set_option maxRecDepth 100000 in
theorem t_X4_agree_b47 (C : sd_C RX4 cX4_agree 4 (some .boolean) D cy ad A b0 p s m args meth c) {k0 : Nat} {k2 : Nat} (hk0 : sd_kd k0 = 4) (hk2 : sd_kd k2 = 5) {r : Int32} {S' : sd_St} {q2 : (Int32 → Int32 → sd_St → Option (Int32 × sd_St))} (hq2 : ∀ (x1 : Int32) (x3 : Int32) (S : sd_St) (H : Heap) (locs : List Loc) (ls : Array Slot), q2 x1 x3 S = some (r, S') → sd_H D cy ad A s S H locs → lv_has ls 4 [(0, .ref (ad k0)), (2, .ref (ad k2)), (1, .int x1), (3, .int x3)] → W p l e (sd_rm 2) s m args below meth c H locs 0 0 (MQ below (sd_Qi D cy ad A r S') args s 0 0 A) (F0 m 2 ls [])) : ∀ (x1 : Int32) (x3 : Int32) (S : sd_St) (H : Heap) (locs : List Loc) (ls : Array Slot), f_X4_agree_b47 q2 k0 k2 x1 x3 S = some (r, S') → sd_H D cy ad A s S H locs → lv_has ls 4 [(0, .ref (ad k0)), (2, .ref (ad k2)), (1, .int x1), (3, .int x3)] → W p l e (sd_rm 2) s m args below meth c H locs 0 0 (MQ below (sd_Qi D cy ad A r S') args s 0 0 A) (F0 m 47 ls []) := by
  obtain ⟨hx, hb, -, hml, hown, hts, -, hG⟩ := id C
  intro x1 x3 S H locs ls h X hl
  unfold f_X4_agree_b47 at h
  refine lv_iinc (v := (x3 + (1 : Int32))) (lv' := [(3, .int (x3 + (1 : Int32))), (0, .ref (ad k0)), (2, .ref (ad k2)), (1, .int x1)]) hx hb dX4_agree_47 hl (k := 3) rfl rfl (by decide) rfl (fun ls hl => ?_)
  refine lv_goto (tgt := 2) hx hb dX4_agree_50 (by decide) ?_
  exact hq2 x1 (x3 + (1 : Int32)) S _ _ _ h X (lv_sub hl [1, 2, 3, 0] rfl)
def f_X4_agree_l2 (k0 : Nat) (k2 : Nat) : Nat → Int32 → Int32 → sd_St → Option (Int32 × sd_St)
  | 0 => fun _ _ _ => none
  | n + 1 => fun x1 x3 S => (if (S.1 k0 0) ≤ x3 then (some ((1 : Int32), S)) else sd_ld S (k0 + 2) x3 (fun v_2 => (if v_2 = x1 then sd_ld S (k0 + 1) x3 (fun v_4 => sd_ld S (k0 + 3) x3 (fun v_5 => sd_cl (f_X5_hadBy k2 v_4 v_5 S) (fun r_7 S_6 => sd_ld S_6 (k0 + 4) x3 (fun v_8 => (if r_7 = v_8 then f_X4_agree_b47 (f_X4_agree_l2 k0 k2 n) k0 k2 x1 x3 S_6 else (some ((0 : Int32), S_6))))))) else f_X4_agree_b47 (f_X4_agree_l2 k0 k2 n) k0 k2 x1 x3 S)))
set_option maxHeartbeats 4000000 in
set_option maxRecDepth 100000 in
theorem t_X4_agree_l2 (C : sd_C RX4 cX4_agree 4 (some .boolean) D cy ad A b0 p s m args meth c) {k0 : Nat} {k2 : Nat} (hk0 : sd_kd k0 = 4) (hk2 : sd_kd k2 = 5) {r : Int32} {S' : sd_St} : ∀ (n : Nat) (x1 : Int32) (x3 : Int32) (S : sd_St) (H : Heap) (locs : List Loc) (ls : Array Slot), f_X4_agree_l2 k0 k2 n x1 x3 S = some (r, S') → sd_H D cy ad A s S H locs → lv_has ls 4 [(0, .ref (ad k0)), (2, .ref (ad k2)), (1, .int x1), (3, .int x3)] → W p l e (sd_rm 2) s m args below meth c H locs 0 0 (MQ below (sd_Qi D cy ad A r S') args s 0 0 A) (F0 m 2 ls []) := by
  obtain ⟨hx, hb, -, hml, hown, hts, -, hG⟩ := id C
  intro n
  induction n with
  | zero => intro x1 x3 S H locs ls h; cases h
  | succ n ih =>
    intro x1 x3 S H locs ls h X hl
    unfold f_X4_agree_l2 at h
    refine lv_iload_n hx hb dX4_agree_2 rfl (lv_at hl 3 rfl) ?_
    refine lv_aload_n hx hb dX4_agree_3 rfl (lv_at hl 0 rfl) ?_
    refine sd_g4_0 C X hk0 sd_w18_1 dX4_agree_4 ?_
    refine lv_icmp_ge (tgt := 53) hx hb dX4_agree_7 (by decide) (fun c_1 => ?_) (fun c_1 => ?_)
    · have h := sd_ifp c_1 h
      refine lv_iconst (v := (1 : Int32)) hx hb dX4_agree_53 (by decide) ?_
      cases h
      exact sd_zret C X (by decide) dX4_agree_54
    · have h := sd_ifn c_1 h
      refine lv_aload_n hx hb dX4_agree_10 rfl (lv_at hl 0 rfl) ?_
      refine sd_g4_2 (k := k0) C X hk0 sd_w6_4 dX4_agree_11 ?_
      refine lv_iload_n hx hb dX4_agree_14 rfl (lv_at hl 3 rfl) ?_
      obtain ⟨b_2, v_2, e_2, h⟩ := sd_ld_some h
      refine sd_iald C X (sd_k4_2 hk0) b_2 dX4_agree_15 (sd_nmi e_2 ?_)
      refine lv_iload_n hx hb dX4_agree_16 rfl (lv_at hl 2 rfl) ?_
      refine lv_icmp_ne (tgt := 47) hx hb dX4_agree_17 (by decide) (fun c_3 => ?_) (fun c_3 => ?_)
      · have h := sd_ifn c_3 h
        exact t_X4_agree_b47 C hk0 hk2 ih x1 x3 S _ _ _ h X (lv_sub hl [0, 1, 2, 3] rfl)
      · have h := sd_ifp c_3 h
        refine lv_aload_n hx hb dX4_agree_20 rfl (lv_at hl 1 rfl) ?_
        refine lv_aload_n hx hb dX4_agree_21 rfl (lv_at hl 0 rfl) ?_
        refine sd_g4_1 (k := k0) C X hk0 sd_w6_3 dX4_agree_22 ?_
        refine lv_iload_n hx hb dX4_agree_25 rfl (lv_at hl 3 rfl) ?_
        obtain ⟨b_4, v_4, e_4, h⟩ := sd_ld_some h
        refine sd_iald C X (sd_k4_1 hk0) b_4 dX4_agree_26 (sd_nmi e_4 ?_)
        refine lv_aload_n hx hb dX4_agree_27 rfl (lv_at hl 0 rfl) ?_
        refine sd_g4_3 (k := k0) C X hk0 sd_w6_5 dX4_agree_28 ?_
        refine lv_iload_n hx hb dX4_agree_31 rfl (lv_at hl 3 rfl) ?_
        obtain ⟨b_5, v_5, e_5, h⟩ := sd_ld_some h
        refine sd_iald C X (sd_k4_3 hk0) b_5 dX4_agree_32 (sd_nmi e_5 ?_)
        obtain ⟨r_7, S_6, er_7, h⟩ := sd_cl_some h
        refine k_X5_hadBy C X hl.1 hk2 er_7 sd_w44_23 (by decide) (Nat.le_of_ble_eq_true rfl) dX4_agree_33 (fun H locs X => ?_)
        refine lv_aload_n hx hb dX4_agree_36 rfl (lv_at hl 0 rfl) ?_
        refine sd_g4_4 (k := k0) C X hk0 sd_w6_6 dX4_agree_37 ?_
        refine lv_iload_n hx hb dX4_agree_40 rfl (lv_at hl 3 rfl) ?_
        obtain ⟨b_8, v_8, e_8, h⟩ := sd_ld_some h
        refine sd_zald C X (sd_k4_4 hk0) b_8 dX4_agree_41 (sd_nmi e_8 ?_)
        refine lv_icmp_eq (tgt := 47) hx hb dX4_agree_42 (by decide) (fun c_9 => ?_) (fun c_9 => ?_)
        · have h := sd_ifp c_9 h
          exact t_X4_agree_b47 C hk0 hk2 ih x1 x3 S_6 _ _ _ h X (lv_sub hl [0, 1, 2, 3] rfl)
        · have h := sd_ifn c_9 h
          refine lv_iconst (v := (0 : Int32)) hx hb dX4_agree_45 (by decide) ?_
          cases h
          exact sd_zret C X (by decide) dX4_agree_46
def f_X4_agree (k0 : Nat) (k2 : Nat) (x1 : Int32) (S : sd_St) : Option (Int32 × sd_St) := f_X4_agree_l2 k0 k2 sd_FU x1 (0 : Int32) S
set_option maxHeartbeats 4000000 in
set_option maxRecDepth 100000 in
theorem c_X4_agree {k0 : Nat} {k2 : Nat} {x1 : Int32} (hk0 : sd_kd k0 = 4) (hk2 : sd_kd k2 = 5) {S S' : sd_St} {r : Int32} (h : f_X4_agree k0 k2 x1 S = some (r, S')) : Met l yX4_agree (Cond.code yX4_agree cX4_agree 4 (some .boolean) :: sd_wl) (sd_rm 2) (sd_P D cy ad A b0 [.ref (ad k0), .int x1, .ref (ad k2)] S) (sd_Qi D cy ad A r S') 0 0 A := by
  refine sd_met (by decide) (Nat.le_of_ble_eq_true rfl) (fun p e s m args below meth c ls C X hl => ?_)
  obtain ⟨hx, hb, -, hml, hown, hts, -, hG⟩ := id C
  replace C : sd_C RX4 cX4_agree 4 (some .boolean) D cy ad A b0 p s m args meth c := C
  replace hl : lv_has ls 4 [(0, .ref (ad k0)), (1, .int x1), (2, .ref (ad k2))] := hl
  unfold f_X4_agree at h
  refine lv_iconst (v := (0 : Int32)) hx hb dX4_agree_0 (by decide) ?_
  refine lv_istore_n (lv' := [(3, .int (0 : Int32)), (0, .ref (ad k0)), (1, .int x1), (2, .ref (ad k2))]) hx hb dX4_agree_1 rfl hl (by decide) rfl (fun ls hl => ?_)
  exact t_X4_agree_l2 C hk0 hk2 sd_FU x1 (0 : Int32) S _ _ _ h X (lv_sub hl [1, 3, 2, 0] rfl)
theorem k_X4_agree (C : sd_C own cc nL rt D cy ad A b0 p s m args meth c) (X : sd_H D cy ad A s S H locs) (hls : ls.size = nL) {k0 : Nat} {k2 : Nat} {x1 : Int32} {S2 : sd_St} {r : Int32} (hk0 : sd_kd k0 = 4) (hk2 : sd_kd k2 = 5) (h : f_X4_agree k0 k2 x1 S = some (r, S2)) (hlink : Cond.methodLink own index yX4_agree ∈ sd_wl) (hR : 3 ≤ R.frames ∧ 103 ≤ R.locals ∧ cells ≤ R.cells ∧ slots ≤ R.slots) (hst : (rest.map fun v => v.category).sum ≤ 8) (hdg : decode cc pc = .ok (.invokevirtual index, 3)) (kk : ∀ (H1 : Heap) (locs1 : List Loc), sd_H D cy ad A s S2 H1 locs1 → W p l e R s m args below meth c H1 locs1 cells slots Q (F0 m (pc + 3) ls (.int r :: rest))) : W p l e R s m args below meth c H locs cells slots Q (F0 m pc ls (.ref (ad k2) :: .int x1 :: .ref (ad k0) :: rest)) :=
  sd_goI X (sd_runV C X hls (n := 2) (k := k0) (As := [.int x1, .ref (ad k2)]) (c_X4_agree (l := l) (b0 := b0) hk0 hk2 h) (sd_goodV hlink sd_w44_20 sd_w44_21 sd_w2_20 sd_w44_22) (ci := 4) rfl (by rw [hk0]; decide) (sd_c4 hk0) (by decide +kernel) rfl hR rfl hst hdg) kk
/-! ===== SecretDays$Rumour.spread(LSecretDays$Doors;III)V ===== -/
def f_X5_spread_l9 (k0 : Nat) (k1 : Nat) : Nat → Int32 → Int32 → sd_St → Option (Unit × sd_St)
  | 0 => fun _ _ _ => none
  | n + 1 => fun x4 x5 S => (if (S.1 k1 0) ≤ x5 then (some ((), S)) else sd_ld S (k1 + 2) x5 (fun v_2 => (if x4 < v_2 then (some ((), S)) else sd_cl (f_X5_pass k0 k1 x5 S) (fun _ S_4 => (f_X5_spread_l9 k0 k1 n) x4 (x5 + (1 : Int32)) S_4))))
set_option maxHeartbeats 4000000 in
set_option maxRecDepth 100000 in
theorem t_X5_spread_l9 (C : sd_C RX5 cX5_spread 6 none D cy ad A b0 p s m args meth c) {k0 : Nat} {k1 : Nat} (hk0 : sd_kd k0 = 5) (hk1 : sd_kd k1 = 1) {S' : sd_St} : ∀ (n : Nat) (x4 : Int32) (x5 : Int32) (S : sd_St) (H : Heap) (locs : List Loc) (ls : Array Slot), f_X5_spread_l9 k0 k1 n x4 x5 S = some ((), S') → sd_H D cy ad A s S H locs → lv_has ls 6 [(0, .ref (ad k0)), (1, .ref (ad k1)), (4, .int x4), (5, .int x5)] → W p l e (sd_rm 2) s m args below meth c H locs 0 0 (MQ below (sd_Qv D cy ad A S') args s 0 0 A) (F0 m 9 ls []) := by
  obtain ⟨hx, hb, -, hml, hown, hts, -, hG⟩ := id C
  intro n
  induction n with
  | zero => intro x4 x5 S H locs ls h; cases h
  | succ n ih =>
    intro x4 x5 S H locs ls h X hl
    unfold f_X5_spread_l9 at h
    refine lv_iload hx hb dX5_spread_9 (lv_at hl 3 rfl) ?_
    refine lv_aload_n hx hb dX5_spread_11 rfl (lv_at hl 1 rfl) ?_
    refine sd_g1_0 C X hk1 sd_w30_2 dX5_spread_12 ?_
    refine lv_icmp_ge (tgt := 43) hx hb dX5_spread_15 (by decide) (fun c_1 => ?_) (fun c_1 => ?_)
    · have h := sd_ifp c_1 h
      cases h
      exact sd_vret C X dX5_spread_43
    · have h := sd_ifn c_1 h
      refine lv_aload_n hx hb dX5_spread_18 rfl (lv_at hl 1 rfl) ?_
      refine sd_g1_1 (k := k1) C X hk1 sd_w30_3 dX5_spread_19 ?_
      refine lv_iload hx hb dX5_spread_22 (lv_at hl 3 rfl) ?_
      obtain ⟨b_2, v_2, e_2, h⟩ := sd_ld_some h
      refine sd_iald C X (sd_k1_2 hk1) b_2 dX5_spread_24 (sd_nmi e_2 ?_)
      refine lv_iload hx hb dX5_spread_25 (lv_at hl 2 rfl) ?_
      refine lv_icmp_gt (tgt := 43) hx hb dX5_spread_27 (by decide) (fun c_3 => ?_) (fun c_3 => ?_)
      · have h := sd_ifp c_3 h
        cases h
        exact sd_vret C X dX5_spread_43
      · have h := sd_ifn c_3 h
        refine lv_aload_n hx hb dX5_spread_30 rfl (lv_at hl 0 rfl) ?_
        refine lv_aload_n hx hb dX5_spread_31 rfl (lv_at hl 1 rfl) ?_
        refine lv_iload hx hb dX5_spread_32 (lv_at hl 3 rfl) ?_
        obtain ⟨r_5, S_4, er_5, h⟩ := sd_cl_some h
        refine k_X5_pass C X hl.1 hk0 hk1 er_5 sd_w30_11 (by decide) (Nat.le_of_ble_eq_true rfl) dX5_spread_34 (fun H locs X => ?_)
        refine lv_iinc (v := (x5 + (1 : Int32))) (lv' := [(5, .int (x5 + (1 : Int32))), (0, .ref (ad k0)), (1, .ref (ad k1)), (4, .int x4)]) hx hb dX5_spread_37 hl (k := 3) rfl rfl (by decide) rfl (fun ls hl => ?_)
        refine lv_goto (tgt := 9) hx hb dX5_spread_40 (by decide) ?_
        exact ih x4 (x5 + (1 : Int32)) S_4 _ _ _ h X (lv_sub hl [1, 2, 3, 0] rfl)
def f_X5_spread (k0 : Nat) (k1 : Nat) (x2 : Int32) (x3 : Int32) (x4 : Int32) (S : sd_St) : Option (Unit × sd_St) := sd_cl (f_X5_begin k0 x2 x3 S) (fun _ S_6 => f_X5_spread_l9 k0 k1 sd_FU x4 (0 : Int32) S_6)
set_option maxHeartbeats 4000000 in
set_option maxRecDepth 100000 in
theorem c_X5_spread {k0 : Nat} {k1 : Nat} {x2 : Int32} {x3 : Int32} {x4 : Int32} (hk0 : sd_kd k0 = 5) (hk1 : sd_kd k1 = 1) {S S' : sd_St} (h : f_X5_spread k0 k1 x2 x3 x4 S = some ((), S')) : Met l yX5_spread (Cond.code yX5_spread cX5_spread 6 none :: sd_wl) (sd_rm 2) (sd_P D cy ad A b0 [.ref (ad k0), .ref (ad k1), .int x2, .int x3, .int x4] S) (sd_Qv D cy ad A S') 0 0 A := by
  refine sd_met (by decide) (Nat.le_of_ble_eq_true rfl) (fun p e s m args below meth c ls C X hl => ?_)
  obtain ⟨hx, hb, -, hml, hown, hts, -, hG⟩ := id C
  replace C : sd_C RX5 cX5_spread 6 none D cy ad A b0 p s m args meth c := C
  replace hl : lv_has ls 6 [(0, .ref (ad k0)), (1, .ref (ad k1)), (2, .int x2), (3, .int x3), (4, .int x4)] := hl
  unfold f_X5_spread at h
  refine lv_aload_n hx hb dX5_spread_0 rfl (lv_at hl 0 rfl) ?_
  refine lv_iload_n hx hb dX5_spread_1 rfl (lv_at hl 2 rfl) ?_
  refine lv_iload_n hx hb dX5_spread_2 rfl (lv_at hl 3 rfl) ?_
  obtain ⟨r_7, S_6, er_7, h⟩ := sd_cl_some h
  refine k_X5_begin C X hl.1 hk0 er_7 sd_w30_4 (by decide) (Nat.le_of_ble_eq_true rfl) dX5_spread_3 (fun H locs X => ?_)
  refine lv_iconst (v := (0 : Int32)) hx hb dX5_spread_6 (by decide) ?_
  refine lv_istore (lv' := [(5, .int (0 : Int32)), (0, .ref (ad k0)), (1, .ref (ad k1)), (2, .int x2), (3, .int x3), (4, .int x4)]) hx hb dX5_spread_7 hl (by decide) rfl (fun ls hl => ?_)
  exact t_X5_spread_l9 C hk0 hk1 sd_FU x4 (0 : Int32) S_6 _ _ _ h X (lv_sub hl [1, 2, 5, 0] rfl)
theorem k_X5_spread (C : sd_C own cc nL rt D cy ad A b0 p s m args meth c) (X : sd_H D cy ad A s S H locs) (hls : ls.size = nL) {k0 : Nat} {k1 : Nat} {x2 : Int32} {x3 : Int32} {x4 : Int32} {S2 : sd_St} (hk0 : sd_kd k0 = 5) (hk1 : sd_kd k1 = 1) (h : f_X5_spread k0 k1 x2 x3 x4 S = some ((), S2)) (hlink : Cond.methodLink own index yX5_spread ∈ sd_wl) (hR : 3 ≤ R.frames ∧ 105 ≤ R.locals ∧ cells ≤ R.cells ∧ slots ≤ R.slots) (hst : (rest.map fun v => v.category).sum ≤ 8) (hdg : decode cc pc = .ok (.invokevirtual index, 3)) (kk : ∀ (H1 : Heap) (locs1 : List Loc), sd_H D cy ad A s S2 H1 locs1 → W p l e R s m args below meth c H1 locs1 cells slots Q (F0 m (pc + 3) ls rest)) : W p l e R s m args below meth c H locs cells slots Q (F0 m pc ls (.int x4 :: .int x3 :: .int x2 :: .ref (ad k1) :: .ref (ad k0) :: rest)) :=
  sd_goV X (sd_runV C X hls (n := 4) (k := k0) (As := [.ref (ad k1), .int x2, .int x3, .int x4]) (c_X5_spread (l := l) (b0 := b0) hk0 hk1 h) (sd_goodV hlink sd_w29_23 sd_w30_0 sd_w2_4 sd_w30_1) (ci := 5) rfl (by rw [hk0]; decide) (sd_c5 hk0) (by decide +kernel) rfl hR rfl hst hdg) kk
/-! ===== SecretDays$Rumour.spreadThroughBoth(LSecretDays$Doors;LSecretDays$Doors;III)V ===== -/
def f_X5_spreadThroughBoth_b73 (q13 : (Int32 → Int32 → Int32 → sd_St → Option (Unit × sd_St))) (k0 : Nat) (k1 : Nat) (k2 : Nat) (x5 : Int32) (x6 : Int32) (x7 : Int32) (S : sd_St) : Option (Unit × sd_St) := sd_cl (f_X5_pass k0 k1 x7 S) (fun _ S_1 => q13 x5 x6 (x7 + (1 : Int32)) S_1)
set_option maxHeartbeats 4000000 in
set_option maxRecDepth 100000 in
theorem t_X5_spreadThroughBoth_b73 (C : sd_C RX5 cX5_spreadThroughBoth 8 none D cy ad A b0 p s m args meth c) {k0 : Nat} {k1 : Nat} {k2 : Nat} (hk0 : sd_kd k0 = 5) (hk1 : sd_kd k1 = 1) (hk2 : sd_kd k2 = 1) {S' : sd_St} {q13 : (Int32 → Int32 → Int32 → sd_St → Option (Unit × sd_St))} (hq13 : ∀ (x5 : Int32) (x6 : Int32) (x7 : Int32) (S : sd_St) (H : Heap) (locs : List Loc) (ls : Array Slot), q13 x5 x6 x7 S = some ((), S') → sd_H D cy ad A s S H locs → lv_has ls 8 [(0, .ref (ad k0)), (1, .ref (ad k1)), (2, .ref (ad k2)), (5, .int x5), (6, .int x6), (7, .int x7)] → W p l e (sd_rm 2) s m args below meth c H locs 0 0 (MQ below (sd_Qv D cy ad A S') args s 0 0 A) (F0 m 13 ls [])) : ∀ (x5 : Int32) (x6 : Int32) (x7 : Int32) (S : sd_St) (H : Heap) (locs : List Loc) (ls : Array Slot), f_X5_spreadThroughBoth_b73 q13 k0 k1 k2 x5 x6 x7 S = some ((), S') → sd_H D cy ad A s S H locs → lv_has ls 8 [(0, .ref (ad k0)), (1, .ref (ad k1)), (2, .ref (ad k2)), (5, .int x5), (6, .int x6), (7, .int x7)] → W p l e (sd_rm 2) s m args below meth c H locs 0 0 (MQ below (sd_Qv D cy ad A S') args s 0 0 A) (F0 m 73 ls []) := by
  obtain ⟨hx, hb, -, hml, hown, hts, -, hG⟩ := id C
  intro x5 x6 x7 S H locs ls h X hl
  unfold f_X5_spreadThroughBoth_b73 at h
  refine lv_aload_n hx hb dX5_spreadThroughBoth_73 rfl (lv_at hl 0 rfl) ?_
  refine lv_aload_n hx hb dX5_spreadThroughBoth_74 rfl (lv_at hl 1 rfl) ?_
  refine lv_iload hx hb dX5_spreadThroughBoth_75 (lv_at hl 5 rfl) ?_
  obtain ⟨r_2, S_1, er_2, h⟩ := sd_cl_some h
  refine k_X5_pass C X hl.1 hk0 hk1 er_2 sd_w30_11 (by decide) (Nat.le_of_ble_eq_true rfl) dX5_spreadThroughBoth_77 (fun H locs X => ?_)
  refine lv_iinc (v := (x7 + (1 : Int32))) (lv' := [(7, .int (x7 + (1 : Int32))), (0, .ref (ad k0)), (1, .ref (ad k1)), (2, .ref (ad k2)), (5, .int x5), (6, .int x6)]) hx hb dX5_spreadThroughBoth_80 hl (k := 5) rfl rfl (by decide) rfl (fun ls hl => ?_)
  refine lv_goto (tgt := 13) hx hb dX5_spreadThroughBoth_83 (by decide) ?_
  exact hq13 x5 x6 (x7 + (1 : Int32)) S_1 _ _ _ h X (lv_sub hl [1, 2, 3, 4, 5, 0] rfl)
def f_X5_spreadThroughBoth_l34 (q13 : (Int32 → Int32 → Int32 → sd_St → Option (Unit × sd_St))) (k0 : Nat) (k1 : Nat) (k2 : Nat) : Nat → Int32 → Int32 → Int32 → sd_St → Option (Unit × sd_St)
  | 0 => fun _ _ _ _ => none
  | n + 1 => fun x5 x6 x7 S => (if (S.1 k2 0) ≤ x6 then f_X5_spreadThroughBoth_b73 q13 k0 k1 k2 x5 x6 x7 S else sd_ld S (k2 + 2) x6 (fun v_4 => sd_ld S (k1 + 2) x7 (fun v_5 => (if v_5 < v_4 then f_X5_spreadThroughBoth_b73 q13 k0 k1 k2 x5 x6 x7 S else sd_cl (f_X5_pass k0 k2 x6 S) (fun _ S_7 => (f_X5_spreadThroughBoth_l34 q13 k0 k1 k2 n) x5 (x6 + (1 : Int32)) x7 S_7)))))
set_option maxHeartbeats 4000000 in
set_option maxRecDepth 100000 in
theorem t_X5_spreadThroughBoth_l34 (C : sd_C RX5 cX5_spreadThroughBoth 8 none D cy ad A b0 p s m args meth c) {k0 : Nat} {k1 : Nat} {k2 : Nat} (hk0 : sd_kd k0 = 5) (hk1 : sd_kd k1 = 1) (hk2 : sd_kd k2 = 1) {S' : sd_St} {q13 : (Int32 → Int32 → Int32 → sd_St → Option (Unit × sd_St))} (hq13 : ∀ (x5 : Int32) (x6 : Int32) (x7 : Int32) (S : sd_St) (H : Heap) (locs : List Loc) (ls : Array Slot), q13 x5 x6 x7 S = some ((), S') → sd_H D cy ad A s S H locs → lv_has ls 8 [(0, .ref (ad k0)), (1, .ref (ad k1)), (2, .ref (ad k2)), (5, .int x5), (6, .int x6), (7, .int x7)] → W p l e (sd_rm 2) s m args below meth c H locs 0 0 (MQ below (sd_Qv D cy ad A S') args s 0 0 A) (F0 m 13 ls [])) : ∀ (n : Nat) (x5 : Int32) (x6 : Int32) (x7 : Int32) (S : sd_St) (H : Heap) (locs : List Loc) (ls : Array Slot), f_X5_spreadThroughBoth_l34 q13 k0 k1 k2 n x5 x6 x7 S = some ((), S') → sd_H D cy ad A s S H locs → lv_has ls 8 [(0, .ref (ad k0)), (1, .ref (ad k1)), (2, .ref (ad k2)), (5, .int x5), (6, .int x6), (7, .int x7)] → W p l e (sd_rm 2) s m args below meth c H locs 0 0 (MQ below (sd_Qv D cy ad A S') args s 0 0 A) (F0 m 34 ls []) := by
  obtain ⟨hx, hb, -, hml, hown, hts, -, hG⟩ := id C
  intro n
  induction n with
  | zero => intro x5 x6 x7 S H locs ls h; cases h
  | succ n ih =>
    intro x5 x6 x7 S H locs ls h X hl
    unfold f_X5_spreadThroughBoth_l34 at h
    refine lv_iload hx hb dX5_spreadThroughBoth_34 (lv_at hl 4 rfl) ?_
    refine lv_aload_n hx hb dX5_spreadThroughBoth_36 rfl (lv_at hl 2 rfl) ?_
    refine sd_g1_0 C X hk2 sd_w30_2 dX5_spreadThroughBoth_37 ?_
    refine lv_icmp_ge (tgt := 73) hx hb dX5_spreadThroughBoth_40 (by decide) (fun c_3 => ?_) (fun c_3 => ?_)
    · have h := sd_ifp c_3 h
      exact t_X5_spreadThroughBoth_b73 C hk0 hk1 hk2 hq13 x5 x6 x7 S _ _ _ h X (lv_sub hl [0, 1, 2, 3, 4, 5] rfl)
    · have h := sd_ifn c_3 h
      refine lv_aload_n hx hb dX5_spreadThroughBoth_43 rfl (lv_at hl 2 rfl) ?_
      refine sd_g1_1 (k := k2) C X hk2 sd_w30_3 dX5_spreadThroughBoth_44 ?_
      refine lv_iload hx hb dX5_spreadThroughBoth_47 (lv_at hl 4 rfl) ?_
      obtain ⟨b_4, v_4, e_4, h⟩ := sd_ld_some h
      refine sd_iald C X (sd_k1_2 hk2) b_4 dX5_spreadThroughBoth_49 (sd_nmi e_4 ?_)
      refine lv_aload_n hx hb dX5_spreadThroughBoth_50 rfl (lv_at hl 1 rfl) ?_
      refine sd_g1_1 (k := k1) C X hk1 sd_w30_3 dX5_spreadThroughBoth_51 ?_
      refine lv_iload hx hb dX5_spreadThroughBoth_54 (lv_at hl 5 rfl) ?_
      obtain ⟨b_5, v_5, e_5, h⟩ := sd_ld_some h
      refine sd_iald C X (sd_k1_2 hk1) b_5 dX5_spreadThroughBoth_56 (sd_nmi e_5 ?_)
      refine lv_icmp_gt (tgt := 73) hx hb dX5_spreadThroughBoth_57 (by decide) (fun c_6 => ?_) (fun c_6 => ?_)
      · have h := sd_ifp c_6 h
        exact t_X5_spreadThroughBoth_b73 C hk0 hk1 hk2 hq13 x5 x6 x7 S _ _ _ h X (lv_sub hl [0, 1, 2, 3, 4, 5] rfl)
      · have h := sd_ifn c_6 h
        refine lv_aload_n hx hb dX5_spreadThroughBoth_60 rfl (lv_at hl 0 rfl) ?_
        refine lv_aload_n hx hb dX5_spreadThroughBoth_61 rfl (lv_at hl 2 rfl) ?_
        refine lv_iload hx hb dX5_spreadThroughBoth_62 (lv_at hl 4 rfl) ?_
        obtain ⟨r_8, S_7, er_8, h⟩ := sd_cl_some h
        refine k_X5_pass C X hl.1 hk0 hk2 er_8 sd_w30_11 (by decide) (Nat.le_of_ble_eq_true rfl) dX5_spreadThroughBoth_64 (fun H locs X => ?_)
        refine lv_iinc (v := (x6 + (1 : Int32))) (lv' := [(6, .int (x6 + (1 : Int32))), (0, .ref (ad k0)), (1, .ref (ad k1)), (2, .ref (ad k2)), (5, .int x5), (7, .int x7)]) hx hb dX5_spreadThroughBoth_67 hl (k := 4) rfl rfl (by decide) rfl (fun ls hl => ?_)
        refine lv_goto (tgt := 34) hx hb dX5_spreadThroughBoth_70 (by decide) ?_
        exact ih x5 (x6 + (1 : Int32)) x7 S_7 _ _ _ h X (lv_sub hl [1, 2, 3, 4, 0, 5] rfl)
def f_X5_spreadThroughBoth_l86 (k0 : Nat) (k1 : Nat) (k2 : Nat) : Nat → Int32 → Int32 → sd_St → Option (Unit × sd_St)
  | 0 => fun _ _ _ => none
  | n + 1 => fun x5 x6 S => (if (S.1 k2 0) ≤ x6 then (some ((), S)) else sd_ld S (k2 + 2) x6 (fun v_10 => (if x5 < v_10 then (some ((), S)) else sd_cl (f_X5_pass k0 k2 x6 S) (fun _ S_12 => (f_X5_spreadThroughBoth_l86 k0 k1 k2 n) x5 (x6 + (1 : Int32)) S_12))))
set_option maxHeartbeats 4000000 in
set_option maxRecDepth 100000 in
theorem t_X5_spreadThroughBoth_l86 (C : sd_C RX5 cX5_spreadThroughBoth 8 none D cy ad A b0 p s m args meth c) {k0 : Nat} {k1 : Nat} {k2 : Nat} (hk0 : sd_kd k0 = 5) (hk1 : sd_kd k1 = 1) (hk2 : sd_kd k2 = 1) {S' : sd_St} : ∀ (n : Nat) (x5 : Int32) (x6 : Int32) (S : sd_St) (H : Heap) (locs : List Loc) (ls : Array Slot), f_X5_spreadThroughBoth_l86 k0 k1 k2 n x5 x6 S = some ((), S') → sd_H D cy ad A s S H locs → lv_has ls 8 [(0, .ref (ad k0)), (2, .ref (ad k2)), (5, .int x5), (6, .int x6)] → W p l e (sd_rm 2) s m args below meth c H locs 0 0 (MQ below (sd_Qv D cy ad A S') args s 0 0 A) (F0 m 86 ls []) := by
  obtain ⟨hx, hb, -, hml, hown, hts, -, hG⟩ := id C
  intro n
  induction n with
  | zero => intro x5 x6 S H locs ls h; cases h
  | succ n ih =>
    intro x5 x6 S H locs ls h X hl
    unfold f_X5_spreadThroughBoth_l86 at h
    refine lv_iload hx hb dX5_spreadThroughBoth_86 (lv_at hl 3 rfl) ?_
    refine lv_aload_n hx hb dX5_spreadThroughBoth_88 rfl (lv_at hl 1 rfl) ?_
    refine sd_g1_0 C X hk2 sd_w30_2 dX5_spreadThroughBoth_89 ?_
    refine lv_icmp_ge (tgt := 120) hx hb dX5_spreadThroughBoth_92 (by decide) (fun c_9 => ?_) (fun c_9 => ?_)
    · have h := sd_ifp c_9 h
      cases h
      exact sd_vret C X dX5_spreadThroughBoth_120
    · have h := sd_ifn c_9 h
      refine lv_aload_n hx hb dX5_spreadThroughBoth_95 rfl (lv_at hl 1 rfl) ?_
      refine sd_g1_1 (k := k2) C X hk2 sd_w30_3 dX5_spreadThroughBoth_96 ?_
      refine lv_iload hx hb dX5_spreadThroughBoth_99 (lv_at hl 3 rfl) ?_
      obtain ⟨b_10, v_10, e_10, h⟩ := sd_ld_some h
      refine sd_iald C X (sd_k1_2 hk2) b_10 dX5_spreadThroughBoth_101 (sd_nmi e_10 ?_)
      refine lv_iload hx hb dX5_spreadThroughBoth_102 (lv_at hl 2 rfl) ?_
      refine lv_icmp_gt (tgt := 120) hx hb dX5_spreadThroughBoth_104 (by decide) (fun c_11 => ?_) (fun c_11 => ?_)
      · have h := sd_ifp c_11 h
        cases h
        exact sd_vret C X dX5_spreadThroughBoth_120
      · have h := sd_ifn c_11 h
        refine lv_aload_n hx hb dX5_spreadThroughBoth_107 rfl (lv_at hl 0 rfl) ?_
        refine lv_aload_n hx hb dX5_spreadThroughBoth_108 rfl (lv_at hl 1 rfl) ?_
        refine lv_iload hx hb dX5_spreadThroughBoth_109 (lv_at hl 3 rfl) ?_
        obtain ⟨r_13, S_12, er_13, h⟩ := sd_cl_some h
        refine k_X5_pass C X hl.1 hk0 hk2 er_13 sd_w30_11 (by decide) (Nat.le_of_ble_eq_true rfl) dX5_spreadThroughBoth_111 (fun H locs X => ?_)
        refine lv_iinc (v := (x6 + (1 : Int32))) (lv' := [(6, .int (x6 + (1 : Int32))), (0, .ref (ad k0)), (2, .ref (ad k2)), (5, .int x5)]) hx hb dX5_spreadThroughBoth_114 hl (k := 3) rfl rfl (by decide) rfl (fun ls hl => ?_)
        refine lv_goto (tgt := 86) hx hb dX5_spreadThroughBoth_117 (by decide) ?_
        exact ih x5 (x6 + (1 : Int32)) S_12 _ _ _ h X (lv_sub hl [1, 2, 3, 0] rfl)
def f_X5_spreadThroughBoth_l13 (k0 : Nat) (k1 : Nat) (k2 : Nat) : Nat → Int32 → Int32 → Int32 → sd_St → Option (Unit × sd_St)
  | 0 => fun _ _ _ _ => none
  | n + 1 => fun x5 x6 x7 S => (if (S.1 k1 0) ≤ x7 then f_X5_spreadThroughBoth_l86 k0 k1 k2 sd_FU x5 x6 S else sd_ld S (k1 + 2) x7 (fun v_15 => (if x5 < v_15 then f_X5_spreadThroughBoth_l86 k0 k1 k2 sd_FU x5 x6 S else f_X5_spreadThroughBoth_l34 (f_X5_spreadThroughBoth_l13 k0 k1 k2 n) k0 k1 k2 sd_FU x5 x6 x7 S)))
set_option maxHeartbeats 4000000 in
set_option maxRecDepth 100000 in
theorem t_X5_spreadThroughBoth_l13 (C : sd_C RX5 cX5_spreadThroughBoth 8 none D cy ad A b0 p s m args meth c) {k0 : Nat} {k1 : Nat} {k2 : Nat} (hk0 : sd_kd k0 = 5) (hk1 : sd_kd k1 = 1) (hk2 : sd_kd k2 = 1) {S' : sd_St} : ∀ (n : Nat) (x5 : Int32) (x6 : Int32) (x7 : Int32) (S : sd_St) (H : Heap) (locs : List Loc) (ls : Array Slot), f_X5_spreadThroughBoth_l13 k0 k1 k2 n x5 x6 x7 S = some ((), S') → sd_H D cy ad A s S H locs → lv_has ls 8 [(0, .ref (ad k0)), (1, .ref (ad k1)), (2, .ref (ad k2)), (5, .int x5), (6, .int x6), (7, .int x7)] → W p l e (sd_rm 2) s m args below meth c H locs 0 0 (MQ below (sd_Qv D cy ad A S') args s 0 0 A) (F0 m 13 ls []) := by
  obtain ⟨hx, hb, -, hml, hown, hts, -, hG⟩ := id C
  intro n
  induction n with
  | zero => intro x5 x6 x7 S H locs ls h; cases h
  | succ n ih =>
    intro x5 x6 x7 S H locs ls h X hl
    unfold f_X5_spreadThroughBoth_l13 at h
    refine lv_iload hx hb dX5_spreadThroughBoth_13 (lv_at hl 5 rfl) ?_
    refine lv_aload_n hx hb dX5_spreadThroughBoth_15 rfl (lv_at hl 1 rfl) ?_
    refine sd_g1_0 C X hk1 sd_w30_2 dX5_spreadThroughBoth_16 ?_
    refine lv_icmp_ge (tgt := 86) hx hb dX5_spreadThroughBoth_19 (by decide) (fun c_14 => ?_) (fun c_14 => ?_)
    · have h := sd_ifp c_14 h
      exact t_X5_spreadThroughBoth_l86 C hk0 hk1 hk2 sd_FU x5 x6 S _ _ _ h X (lv_sub hl [0, 2, 3, 4] rfl)
    · have h := sd_ifn c_14 h
      refine lv_aload_n hx hb dX5_spreadThroughBoth_22 rfl (lv_at hl 1 rfl) ?_
      refine sd_g1_1 (k := k1) C X hk1 sd_w30_3 dX5_spreadThroughBoth_23 ?_
      refine lv_iload hx hb dX5_spreadThroughBoth_26 (lv_at hl 5 rfl) ?_
      obtain ⟨b_15, v_15, e_15, h⟩ := sd_ld_some h
      refine sd_iald C X (sd_k1_2 hk1) b_15 dX5_spreadThroughBoth_28 (sd_nmi e_15 ?_)
      refine lv_iload hx hb dX5_spreadThroughBoth_29 (lv_at hl 3 rfl) ?_
      refine lv_icmp_gt (tgt := 86) hx hb dX5_spreadThroughBoth_31 (by decide) (fun c_16 => ?_) (fun c_16 => ?_)
      · have h := sd_ifp c_16 h
        exact t_X5_spreadThroughBoth_l86 C hk0 hk1 hk2 sd_FU x5 x6 S _ _ _ h X (lv_sub hl [0, 2, 3, 4] rfl)
      · have h := sd_ifn c_16 h
        exact t_X5_spreadThroughBoth_l34 C hk0 hk1 hk2 ih sd_FU x5 x6 x7 S _ _ _ h X (lv_sub hl [0, 1, 2, 3, 4, 5] rfl)
def f_X5_spreadThroughBoth (k0 : Nat) (k1 : Nat) (k2 : Nat) (x3 : Int32) (x4 : Int32) (x5 : Int32) (S : sd_St) : Option (Unit × sd_St) := sd_cl (f_X5_begin k0 x3 x4 S) (fun _ S_17 => f_X5_spreadThroughBoth_l13 k0 k1 k2 sd_FU x5 (0 : Int32) (0 : Int32) S_17)
set_option maxHeartbeats 4000000 in
set_option maxRecDepth 100000 in
theorem c_X5_spreadThroughBoth {k0 : Nat} {k1 : Nat} {k2 : Nat} {x3 : Int32} {x4 : Int32} {x5 : Int32} (hk0 : sd_kd k0 = 5) (hk1 : sd_kd k1 = 1) (hk2 : sd_kd k2 = 1) {S S' : sd_St} (h : f_X5_spreadThroughBoth k0 k1 k2 x3 x4 x5 S = some ((), S')) : Met l yX5_spreadThroughBoth (Cond.code yX5_spreadThroughBoth cX5_spreadThroughBoth 8 none :: sd_wl) (sd_rm 2) (sd_P D cy ad A b0 [.ref (ad k0), .ref (ad k1), .ref (ad k2), .int x3, .int x4, .int x5] S) (sd_Qv D cy ad A S') 0 0 A := by
  refine sd_met (by decide) (Nat.le_of_ble_eq_true rfl) (fun p e s m args below meth c ls C X hl => ?_)
  obtain ⟨hx, hb, -, hml, hown, hts, -, hG⟩ := id C
  replace C : sd_C RX5 cX5_spreadThroughBoth 8 none D cy ad A b0 p s m args meth c := C
  replace hl : lv_has ls 8 [(0, .ref (ad k0)), (1, .ref (ad k1)), (2, .ref (ad k2)), (3, .int x3), (4, .int x4), (5, .int x5)] := hl
  unfold f_X5_spreadThroughBoth at h
  refine lv_aload_n hx hb dX5_spreadThroughBoth_0 rfl (lv_at hl 0 rfl) ?_
  refine lv_iload_n hx hb dX5_spreadThroughBoth_1 rfl (lv_at hl 3 rfl) ?_
  refine lv_iload hx hb dX5_spreadThroughBoth_2 (lv_at hl 4 rfl) ?_
  obtain ⟨r_18, S_17, er_18, h⟩ := sd_cl_some h
  refine k_X5_begin C X hl.1 hk0 er_18 sd_w30_4 (by decide) (Nat.le_of_ble_eq_true rfl) dX5_spreadThroughBoth_4 (fun H locs X => ?_)
  refine lv_iconst (v := (0 : Int32)) hx hb dX5_spreadThroughBoth_7 (by decide) ?_
  refine lv_istore (lv' := [(6, .int (0 : Int32)), (0, .ref (ad k0)), (1, .ref (ad k1)), (2, .ref (ad k2)), (3, .int x3), (4, .int x4), (5, .int x5)]) hx hb dX5_spreadThroughBoth_8 hl (by decide) rfl (fun ls hl => ?_)
  refine lv_iconst (v := (0 : Int32)) hx hb dX5_spreadThroughBoth_10 (by decide) ?_
  refine lv_istore (lv' := [(7, .int (0 : Int32)), (6, .int (0 : Int32)), (0, .ref (ad k0)), (1, .ref (ad k1)), (2, .ref (ad k2)), (3, .int x3), (4, .int x4), (5, .int x5)]) hx hb dX5_spreadThroughBoth_11 hl (by decide) rfl (fun ls hl => ?_)
  exact t_X5_spreadThroughBoth_l13 C hk0 hk1 hk2 sd_FU x5 (0 : Int32) (0 : Int32) S_17 _ _ _ h X (lv_sub hl [2, 3, 4, 7, 1, 0] rfl)
theorem k_X5_spreadThroughBoth (C : sd_C own cc nL rt D cy ad A b0 p s m args meth c) (X : sd_H D cy ad A s S H locs) (hls : ls.size = nL) {k0 : Nat} {k1 : Nat} {k2 : Nat} {x3 : Int32} {x4 : Int32} {x5 : Int32} {S2 : sd_St} (hk0 : sd_kd k0 = 5) (hk1 : sd_kd k1 = 1) (hk2 : sd_kd k2 = 1) (h : f_X5_spreadThroughBoth k0 k1 k2 x3 x4 x5 S = some ((), S2)) (hlink : Cond.methodLink own index yX5_spreadThroughBoth ∈ sd_wl) (hR : 3 ≤ R.frames ∧ 107 ≤ R.locals ∧ cells ≤ R.cells ∧ slots ≤ R.slots) (hst : (rest.map fun v => v.category).sum ≤ 8) (hdg : decode cc pc = .ok (.invokevirtual index, 3)) (kk : ∀ (H1 : Heap) (locs1 : List Loc), sd_H D cy ad A s S2 H1 locs1 → W p l e R s m args below meth c H1 locs1 cells slots Q (F0 m (pc + 3) ls rest)) : W p l e R s m args below meth c H locs cells slots Q (F0 m pc ls (.int x5 :: .int x4 :: .int x3 :: .ref (ad k2) :: .ref (ad k1) :: .ref (ad k0) :: rest)) :=
  sd_goV X (sd_runV C X hls (n := 5) (k := k0) (As := [.ref (ad k1), .ref (ad k2), .int x3, .int x4, .int x5]) (c_X5_spreadThroughBoth (l := l) (b0 := b0) hk0 hk1 hk2 h) (sd_goodV hlink sd_w43_5 sd_w43_6 sd_w2_4 sd_w43_7) (ci := 5) rfl (by rw [hk0]; decide) (sd_c5 hk0) (by decide +kernel) rfl hR rfl hst hdg) kk
/-! ===== SecretDays$Rumour.traceDoor(LSecretDays$Doors;I)V ===== -/
def f_X5_traceDoor_b131 (q10 : (Int32 → Int32 → Int32 → sd_St → Option (Unit × sd_St))) (k0 : Nat) (k1 : Nat) (x2 : Int32) (x3 : Int32) (x4 : Int32) (S : sd_St) : Option (Unit × sd_St) := q10 x2 x3 (x4 + (1 : Int32)) S
set_option maxHeartbeats 4000000 in
set_option maxRecDepth 100000 in
theorem t_X5_traceDoor_b131 (C : sd_C RX5 cX5_traceDoor 6 none D cy ad A b0 p s m args meth c) {k0 : Nat} {k1 : Nat} (hk0 : sd_kd k0 = 5) (hk1 : sd_kd k1 = 1) {S' : sd_St} {q10 : (Int32 → Int32 → Int32 → sd_St → Option (Unit × sd_St))} (hq10 : ∀ (x2 : Int32) (x3 : Int32) (x4 : Int32) (S : sd_St) (H : Heap) (locs : List Loc) (ls : Array Slot), q10 x2 x3 x4 S = some ((), S') → sd_H D cy ad A s S H locs → lv_has ls 6 [(0, .ref (ad k0)), (1, .ref (ad k1)), (2, .int x2), (3, .int x3), (4, .int x4)] → W p l e (sd_rm 1) s m args below meth c H locs 0 0 (MQ below (sd_Qv D cy ad A S') args s 0 0 A) (F0 m 10 ls [])) : ∀ (x2 : Int32) (x3 : Int32) (x4 : Int32) (S : sd_St) (H : Heap) (locs : List Loc) (ls : Array Slot), f_X5_traceDoor_b131 q10 k0 k1 x2 x3 x4 S = some ((), S') → sd_H D cy ad A s S H locs → lv_has ls 6 [(0, .ref (ad k0)), (1, .ref (ad k1)), (2, .int x2), (3, .int x3), (4, .int x4)] → W p l e (sd_rm 1) s m args below meth c H locs 0 0 (MQ below (sd_Qv D cy ad A S') args s 0 0 A) (F0 m 131 ls []) := by
  obtain ⟨hx, hb, -, hml, hown, hts, -, hG⟩ := id C
  intro x2 x3 x4 S H locs ls h X hl
  unfold f_X5_traceDoor_b131 at h
  refine lv_iinc (v := (x4 + (1 : Int32))) (lv' := [(4, .int (x4 + (1 : Int32))), (0, .ref (ad k0)), (1, .ref (ad k1)), (2, .int x2), (3, .int x3)]) hx hb dX5_traceDoor_131 hl (k := 4) rfl rfl (by decide) rfl (fun ls hl => ?_)
  refine lv_goto (tgt := 10) hx hb dX5_traceDoor_134 (by decide) ?_
  exact hq10 x2 x3 (x4 + (1 : Int32)) S _ _ _ h X (lv_sub hl [1, 2, 3, 4, 0] rfl)
def f_X5_traceDoor_b107 (q10 : (Int32 → Int32 → Int32 → sd_St → Option (Unit × sd_St))) (k0 : Nat) (k1 : Nat) (x2 : Int32) (x3 : Int32) (x4 : Int32) (S : sd_St) : Option (Unit × sd_St) := sd_ld S (k0 + 4) x4 (fun v_1 => sd_ld S (k0 + 4) x3 (fun v_2 => sd_st S (k0 + 4) x4 (sd_rem (v_1 + v_2) (1000000007 : Int32)) (fun S_3 => f_X5_traceDoor_b131 q10 k0 k1 x2 x3 x4 S_3)))
set_option maxHeartbeats 4000000 in
set_option maxRecDepth 100000 in
theorem t_X5_traceDoor_b107 (C : sd_C RX5 cX5_traceDoor 6 none D cy ad A b0 p s m args meth c) {k0 : Nat} {k1 : Nat} (hk0 : sd_kd k0 = 5) (hk1 : sd_kd k1 = 1) {S' : sd_St} {q10 : (Int32 → Int32 → Int32 → sd_St → Option (Unit × sd_St))} (hq10 : ∀ (x2 : Int32) (x3 : Int32) (x4 : Int32) (S : sd_St) (H : Heap) (locs : List Loc) (ls : Array Slot), q10 x2 x3 x4 S = some ((), S') → sd_H D cy ad A s S H locs → lv_has ls 6 [(0, .ref (ad k0)), (1, .ref (ad k1)), (2, .int x2), (3, .int x3), (4, .int x4)] → W p l e (sd_rm 1) s m args below meth c H locs 0 0 (MQ below (sd_Qv D cy ad A S') args s 0 0 A) (F0 m 10 ls [])) : ∀ (x2 : Int32) (x3 : Int32) (x4 : Int32) (S : sd_St) (H : Heap) (locs : List Loc) (ls : Array Slot), f_X5_traceDoor_b107 q10 k0 k1 x2 x3 x4 S = some ((), S') → sd_H D cy ad A s S H locs → lv_has ls 6 [(0, .ref (ad k0)), (1, .ref (ad k1)), (2, .int x2), (3, .int x3), (4, .int x4)] → W p l e (sd_rm 1) s m args below meth c H locs 0 0 (MQ below (sd_Qv D cy ad A S') args s 0 0 A) (F0 m 107 ls []) := by
  obtain ⟨hx, hb, -, hml, hown, hts, -, hG⟩ := id C
  intro x2 x3 x4 S H locs ls h X hl
  unfold f_X5_traceDoor_b107 at h
  refine lv_aload_n hx hb dX5_traceDoor_107 rfl (lv_at hl 0 rfl) ?_
  refine sd_g5_5 (k := k0) C X hk0 sd_w5_3 dX5_traceDoor_108 ?_
  refine lv_iload hx hb dX5_traceDoor_111 (lv_at hl 4 rfl) ?_
  refine lv_aload_n hx hb dX5_traceDoor_113 rfl (lv_at hl 0 rfl) ?_
  refine sd_g5_5 (k := k0) C X hk0 sd_w5_3 dX5_traceDoor_114 ?_
  refine lv_iload hx hb dX5_traceDoor_117 (lv_at hl 4 rfl) ?_
  obtain ⟨b_1, v_1, e_1, h⟩ := sd_ld_some h
  refine sd_iald C X (sd_k5_4 hk0) b_1 dX5_traceDoor_119 (sd_nmi e_1 ?_)
  refine lv_aload_n hx hb dX5_traceDoor_120 rfl (lv_at hl 0 rfl) ?_
  refine sd_g5_5 (k := k0) C X hk0 sd_w5_3 dX5_traceDoor_121 ?_
  refine lv_iload_n hx hb dX5_traceDoor_124 rfl (lv_at hl 3 rfl) ?_
  obtain ⟨b_2, v_2, e_2, h⟩ := sd_ld_some h
  refine sd_iald C X (sd_k5_4 hk0) b_2 dX5_traceDoor_125 (sd_nmi e_2 ?_)
  refine lv_iadd hx hb dX5_traceDoor_126 ?_
  refine lv_ldc (v := (1000000007 : Int32)) hx hb hown (hts _ sd_w31_1) dX5_traceDoor_127 ?_
  refine lv_irem hx hb dX5_traceDoor_129 (by decide) ?_
  obtain ⟨bS_3, S_3, eS_3, h⟩ := sd_st_some h
  refine sd_iast C X (sd_k5_4 hk0) bS_3 dX5_traceDoor_130 (fun H locs X => ?_)
  rw [← eS_3] at X
  exact t_X5_traceDoor_b131 C hk0 hk1 hq10 x2 x3 x4 S_3 _ _ _ h X (lv_sub hl [0, 1, 2, 3, 4] rfl)
def f_X5_traceDoor_b49 (q10 : (Int32 → Int32 → Int32 → sd_St → Option (Unit × sd_St))) (k0 : Nat) (k1 : Nat) (x2 : Int32) (x3 : Int32) (x4 : Int32) (w0 : Int32) (S : sd_St) : Option (Unit × sd_St) := (if w0 = 0 then f_X5_traceDoor_b131 q10 k0 k1 x2 x3 x4 S else sd_ld S (k1 + 4) x2 (fun v_5 => sd_cl (f_X11_has v_5 x4 S) (fun r_7 S_6 => (if r_7 = 0 then f_X5_traceDoor_b131 q10 k0 k1 x2 x3 x4 S_6 else sd_ld S_6 (k0 + 2) x4 (fun v_9 => (if v_9 = (-1 : Int32) then sd_st S_6 (k0 + 2) x4 x3 (fun S_11 => sd_ld S_11 (k0 + 3) x3 (fun v_12 => sd_st S_11 (k0 + 3) x4 (v_12 + (1 : Int32)) (fun S_13 => f_X5_traceDoor_b107 q10 k0 k1 x2 x3 x4 S_13))) else f_X5_traceDoor_b107 q10 k0 k1 x2 x3 x4 S_6))))))
set_option maxHeartbeats 4000000 in
set_option maxRecDepth 100000 in
theorem t_X5_traceDoor_b49 (C : sd_C RX5 cX5_traceDoor 6 none D cy ad A b0 p s m args meth c) {k0 : Nat} {k1 : Nat} (hk0 : sd_kd k0 = 5) (hk1 : sd_kd k1 = 1) {S' : sd_St} {q10 : (Int32 → Int32 → Int32 → sd_St → Option (Unit × sd_St))} (hq10 : ∀ (x2 : Int32) (x3 : Int32) (x4 : Int32) (S : sd_St) (H : Heap) (locs : List Loc) (ls : Array Slot), q10 x2 x3 x4 S = some ((), S') → sd_H D cy ad A s S H locs → lv_has ls 6 [(0, .ref (ad k0)), (1, .ref (ad k1)), (2, .int x2), (3, .int x3), (4, .int x4)] → W p l e (sd_rm 1) s m args below meth c H locs 0 0 (MQ below (sd_Qv D cy ad A S') args s 0 0 A) (F0 m 10 ls [])) : ∀ (x2 : Int32) (x3 : Int32) (x4 : Int32) (w0 : Int32) (S : sd_St) (H : Heap) (locs : List Loc) (ls : Array Slot), f_X5_traceDoor_b49 q10 k0 k1 x2 x3 x4 w0 S = some ((), S') → sd_H D cy ad A s S H locs → lv_has ls 6 [(0, .ref (ad k0)), (1, .ref (ad k1)), (2, .int x2), (3, .int x3), (4, .int x4)] → W p l e (sd_rm 1) s m args below meth c H locs 0 0 (MQ below (sd_Qv D cy ad A S') args s 0 0 A) (F0 m 49 ls [.int w0]) := by
  obtain ⟨hx, hb, -, hml, hown, hts, -, hG⟩ := id C
  intro x2 x3 x4 w0 S H locs ls h X hl
  unfold f_X5_traceDoor_b49 at h
  refine lv_istore (lv' := [(5, .int w0), (0, .ref (ad k0)), (1, .ref (ad k1)), (2, .int x2), (3, .int x3), (4, .int x4)]) hx hb dX5_traceDoor_49 hl (by decide) rfl (fun ls hl => ?_)
  refine lv_iload hx hb dX5_traceDoor_51 (lv_at hl 0 rfl) ?_
  refine lv_if_eq (tgt := 131) hx hb dX5_traceDoor_53 (by decide) (fun c_4 => ?_) (fun c_4 => ?_)
  · have h := sd_ifp c_4 h
    exact t_X5_traceDoor_b131 C hk0 hk1 hq10 x2 x3 x4 S _ _ _ h X (lv_sub hl [1, 2, 3, 4, 5] rfl)
  · have h := sd_ifn c_4 h
    refine lv_aload_n hx hb dX5_traceDoor_56 rfl (lv_at hl 2 rfl) ?_
    refine sd_g1_3 (k := k1) C X hk1 sd_w30_15 dX5_traceDoor_57 ?_
    refine lv_iload_n hx hb dX5_traceDoor_60 rfl (lv_at hl 3 rfl) ?_
    obtain ⟨b_5, v_5, e_5, h⟩ := sd_ld_some h
    refine sd_iald C X (sd_k1_4 hk1) b_5 dX5_traceDoor_61 (sd_nmi e_5 ?_)
    refine lv_iload hx hb dX5_traceDoor_62 (lv_at hl 5 rfl) ?_
    obtain ⟨r_7, S_6, er_7, h⟩ := sd_cl_some h
    refine k_X11_has_n C X hl.1 er_7 (List.mem_of_getElem? (i := 14) rfl) (by decide) (Nat.le_of_ble_eq_true rfl) dX5_traceDoor_64 (fun H locs X => ?_)
    refine lv_if_ne (tgt := 73) hx hb dX5_traceDoor_67 (by decide) (fun c_8 => ?_) (fun c_8 => ?_)
    · have h := sd_ifn c_8 h
      refine lv_aload_n hx hb dX5_traceDoor_73 rfl (lv_at hl 1 rfl) ?_
      refine sd_g5_3 (k := k0) C X hk0 sd_w5_1 dX5_traceDoor_74 ?_
      refine lv_iload hx hb dX5_traceDoor_77 (lv_at hl 5 rfl) ?_
      obtain ⟨b_9, v_9, e_9, h⟩ := sd_ld_some h
      refine sd_iald C X (sd_k5_2 hk0) b_9 dX5_traceDoor_79 (sd_nmi e_9 ?_)
      refine lv_iconst (v := (-1 : Int32)) hx hb dX5_traceDoor_80 (by decide) ?_
      refine lv_icmp_ne (tgt := 107) hx hb dX5_traceDoor_81 (by decide) (fun c_10 => ?_) (fun c_10 => ?_)
      · have h := sd_ifn c_10 h
        exact t_X5_traceDoor_b107 C hk0 hk1 hq10 x2 x3 x4 S_6 _ _ _ h X (lv_sub hl [1, 2, 3, 4, 5] rfl)
      · have h := sd_ifp c_10 h
        refine lv_aload_n hx hb dX5_traceDoor_84 rfl (lv_at hl 1 rfl) ?_
        refine sd_g5_3 (k := k0) C X hk0 sd_w5_1 dX5_traceDoor_85 ?_
        refine lv_iload hx hb dX5_traceDoor_88 (lv_at hl 5 rfl) ?_
        refine lv_iload_n hx hb dX5_traceDoor_90 rfl (lv_at hl 4 rfl) ?_
        obtain ⟨bS_11, S_11, eS_11, h⟩ := sd_st_some h
        refine sd_iast C X (sd_k5_2 hk0) bS_11 dX5_traceDoor_91 (fun H locs X => ?_)
        rw [← eS_11] at X
        refine lv_aload_n hx hb dX5_traceDoor_92 rfl (lv_at hl 1 rfl) ?_
        refine sd_g5_4 (k := k0) C X hk0 sd_w5_2 dX5_traceDoor_93 ?_
        refine lv_iload hx hb dX5_traceDoor_96 (lv_at hl 5 rfl) ?_
        refine lv_aload_n hx hb dX5_traceDoor_98 rfl (lv_at hl 1 rfl) ?_
        refine sd_g5_4 (k := k0) C X hk0 sd_w5_2 dX5_traceDoor_99 ?_
        refine lv_iload_n hx hb dX5_traceDoor_102 rfl (lv_at hl 4 rfl) ?_
        obtain ⟨b_12, v_12, e_12, h⟩ := sd_ld_some h
        refine sd_iald C X (sd_k5_3 hk0) b_12 dX5_traceDoor_103 (sd_nmi e_12 ?_)
        refine lv_iconst (v := (1 : Int32)) hx hb dX5_traceDoor_104 (by decide) ?_
        refine lv_iadd hx hb dX5_traceDoor_105 ?_
        obtain ⟨bS_13, S_13, eS_13, h⟩ := sd_st_some h
        refine sd_iast C X (sd_k5_3 hk0) bS_13 dX5_traceDoor_106 (fun H locs X => ?_)
        rw [← eS_13] at X
        exact t_X5_traceDoor_b107 C hk0 hk1 hq10 x2 x3 x4 S_13 _ _ _ h X (lv_sub hl [1, 2, 3, 4, 5] rfl)
    · have h := sd_ifp c_8 h
      refine lv_goto (tgt := 131) hx hb dX5_traceDoor_70 (by decide) ?_
      exact t_X5_traceDoor_b131 C hk0 hk1 hq10 x2 x3 x4 S_6 _ _ _ h X (lv_sub hl [1, 2, 3, 4, 5] rfl)
def f_X5_traceDoor_b48 (q10 : (Int32 → Int32 → Int32 → sd_St → Option (Unit × sd_St))) (k0 : Nat) (k1 : Nat) (x2 : Int32) (x3 : Int32) (x4 : Int32) (S : sd_St) : Option (Unit × sd_St) := f_X5_traceDoor_b49 q10 k0 k1 x2 x3 x4 (0 : Int32) S
set_option maxHeartbeats 4000000 in
set_option maxRecDepth 100000 in
theorem t_X5_traceDoor_b48 (C : sd_C RX5 cX5_traceDoor 6 none D cy ad A b0 p s m args meth c) {k0 : Nat} {k1 : Nat} (hk0 : sd_kd k0 = 5) (hk1 : sd_kd k1 = 1) {S' : sd_St} {q10 : (Int32 → Int32 → Int32 → sd_St → Option (Unit × sd_St))} (hq10 : ∀ (x2 : Int32) (x3 : Int32) (x4 : Int32) (S : sd_St) (H : Heap) (locs : List Loc) (ls : Array Slot), q10 x2 x3 x4 S = some ((), S') → sd_H D cy ad A s S H locs → lv_has ls 6 [(0, .ref (ad k0)), (1, .ref (ad k1)), (2, .int x2), (3, .int x3), (4, .int x4)] → W p l e (sd_rm 1) s m args below meth c H locs 0 0 (MQ below (sd_Qv D cy ad A S') args s 0 0 A) (F0 m 10 ls [])) : ∀ (x2 : Int32) (x3 : Int32) (x4 : Int32) (S : sd_St) (H : Heap) (locs : List Loc) (ls : Array Slot), f_X5_traceDoor_b48 q10 k0 k1 x2 x3 x4 S = some ((), S') → sd_H D cy ad A s S H locs → lv_has ls 6 [(0, .ref (ad k0)), (1, .ref (ad k1)), (2, .int x2), (3, .int x3), (4, .int x4)] → W p l e (sd_rm 1) s m args below meth c H locs 0 0 (MQ below (sd_Qv D cy ad A S') args s 0 0 A) (F0 m 48 ls []) := by
  obtain ⟨hx, hb, -, hml, hown, hts, -, hG⟩ := id C
  intro x2 x3 x4 S H locs ls h X hl
  unfold f_X5_traceDoor_b48 at h
  refine lv_iconst (v := (0 : Int32)) hx hb dX5_traceDoor_48 (by decide) ?_
  exact t_X5_traceDoor_b49 C hk0 hk1 hq10 x2 x3 x4 (0 : Int32) S _ _ _ h X (lv_sub hl [0, 1, 2, 3, 4] rfl)
def f_X5_traceDoor_l10 (k0 : Nat) (k1 : Nat) : Nat → Int32 → Int32 → Int32 → sd_St → Option (Unit × sd_St)
  | 0 => fun _ _ _ _ => none
  | n + 1 => fun x2 x3 x4 S => (if (12 : Int32) ≤ x4 then (some ((), S)) else sd_ld S (k0 + 1) x4 (fun v_15 => sd_ld S (k1 + 2) x2 (fun v_16 => (if v_15 = (v_16 + (1 : Int32)) then (if x4 = (S.1 k0 0) then f_X5_traceDoor_b48 (f_X5_traceDoor_l10 k0 k1 n) k0 k1 x2 x3 x4 S else f_X5_traceDoor_b49 (f_X5_traceDoor_l10 k0 k1 n) k0 k1 x2 x3 x4 (1 : Int32) S) else f_X5_traceDoor_b48 (f_X5_traceDoor_l10 k0 k1 n) k0 k1 x2 x3 x4 S))))
set_option maxHeartbeats 4000000 in
set_option maxRecDepth 100000 in
theorem t_X5_traceDoor_l10 (C : sd_C RX5 cX5_traceDoor 6 none D cy ad A b0 p s m args meth c) {k0 : Nat} {k1 : Nat} (hk0 : sd_kd k0 = 5) (hk1 : sd_kd k1 = 1) {S' : sd_St} : ∀ (n : Nat) (x2 : Int32) (x3 : Int32) (x4 : Int32) (S : sd_St) (H : Heap) (locs : List Loc) (ls : Array Slot), f_X5_traceDoor_l10 k0 k1 n x2 x3 x4 S = some ((), S') → sd_H D cy ad A s S H locs → lv_has ls 6 [(0, .ref (ad k0)), (1, .ref (ad k1)), (2, .int x2), (3, .int x3), (4, .int x4)] → W p l e (sd_rm 1) s m args below meth c H locs 0 0 (MQ below (sd_Qv D cy ad A S') args s 0 0 A) (F0 m 10 ls []) := by
  obtain ⟨hx, hb, -, hml, hown, hts, -, hG⟩ := id C
  intro n
  induction n with
  | zero => intro x2 x3 x4 S H locs ls h; cases h
  | succ n ih =>
    intro x2 x3 x4 S H locs ls h X hl
    unfold f_X5_traceDoor_l10 at h
    refine lv_iload hx hb dX5_traceDoor_10 (lv_at hl 4 rfl) ?_
    refine lv_bipush (v := (12 : Int32)) hx hb dX5_traceDoor_12 (by decide) ?_
    refine lv_icmp_ge (tgt := 137) hx hb dX5_traceDoor_14 (by decide) (fun c_14 => ?_) (fun c_14 => ?_)
    · have h := sd_ifp c_14 h
      cases h
      exact sd_vret C X dX5_traceDoor_137
    · have h := sd_ifn c_14 h
      refine lv_aload_n hx hb dX5_traceDoor_17 rfl (lv_at hl 0 rfl) ?_
      refine sd_g5_2 (k := k0) C X hk0 sd_w5_0 dX5_traceDoor_18 ?_
      refine lv_iload hx hb dX5_traceDoor_21 (lv_at hl 4 rfl) ?_
      obtain ⟨b_15, v_15, e_15, h⟩ := sd_ld_some h
      refine sd_iald C X (sd_k5_1 hk0) b_15 dX5_traceDoor_23 (sd_nmi e_15 ?_)
      refine lv_aload_n hx hb dX5_traceDoor_24 rfl (lv_at hl 1 rfl) ?_
      refine sd_g1_1 (k := k1) C X hk1 sd_w30_3 dX5_traceDoor_25 ?_
      refine lv_iload_n hx hb dX5_traceDoor_28 rfl (lv_at hl 2 rfl) ?_
      obtain ⟨b_16, v_16, e_16, h⟩ := sd_ld_some h
      refine sd_iald C X (sd_k1_2 hk1) b_16 dX5_traceDoor_29 (sd_nmi e_16 ?_)
      refine lv_iconst (v := (1 : Int32)) hx hb dX5_traceDoor_30 (by decide) ?_
      refine lv_iadd hx hb dX5_traceDoor_31 ?_
      refine lv_icmp_ne (tgt := 48) hx hb dX5_traceDoor_32 (by decide) (fun c_17 => ?_) (fun c_17 => ?_)
      · have h := sd_ifn c_17 h
        exact t_X5_traceDoor_b48 C hk0 hk1 ih x2 x3 x4 S _ _ _ h X (lv_sub hl [0, 1, 2, 3, 4] rfl)
      · have h := sd_ifp c_17 h
        refine lv_iload hx hb dX5_traceDoor_35 (lv_at hl 4 rfl) ?_
        refine lv_aload_n hx hb dX5_traceDoor_37 rfl (lv_at hl 0 rfl) ?_
        refine sd_g5_0 C X hk0 sd_w30_8 dX5_traceDoor_38 ?_
        refine lv_icmp_eq (tgt := 48) hx hb dX5_traceDoor_41 (by decide) (fun c_18 => ?_) (fun c_18 => ?_)
        · have h := sd_ifp c_18 h
          exact t_X5_traceDoor_b48 C hk0 hk1 ih x2 x3 x4 S _ _ _ h X (lv_sub hl [0, 1, 2, 3, 4] rfl)
        · have h := sd_ifn c_18 h
          refine lv_iconst (v := (1 : Int32)) hx hb dX5_traceDoor_44 (by decide) ?_
          refine lv_goto (tgt := 49) hx hb dX5_traceDoor_45 (by decide) ?_
          exact t_X5_traceDoor_b49 C hk0 hk1 ih x2 x3 x4 (1 : Int32) S _ _ _ h X (lv_sub hl [0, 1, 2, 3, 4] rfl)
def f_X5_traceDoor (k0 : Nat) (k1 : Nat) (x2 : Int32) (S : sd_St) : Option (Unit × sd_St) := sd_ld S (k1 + 3) x2 (fun v_19 => f_X5_traceDoor_l10 k0 k1 sd_FU x2 v_19 (0 : Int32) S)
set_option maxHeartbeats 4000000 in
set_option maxRecDepth 100000 in
theorem c_X5_traceDoor {k0 : Nat} {k1 : Nat} {x2 : Int32} (hk0 : sd_kd k0 = 5) (hk1 : sd_kd k1 = 1) {S S' : sd_St} (h : f_X5_traceDoor k0 k1 x2 S = some ((), S')) : Met l yX5_traceDoor (Cond.code yX5_traceDoor cX5_traceDoor 6 none :: sd_wl) (sd_rm 1) (sd_P D cy ad A b0 [.ref (ad k0), .ref (ad k1), .int x2] S) (sd_Qv D cy ad A S') 0 0 A := by
  refine sd_met (by decide) (Nat.le_of_ble_eq_true rfl) (fun p e s m args below meth c ls C X hl => ?_)
  obtain ⟨hx, hb, -, hml, hown, hts, -, hG⟩ := id C
  replace C : sd_C RX5 cX5_traceDoor 6 none D cy ad A b0 p s m args meth c := C
  replace hl : lv_has ls 6 [(0, .ref (ad k0)), (1, .ref (ad k1)), (2, .int x2)] := hl
  unfold f_X5_traceDoor at h
  refine lv_aload_n hx hb dX5_traceDoor_0 rfl (lv_at hl 1 rfl) ?_
  refine sd_g1_2 (k := k1) C X hk1 sd_w30_16 dX5_traceDoor_1 ?_
  refine lv_iload_n hx hb dX5_traceDoor_4 rfl (lv_at hl 2 rfl) ?_
  obtain ⟨b_19, v_19, e_19, h⟩ := sd_ld_some h
  refine sd_iald C X (sd_k1_3 hk1) b_19 dX5_traceDoor_5 (sd_nmi e_19 ?_)
  refine lv_istore_n (lv' := [(3, .int v_19), (0, .ref (ad k0)), (1, .ref (ad k1)), (2, .int x2)]) hx hb dX5_traceDoor_6 rfl hl (by decide) rfl (fun ls hl => ?_)
  refine lv_iconst (v := (0 : Int32)) hx hb dX5_traceDoor_7 (by decide) ?_
  refine lv_istore (lv' := [(4, .int (0 : Int32)), (3, .int v_19), (0, .ref (ad k0)), (1, .ref (ad k1)), (2, .int x2)]) hx hb dX5_traceDoor_8 hl (by decide) rfl (fun ls hl => ?_)
  exact t_X5_traceDoor_l10 C hk0 hk1 sd_FU x2 v_19 (0 : Int32) S _ _ _ h X (lv_sub hl [2, 3, 4, 1, 0] rfl)
theorem k_X5_traceDoor (C : sd_C own cc nL rt D cy ad A b0 p s m args meth c) (X : sd_H D cy ad A s S H locs) (hls : ls.size = nL) {k0 : Nat} {k1 : Nat} {x2 : Int32} {S2 : sd_St} (hk0 : sd_kd k0 = 5) (hk1 : sd_kd k1 = 1) (h : f_X5_traceDoor k0 k1 x2 S = some ((), S2)) (hlink : Cond.methodLink own index yX5_traceDoor ∈ sd_wl) (hR : 2 ≤ R.frames ∧ 65 ≤ R.locals ∧ cells ≤ R.cells ∧ slots ≤ R.slots) (hst : (rest.map fun v => v.category).sum ≤ 8) (hdg : decode cc pc = .ok (.invokevirtual index, 3)) (kk : ∀ (H1 : Heap) (locs1 : List Loc), sd_H D cy ad A s S2 H1 locs1 → W p l e R s m args below meth c H1 locs1 cells slots Q (F0 m (pc + 3) ls rest)) : W p l e R s m args below meth c H locs cells slots Q (F0 m pc ls (.int x2 :: .ref (ad k1) :: .ref (ad k0) :: rest)) :=
  sd_goV X (sd_runV C X hls (n := 2) (k := k0) (As := [.ref (ad k1), .int x2]) (c_X5_traceDoor (l := l) (b0 := b0) hk0 hk1 h) (sd_goodV hlink sd_w30_22 sd_w30_23 sd_w2_4 sd_w31_0) (ci := 5) rfl (by rw [hk0]; decide) (sd_c5 hk0) (by decide +kernel) rfl hR rfl hst hdg) kk
/-! ===== SecretDays$Rumour.trace(LSecretDays$Doors;)V ===== -/
def f_X5_trace_b80 (q46 : (Int32 → sd_St → Option (Unit × sd_St))) (k0 : Nat) (k1 : Nat) (x2 : Int32) (S : sd_St) : Option (Unit × sd_St) := q46 (x2 + (1 : Int32)) S
set_option maxHeartbeats 4000000 in
set_option maxRecDepth 100000 in
theorem t_X5_trace_b80 (C : sd_C RX5 cX5_trace 3 none D cy ad A b0 p s m args meth c) {k0 : Nat} {k1 : Nat} (hk0 : sd_kd k0 = 5) (hk1 : sd_kd k1 = 1) {S' : sd_St} {q46 : (Int32 → sd_St → Option (Unit × sd_St))} (hq46 : ∀ (x2 : Int32) (S : sd_St) (H : Heap) (locs : List Loc) (ls : Array Slot), q46 x2 S = some ((), S') → sd_H D cy ad A s S H locs → lv_has ls 3 [(0, .ref (ad k0)), (1, .ref (ad k1)), (2, .int x2)] → W p l e (sd_rm 2) s m args below meth c H locs 0 0 (MQ below (sd_Qv D cy ad A S') args s 0 0 A) (F0 m 46 ls [])) : ∀ (x2 : Int32) (S : sd_St) (H : Heap) (locs : List Loc) (ls : Array Slot), f_X5_trace_b80 q46 k0 k1 x2 S = some ((), S') → sd_H D cy ad A s S H locs → lv_has ls 3 [(0, .ref (ad k0)), (1, .ref (ad k1)), (2, .int x2)] → W p l e (sd_rm 2) s m args below meth c H locs 0 0 (MQ below (sd_Qv D cy ad A S') args s 0 0 A) (F0 m 80 ls []) := by
  obtain ⟨hx, hb, -, hml, hown, hts, -, hG⟩ := id C
  intro x2 S H locs ls h X hl
  unfold f_X5_trace_b80 at h
  refine lv_iinc (v := (x2 + (1 : Int32))) (lv' := [(2, .int (x2 + (1 : Int32))), (0, .ref (ad k0)), (1, .ref (ad k1))]) hx hb dX5_trace_80 hl (k := 2) rfl rfl (by decide) rfl (fun ls hl => ?_)
  refine lv_goto (tgt := 46) hx hb dX5_trace_83 (by decide) ?_
  exact hq46 (x2 + (1 : Int32)) S _ _ _ h X (lv_sub hl [1, 2, 0] rfl)
def f_X5_trace_l46 (k0 : Nat) (k1 : Nat) : Nat → Int32 → sd_St → Option (Unit × sd_St)
  | 0 => fun _ _ => none
  | n + 1 => fun x2 S => (if (S.1 k1 0) ≤ x2 then (some ((), S)) else sd_ld S (k1 + 3) x2 (fun v_2 => sd_ld S (k0 + 1) v_2 (fun v_3 => sd_ld S (k1 + 2) x2 (fun v_4 => (if v_4 < v_3 then f_X5_trace_b80 (f_X5_trace_l46 k0 k1 n) k0 k1 x2 S else sd_cl (f_X5_traceDoor k0 k1 x2 S) (fun _ S_6 => f_X5_trace_b80 (f_X5_trace_l46 k0 k1 n) k0 k1 x2 S_6))))))
set_option maxHeartbeats 4000000 in
set_option maxRecDepth 100000 in
theorem t_X5_trace_l46 (C : sd_C RX5 cX5_trace 3 none D cy ad A b0 p s m args meth c) {k0 : Nat} {k1 : Nat} (hk0 : sd_kd k0 = 5) (hk1 : sd_kd k1 = 1) {S' : sd_St} : ∀ (n : Nat) (x2 : Int32) (S : sd_St) (H : Heap) (locs : List Loc) (ls : Array Slot), f_X5_trace_l46 k0 k1 n x2 S = some ((), S') → sd_H D cy ad A s S H locs → lv_has ls 3 [(0, .ref (ad k0)), (1, .ref (ad k1)), (2, .int x2)] → W p l e (sd_rm 2) s m args below meth c H locs 0 0 (MQ below (sd_Qv D cy ad A S') args s 0 0 A) (F0 m 46 ls []) := by
  obtain ⟨hx, hb, -, hml, hown, hts, -, hG⟩ := id C
  intro n
  induction n with
  | zero => intro x2 S H locs ls h; cases h
  | succ n ih =>
    intro x2 S H locs ls h X hl
    unfold f_X5_trace_l46 at h
    refine lv_iload_n hx hb dX5_trace_46 rfl (lv_at hl 2 rfl) ?_
    refine lv_aload_n hx hb dX5_trace_47 rfl (lv_at hl 1 rfl) ?_
    refine sd_g1_0 C X hk1 sd_w30_2 dX5_trace_48 ?_
    refine lv_icmp_ge (tgt := 86) hx hb dX5_trace_51 (by decide) (fun c_1 => ?_) (fun c_1 => ?_)
    · have h := sd_ifp c_1 h
      cases h
      exact sd_vret C X dX5_trace_86
    · have h := sd_ifn c_1 h
      refine lv_aload_n hx hb dX5_trace_54 rfl (lv_at hl 0 rfl) ?_
      refine sd_g5_2 (k := k0) C X hk0 sd_w5_0 dX5_trace_55 ?_
      refine lv_aload_n hx hb dX5_trace_58 rfl (lv_at hl 1 rfl) ?_
      refine sd_g1_2 (k := k1) C X hk1 sd_w30_16 dX5_trace_59 ?_
      refine lv_iload_n hx hb dX5_trace_62 rfl (lv_at hl 2 rfl) ?_
      obtain ⟨b_2, v_2, e_2, h⟩ := sd_ld_some h
      refine sd_iald C X (sd_k1_3 hk1) b_2 dX5_trace_63 (sd_nmi e_2 ?_)
      obtain ⟨b_3, v_3, e_3, h⟩ := sd_ld_some h
      refine sd_iald C X (sd_k5_1 hk0) b_3 dX5_trace_64 (sd_nmi e_3 ?_)
      refine lv_aload_n hx hb dX5_trace_65 rfl (lv_at hl 1 rfl) ?_
      refine sd_g1_1 (k := k1) C X hk1 sd_w30_3 dX5_trace_66 ?_
      refine lv_iload_n hx hb dX5_trace_69 rfl (lv_at hl 2 rfl) ?_
      obtain ⟨b_4, v_4, e_4, h⟩ := sd_ld_some h
      refine sd_iald C X (sd_k1_2 hk1) b_4 dX5_trace_70 (sd_nmi e_4 ?_)
      refine lv_icmp_gt (tgt := 80) hx hb dX5_trace_71 (by decide) (fun c_5 => ?_) (fun c_5 => ?_)
      · have h := sd_ifp c_5 h
        exact t_X5_trace_b80 C hk0 hk1 ih x2 S _ _ _ h X (lv_sub hl [0, 1, 2] rfl)
      · have h := sd_ifn c_5 h
        refine lv_aload_n hx hb dX5_trace_74 rfl (lv_at hl 0 rfl) ?_
        refine lv_aload_n hx hb dX5_trace_75 rfl (lv_at hl 1 rfl) ?_
        refine lv_iload_n hx hb dX5_trace_76 rfl (lv_at hl 2 rfl) ?_
        obtain ⟨r_7, S_6, er_7, h⟩ := sd_cl_some h
        refine k_X5_traceDoor C X hl.1 hk0 hk1 er_7 sd_w30_21 (by decide) (Nat.le_of_ble_eq_true rfl) dX5_trace_77 (fun H locs X => ?_)
        exact t_X5_trace_b80 C hk0 hk1 ih x2 S_6 _ _ _ h X (lv_sub hl [0, 1, 2] rfl)
def f_X5_trace (k0 : Nat) (k1 : Nat) (S : sd_St) : Option (Unit × sd_St) := sd_cl (f_J7_fill_53178 (k0 + 2) (-1 : Int32) S) (fun _ S_8 => sd_cl (f_J7_fill_53178 (k0 + 3) (-1 : Int32) S_8) (fun _ S_10 => sd_cl (f_J7_fill_53178 (k0 + 4) (0 : Int32) S_10) (fun _ S_12 => sd_st S_12 (k0 + 3) (S_12.1 k0 0) (0 : Int32) (fun S_14 => sd_st S_14 (k0 + 4) (S_14.1 k0 0) (1 : Int32) (fun S_15 => f_X5_trace_l46 k0 k1 sd_FU (0 : Int32) S_15)))))
set_option maxHeartbeats 4000000 in
set_option maxRecDepth 100000 in
theorem c_X5_trace {k0 : Nat} {k1 : Nat} (hk0 : sd_kd k0 = 5) (hk1 : sd_kd k1 = 1) {S S' : sd_St} (h : f_X5_trace k0 k1 S = some ((), S')) : Met l yX5_trace (Cond.code yX5_trace cX5_trace 3 none :: sd_wl) (sd_rm 2) (sd_P D cy ad A b0 [.ref (ad k0), .ref (ad k1)] S) (sd_Qv D cy ad A S') 0 0 A := by
  refine sd_met (by decide) (Nat.le_of_ble_eq_true rfl) (fun p e s m args below meth c ls C X hl => ?_)
  obtain ⟨hx, hb, -, hml, hown, hts, -, hG⟩ := id C
  replace C : sd_C RX5 cX5_trace 3 none D cy ad A b0 p s m args meth c := C
  replace hl : lv_has ls 3 [(0, .ref (ad k0)), (1, .ref (ad k1))] := hl
  unfold f_X5_trace at h
  refine lv_aload_n hx hb dX5_trace_0 rfl (lv_at hl 0 rfl) ?_
  refine sd_g5_3 (k := k0) C X hk0 sd_w5_1 dX5_trace_1 ?_
  refine lv_iconst (v := (-1 : Int32)) hx hb dX5_trace_4 (by decide) ?_
  obtain ⟨r_9, S_8, er_9, h⟩ := sd_cl_some h
  refine k_J7_fill_53178 C X hl.1 (sd_k5_2 hk0) er_9 sd_w30_10 (by decide) (Nat.le_of_ble_eq_true rfl) dX5_trace_5 (fun H locs X => ?_)
  refine lv_aload_n hx hb dX5_trace_8 rfl (lv_at hl 0 rfl) ?_
  refine sd_g5_4 (k := k0) C X hk0 sd_w5_2 dX5_trace_9 ?_
  refine lv_iconst (v := (-1 : Int32)) hx hb dX5_trace_12 (by decide) ?_
  obtain ⟨r_11, S_10, er_11, h⟩ := sd_cl_some h
  refine k_J7_fill_53178 C X hl.1 (sd_k5_3 hk0) er_11 sd_w30_10 (by decide) (Nat.le_of_ble_eq_true rfl) dX5_trace_13 (fun H locs X => ?_)
  refine lv_aload_n hx hb dX5_trace_16 rfl (lv_at hl 0 rfl) ?_
  refine sd_g5_5 (k := k0) C X hk0 sd_w5_3 dX5_trace_17 ?_
  refine lv_iconst (v := (0 : Int32)) hx hb dX5_trace_20 (by decide) ?_
  obtain ⟨r_13, S_12, er_13, h⟩ := sd_cl_some h
  refine k_J7_fill_53178 C X hl.1 (sd_k5_4 hk0) er_13 sd_w30_10 (by decide) (Nat.le_of_ble_eq_true rfl) dX5_trace_21 (fun H locs X => ?_)
  refine lv_aload_n hx hb dX5_trace_24 rfl (lv_at hl 0 rfl) ?_
  refine sd_g5_4 (k := k0) C X hk0 sd_w5_2 dX5_trace_25 ?_
  refine lv_aload_n hx hb dX5_trace_28 rfl (lv_at hl 0 rfl) ?_
  refine sd_g5_0 C X hk0 sd_w30_8 dX5_trace_29 ?_
  refine lv_iconst (v := (0 : Int32)) hx hb dX5_trace_32 (by decide) ?_
  obtain ⟨bS_14, S_14, eS_14, h⟩ := sd_st_some h
  refine sd_iast C X (sd_k5_3 hk0) bS_14 dX5_trace_33 (fun H locs X => ?_)
  rw [← eS_14] at X
  refine lv_aload_n hx hb dX5_trace_34 rfl (lv_at hl 0 rfl) ?_
  refine sd_g5_5 (k := k0) C X hk0 sd_w5_3 dX5_trace_35 ?_
  refine lv_aload_n hx hb dX5_trace_38 rfl (lv_at hl 0 rfl) ?_
  refine sd_g5_0 C X hk0 sd_w30_8 dX5_trace_39 ?_
  refine lv_iconst (v := (1 : Int32)) hx hb dX5_trace_42 (by decide) ?_
  obtain ⟨bS_15, S_15, eS_15, h⟩ := sd_st_some h
  refine sd_iast C X (sd_k5_4 hk0) bS_15 dX5_trace_43 (fun H locs X => ?_)
  rw [← eS_15] at X
  refine lv_iconst (v := (0 : Int32)) hx hb dX5_trace_44 (by decide) ?_
  refine lv_istore_n (lv' := [(2, .int (0 : Int32)), (0, .ref (ad k0)), (1, .ref (ad k1))]) hx hb dX5_trace_45 rfl hl (by decide) rfl (fun ls hl => ?_)
  exact t_X5_trace_l46 C hk0 hk1 sd_FU (0 : Int32) S_15 _ _ _ h X (lv_sub hl [1, 2, 0] rfl)
theorem k_X5_trace (C : sd_C own cc nL rt D cy ad A b0 p s m args meth c) (X : sd_H D cy ad A s S H locs) (hls : ls.size = nL) {k0 : Nat} {k1 : Nat} {S2 : sd_St} (hk0 : sd_kd k0 = 5) (hk1 : sd_kd k1 = 1) (h : f_X5_trace k0 k1 S = some ((), S2)) (hlink : Cond.methodLink own index yX5_trace ∈ sd_wl) (hR : 3 ≤ R.frames ∧ 102 ≤ R.locals ∧ cells ≤ R.cells ∧ slots ≤ R.slots) (hst : (rest.map fun v => v.category).sum ≤ 8) (hdg : decode cc pc = .ok (.invokevirtual index, 3)) (kk : ∀ (H1 : Heap) (locs1 : List Loc), sd_H D cy ad A s S2 H1 locs1 → W p l e R s m args below meth c H1 locs1 cells slots Q (F0 m (pc + 3) ls rest)) : W p l e R s m args below meth c H locs cells slots Q (F0 m pc ls (.ref (ad k1) :: .ref (ad k0) :: rest)) :=
  sd_goV X (sd_runV C X hls (n := 1) (k := k0) (As := [.ref (ad k1)]) (c_X5_trace (l := l) (b0 := b0) hk0 hk1 h) (sd_goodV hlink sd_w30_18 sd_w30_19 sd_w2_4 sd_w30_20) (ci := 5) rfl (by rw [hk0]; decide) (sd_c5 hk0) (by decide +kernel) rfl hR rfl hst hdg) kk
/-! ===== SecretDays$Shutters.takeDoors(LSecretDays$Doors;II)V ===== -/
def f_X6_takeDoors_l58 (k0 : Nat) (k1 : Nat) : Nat → Int32 → sd_St → Option (Unit × sd_St)
  | 0 => fun _ _ => none
  | n + 1 => fun x3 S => (if (S.1 k1 0) ≤ (S.1 k0 1) then (some ((), S)) else sd_ld S (k1 + 2) (S.1 k0 1) (fun v_2 => (if x3 < v_2 then (some ((), S)) else sd_ld S (k1 + 3) (S.1 k0 1) (fun v_4 => sd_ld S (k0 + 1) v_4 (fun v_5 => sd_st S (k0 + 2) (S.1 k0 1) v_5 (fun S_6 => sd_st S_6 (k0 + 1) v_4 (S_6.1 k0 1) (fun S_7 => sd_st S_7 (k0 + 3) (S_7.1 k0 1) (vp_nar .boolean (0 : Int32)) (fun S_8 => sd_nm (sd_I S_8 k0 1 ((S_8.1 k0 1) + (1 : Int32))) (fun S_9 => (f_X6_takeDoors_l58 k0 k1 n) x3 S_9)))))))))
set_option maxHeartbeats 4000000 in
set_option maxRecDepth 100000 in
theorem t_X6_takeDoors_l58 (C : sd_C RX6 cX6_takeDoors 5 none D cy ad A b0 p s m args meth c) {k0 : Nat} {k1 : Nat} (hk0 : sd_kd k0 = 6) (hk1 : sd_kd k1 = 1) {S' : sd_St} : ∀ (n : Nat) (x3 : Int32) (S : sd_St) (H : Heap) (locs : List Loc) (ls : Array Slot), f_X6_takeDoors_l58 k0 k1 n x3 S = some ((), S') → sd_H D cy ad A s S H locs → lv_has ls 5 [(0, .ref (ad k0)), (1, .ref (ad k1)), (3, .int x3)] → W p l e (sd_rm 1) s m args below meth c H locs 0 0 (MQ below (sd_Qv D cy ad A S') args s 0 0 A) (F0 m 58 ls []) := by
  obtain ⟨hx, hb, -, hml, hown, hts, -, hG⟩ := id C
  intro n
  induction n with
  | zero => intro x3 S H locs ls h; cases h
  | succ n ih =>
    intro x3 S H locs ls h X hl
    unfold f_X6_takeDoors_l58 at h
    refine lv_aload_n hx hb dX6_takeDoors_58 rfl (lv_at hl 0 rfl) ?_
    refine sd_g6_1 C X hk0 sd_w38_10 dX6_takeDoors_59 ?_
    refine lv_aload_n hx hb dX6_takeDoors_62 rfl (lv_at hl 1 rfl) ?_
    refine sd_g1_0 C X hk1 sd_w38_15 dX6_takeDoors_63 ?_
    refine lv_icmp_ge (tgt := 143) hx hb dX6_takeDoors_66 (by decide) (fun c_1 => ?_) (fun c_1 => ?_)
    · have h := sd_ifp c_1 h
      cases h
      exact sd_vret C X dX6_takeDoors_143
    · have h := sd_ifn c_1 h
      refine lv_aload_n hx hb dX6_takeDoors_69 rfl (lv_at hl 1 rfl) ?_
      refine sd_g1_1 (k := k1) C X hk1 sd_w38_16 dX6_takeDoors_70 ?_
      refine lv_aload_n hx hb dX6_takeDoors_73 rfl (lv_at hl 0 rfl) ?_
      refine sd_g6_1 C X hk0 sd_w38_10 dX6_takeDoors_74 ?_
      obtain ⟨b_2, v_2, e_2, h⟩ := sd_ld_some h
      refine sd_iald C X (sd_k1_2 hk1) b_2 dX6_takeDoors_77 (sd_nmi e_2 ?_)
      refine lv_iload_n hx hb dX6_takeDoors_78 rfl (lv_at hl 2 rfl) ?_
      refine lv_icmp_gt (tgt := 143) hx hb dX6_takeDoors_79 (by decide) (fun c_3 => ?_) (fun c_3 => ?_)
      · have h := sd_ifp c_3 h
        cases h
        exact sd_vret C X dX6_takeDoors_143
      · have h := sd_ifn c_3 h
        refine lv_aload_n hx hb dX6_takeDoors_82 rfl (lv_at hl 1 rfl) ?_
        refine sd_g1_2 (k := k1) C X hk1 sd_w38_17 dX6_takeDoors_83 ?_
        refine lv_aload_n hx hb dX6_takeDoors_86 rfl (lv_at hl 0 rfl) ?_
        refine sd_g6_1 C X hk0 sd_w38_10 dX6_takeDoors_87 ?_
        obtain ⟨b_4, v_4, e_4, h⟩ := sd_ld_some h
        refine sd_iald C X (sd_k1_3 hk1) b_4 dX6_takeDoors_90 (sd_nmi e_4 ?_)
        refine lv_istore (lv' := [(4, .int v_4), (0, .ref (ad k0)), (1, .ref (ad k1)), (3, .int x3)]) hx hb dX6_takeDoors_91 hl (by decide) rfl (fun ls hl => ?_)
        refine lv_aload_n hx hb dX6_takeDoors_93 rfl (lv_at hl 1 rfl) ?_
        refine sd_g6_4 (k := k0) C X hk0 sd_w5_13 dX6_takeDoors_94 ?_
        refine lv_aload_n hx hb dX6_takeDoors_97 rfl (lv_at hl 1 rfl) ?_
        refine sd_g6_1 C X hk0 sd_w38_10 dX6_takeDoors_98 ?_
        refine lv_aload_n hx hb dX6_takeDoors_101 rfl (lv_at hl 1 rfl) ?_
        refine sd_g6_3 (k := k0) C X hk0 sd_w5_12 dX6_takeDoors_102 ?_
        refine lv_iload hx hb dX6_takeDoors_105 (lv_at hl 0 rfl) ?_
        obtain ⟨b_5, v_5, e_5, h⟩ := sd_ld_some h
        refine sd_iald C X (sd_k6_1 hk0) b_5 dX6_takeDoors_107 (sd_nmi e_5 ?_)
        obtain ⟨bS_6, S_6, eS_6, h⟩ := sd_st_some h
        refine sd_iast C X (sd_k6_2 hk0) bS_6 dX6_takeDoors_108 (fun H locs X => ?_)
        rw [← eS_6] at X
        refine lv_aload_n hx hb dX6_takeDoors_109 rfl (lv_at hl 1 rfl) ?_
        refine sd_g6_3 (k := k0) C X hk0 sd_w5_12 dX6_takeDoors_110 ?_
        refine lv_iload hx hb dX6_takeDoors_113 (lv_at hl 0 rfl) ?_
        refine lv_aload_n hx hb dX6_takeDoors_115 rfl (lv_at hl 1 rfl) ?_
        refine sd_g6_1 C X hk0 sd_w38_10 dX6_takeDoors_116 ?_
        obtain ⟨bS_7, S_7, eS_7, h⟩ := sd_st_some h
        refine sd_iast C X (sd_k6_1 hk0) bS_7 dX6_takeDoors_119 (fun H locs X => ?_)
        rw [← eS_7] at X
        refine lv_aload_n hx hb dX6_takeDoors_120 rfl (lv_at hl 1 rfl) ?_
        refine sd_g6_5 (k := k0) C X hk0 sd_w5_15 dX6_takeDoors_121 ?_
        refine lv_aload_n hx hb dX6_takeDoors_124 rfl (lv_at hl 1 rfl) ?_
        refine sd_g6_1 C X hk0 sd_w38_10 dX6_takeDoors_125 ?_
        refine lv_iconst (v := (0 : Int32)) hx hb dX6_takeDoors_128 (by decide) ?_
        obtain ⟨bS_8, S_8, eS_8, h⟩ := sd_st_some h
        refine sd_zast C X (sd_k6_3 hk0) bS_8 dX6_takeDoors_129 (fun H locs X => ?_)
        rw [← eS_8] at X
        refine lv_aload_n hx hb dX6_takeDoors_130 rfl (lv_at hl 1 rfl) ?_
        refine lv_dup hx hb dX6_takeDoors_131 rfl ?_
        refine sd_g6_1 C X hk0 sd_w38_10 dX6_takeDoors_132 ?_
        refine lv_iconst (v := (1 : Int32)) hx hb dX6_takeDoors_135 (by decide) ?_
        refine lv_iadd hx hb dX6_takeDoors_136 ?_
        obtain ⟨S_9, eS_9, h⟩ := sd_nm_some h
        refine sd_p6_1 C X hk0 sd_w38_10 dX6_takeDoors_137 (fun H locs X => ?_)
        rw [← eS_9] at X
        refine lv_goto (tgt := 58) hx hb dX6_takeDoors_140 (by decide) ?_
        exact ih x3 S_9 _ _ _ h X (lv_sub hl [1, 2, 3] rfl)
def f_X6_takeDoors_b42 (k0 : Nat) (k1 : Nat) (x3 : Int32) (S : sd_St) : Option (Unit × sd_St) := sd_cl (f_J7_fill_53178 (k0 + 1) (-1 : Int32) S) (fun _ S_10 => sd_nm (sd_I S_10 k0 1 (S_10.1 k0 0)) (fun S_12 => f_X6_takeDoors_l58 k0 k1 sd_FU x3 S_12))
set_option maxHeartbeats 4000000 in
set_option maxRecDepth 100000 in
theorem t_X6_takeDoors_b42 (C : sd_C RX6 cX6_takeDoors 5 none D cy ad A b0 p s m args meth c) {k0 : Nat} {k1 : Nat} (hk0 : sd_kd k0 = 6) (hk1 : sd_kd k1 = 1) {S' : sd_St} : ∀ (x3 : Int32) (S : sd_St) (H : Heap) (locs : List Loc) (ls : Array Slot), f_X6_takeDoors_b42 k0 k1 x3 S = some ((), S') → sd_H D cy ad A s S H locs → lv_has ls 5 [(0, .ref (ad k0)), (1, .ref (ad k1)), (3, .int x3)] → W p l e (sd_rm 1) s m args below meth c H locs 0 0 (MQ below (sd_Qv D cy ad A S') args s 0 0 A) (F0 m 42 ls []) := by
  obtain ⟨hx, hb, -, hml, hown, hts, -, hG⟩ := id C
  intro x3 S H locs ls h X hl
  unfold f_X6_takeDoors_b42 at h
  refine lv_aload_n hx hb dX6_takeDoors_42 rfl (lv_at hl 0 rfl) ?_
  refine sd_g6_3 (k := k0) C X hk0 sd_w5_12 dX6_takeDoors_43 ?_
  refine lv_iconst (v := (-1 : Int32)) hx hb dX6_takeDoors_46 (by decide) ?_
  obtain ⟨r_11, S_10, er_11, h⟩ := sd_cl_some h
  refine k_J7_fill_53178 C X hl.1 (sd_k6_1 hk0) er_11 sd_w38_18 (by decide) (Nat.le_of_ble_eq_true rfl) dX6_takeDoors_47 (fun H locs X => ?_)
  refine lv_aload_n hx hb dX6_takeDoors_50 rfl (lv_at hl 0 rfl) ?_
  refine lv_aload_n hx hb dX6_takeDoors_51 rfl (lv_at hl 0 rfl) ?_
  refine sd_g6_0 C X hk0 sd_w38_9 dX6_takeDoors_52 ?_
  obtain ⟨S_12, eS_12, h⟩ := sd_nm_some h
  refine sd_p6_1 C X hk0 sd_w38_10 dX6_takeDoors_55 (fun H locs X => ?_)
  rw [← eS_12] at X
  exact t_X6_takeDoors_l58 C hk0 hk1 sd_FU x3 S_12 _ _ _ h X (lv_sub hl [0, 1, 2] rfl)
def f_X6_takeDoors_l5 (k0 : Nat) (k1 : Nat) : Nat → Int32 → Int32 → sd_St → Option (Unit × sd_St)
  | 0 => fun _ _ _ => none
  | n + 1 => fun x2 x3 S => (if (S.1 k1 0) ≤ (S.1 k0 0) then f_X6_takeDoors_b42 k0 k1 x3 S else sd_ld S (k1 + 2) (S.1 k0 0) (fun v_14 => (if x2 ≤ v_14 then f_X6_takeDoors_b42 k0 k1 x3 S else sd_nm (sd_I S k0 0 ((S.1 k0 0) + (1 : Int32))) (fun S_16 => (f_X6_takeDoors_l5 k0 k1 n) x2 x3 S_16))))
set_option maxHeartbeats 4000000 in
set_option maxRecDepth 100000 in
theorem t_X6_takeDoors_l5 (C : sd_C RX6 cX6_takeDoors 5 none D cy ad A b0 p s m args meth c) {k0 : Nat} {k1 : Nat} (hk0 : sd_kd k0 = 6) (hk1 : sd_kd k1 = 1) {S' : sd_St} : ∀ (n : Nat) (x2 : Int32) (x3 : Int32) (S : sd_St) (H : Heap) (locs : List Loc) (ls : Array Slot), f_X6_takeDoors_l5 k0 k1 n x2 x3 S = some ((), S') → sd_H D cy ad A s S H locs → lv_has ls 5 [(0, .ref (ad k0)), (1, .ref (ad k1)), (2, .int x2), (3, .int x3)] → W p l e (sd_rm 1) s m args below meth c H locs 0 0 (MQ below (sd_Qv D cy ad A S') args s 0 0 A) (F0 m 5 ls []) := by
  obtain ⟨hx, hb, -, hml, hown, hts, -, hG⟩ := id C
  intro n
  induction n with
  | zero => intro x2 x3 S H locs ls h; cases h
  | succ n ih =>
    intro x2 x3 S H locs ls h X hl
    unfold f_X6_takeDoors_l5 at h
    refine lv_aload_n hx hb dX6_takeDoors_5 rfl (lv_at hl 0 rfl) ?_
    refine sd_g6_0 C X hk0 sd_w38_9 dX6_takeDoors_6 ?_
    refine lv_aload_n hx hb dX6_takeDoors_9 rfl (lv_at hl 1 rfl) ?_
    refine sd_g1_0 C X hk1 sd_w38_15 dX6_takeDoors_10 ?_
    refine lv_icmp_ge (tgt := 42) hx hb dX6_takeDoors_13 (by decide) (fun c_13 => ?_) (fun c_13 => ?_)
    · have h := sd_ifp c_13 h
      exact t_X6_takeDoors_b42 C hk0 hk1 x3 S _ _ _ h X (lv_sub hl [0, 1, 3] rfl)
    · have h := sd_ifn c_13 h
      refine lv_aload_n hx hb dX6_takeDoors_16 rfl (lv_at hl 1 rfl) ?_
      refine sd_g1_1 (k := k1) C X hk1 sd_w38_16 dX6_takeDoors_17 ?_
      refine lv_aload_n hx hb dX6_takeDoors_20 rfl (lv_at hl 0 rfl) ?_
      refine sd_g6_0 C X hk0 sd_w38_9 dX6_takeDoors_21 ?_
      obtain ⟨b_14, v_14, e_14, h⟩ := sd_ld_some h
      refine sd_iald C X (sd_k1_2 hk1) b_14 dX6_takeDoors_24 (sd_nmi e_14 ?_)
      refine lv_iload_n hx hb dX6_takeDoors_25 rfl (lv_at hl 2 rfl) ?_
      refine lv_icmp_ge (tgt := 42) hx hb dX6_takeDoors_26 (by decide) (fun c_15 => ?_) (fun c_15 => ?_)
      · have h := sd_ifp c_15 h
        exact t_X6_takeDoors_b42 C hk0 hk1 x3 S _ _ _ h X (lv_sub hl [0, 1, 3] rfl)
      · have h := sd_ifn c_15 h
        refine lv_aload_n hx hb dX6_takeDoors_29 rfl (lv_at hl 0 rfl) ?_
        refine lv_dup hx hb dX6_takeDoors_30 rfl ?_
        refine sd_g6_0 C X hk0 sd_w38_9 dX6_takeDoors_31 ?_
        refine lv_iconst (v := (1 : Int32)) hx hb dX6_takeDoors_34 (by decide) ?_
        refine lv_iadd hx hb dX6_takeDoors_35 ?_
        obtain ⟨S_16, eS_16, h⟩ := sd_nm_some h
        refine sd_p6_0 C X hk0 sd_w38_9 dX6_takeDoors_36 (fun H locs X => ?_)
        rw [← eS_16] at X
        refine lv_goto (tgt := 5) hx hb dX6_takeDoors_39 (by decide) ?_
        exact ih x2 x3 S_16 _ _ _ h X (lv_sub hl [0, 1, 2, 3] rfl)
def f_X6_takeDoors (k0 : Nat) (k1 : Nat) (x2 : Int32) (x3 : Int32) (S : sd_St) : Option (Unit × sd_St) := sd_nm (sd_I S k0 0 (0 : Int32)) (fun S_17 => f_X6_takeDoors_l5 k0 k1 sd_FU x2 x3 S_17)
set_option maxHeartbeats 4000000 in
set_option maxRecDepth 100000 in
theorem c_X6_takeDoors {k0 : Nat} {k1 : Nat} {x2 : Int32} {x3 : Int32} (hk0 : sd_kd k0 = 6) (hk1 : sd_kd k1 = 1) {S S' : sd_St} (h : f_X6_takeDoors k0 k1 x2 x3 S = some ((), S')) : Met l yX6_takeDoors (Cond.code yX6_takeDoors cX6_takeDoors 5 none :: sd_wl) (sd_rm 1) (sd_P D cy ad A b0 [.ref (ad k0), .ref (ad k1), .int x2, .int x3] S) (sd_Qv D cy ad A S') 0 0 A := by
  refine sd_met (by decide) (Nat.le_of_ble_eq_true rfl) (fun p e s m args below meth c ls C X hl => ?_)
  obtain ⟨hx, hb, -, hml, hown, hts, -, hG⟩ := id C
  replace C : sd_C RX6 cX6_takeDoors 5 none D cy ad A b0 p s m args meth c := C
  replace hl : lv_has ls 5 [(0, .ref (ad k0)), (1, .ref (ad k1)), (2, .int x2), (3, .int x3)] := hl
  unfold f_X6_takeDoors at h
  refine lv_aload_n hx hb dX6_takeDoors_0 rfl (lv_at hl 0 rfl) ?_
  refine lv_iconst (v := (0 : Int32)) hx hb dX6_takeDoors_1 (by decide) ?_
  obtain ⟨S_17, eS_17, h⟩ := sd_nm_some h
  refine sd_p6_0 C X hk0 sd_w38_9 dX6_takeDoors_2 (fun H locs X => ?_)
  rw [← eS_17] at X
  exact t_X6_takeDoors_l5 C hk0 hk1 sd_FU x2 x3 S_17 _ _ _ h X (lv_sub hl [0, 1, 2, 3] rfl)
theorem k_X6_takeDoors (C : sd_C own cc nL rt D cy ad A b0 p s m args meth c) (X : sd_H D cy ad A s S H locs) (hls : ls.size = nL) {k0 : Nat} {k1 : Nat} {x2 : Int32} {x3 : Int32} {S2 : sd_St} (hk0 : sd_kd k0 = 6) (hk1 : sd_kd k1 = 1) (h : f_X6_takeDoors k0 k1 x2 x3 S = some ((), S2)) (hlink : Cond.methodLink own index yX6_takeDoors ∈ sd_wl) (hR : 2 ≤ R.frames ∧ 64 ≤ R.locals ∧ cells ≤ R.cells ∧ slots ≤ R.slots) (hst : (rest.map fun v => v.category).sum ≤ 8) (hdg : decode cc pc = .ok (.invokevirtual index, 3)) (kk : ∀ (H1 : Heap) (locs1 : List Loc), sd_H D cy ad A s S2 H1 locs1 → W p l e R s m args below meth c H1 locs1 cells slots Q (F0 m (pc + 3) ls rest)) : W p l e R s m args below meth c H locs cells slots Q (F0 m pc ls (.int x3 :: .int x2 :: .ref (ad k1) :: .ref (ad k0) :: rest)) :=
  sd_goV X (sd_runV C X hls (n := 3) (k := k0) (As := [.ref (ad k1), .int x2, .int x3]) (c_X6_takeDoors (l := l) (b0 := b0) hk0 hk1 h) (sd_goodV hlink sd_w38_12 sd_w38_13 sd_w2_12 sd_w38_14) (ci := 6) rfl (by rw [hk0]; decide) (sd_c6 hk0) (by decide +kernel) rfl hR rfl hst hdg) kk
/-! ===== SecretDays$Shutters.reachFront(II)V ===== -/
def f_X6_reachFront (k0 : Nat) (x1 : Int32) (x2 : Int32) (S : sd_St) : Option (Unit × sd_St) := sd_ld S (k0 + 5) x1 (fun v_1 => (if v_1 = (-2 : Int32) then (if (Int32.ofNat (sd_al (k0 + 8))) ≤ (S.1 k0 11) then (some ((), S)) else sd_st S (k0 + 5) x1 x2 (fun S_4 => sd_st S_4 (k0 + 8) (S_4.1 k0 11) (x1 <<< ((1 : Int32) &&& 31)) (fun S_5 => sd_nm (sd_I S_5 k0 11 ((S_5.1 k0 11) + (1 : Int32))) (fun S_6 => (some ((), S_6)))))) else (some ((), S))))
set_option maxHeartbeats 4000000 in
set_option maxRecDepth 100000 in
theorem c_X6_reachFront {k0 : Nat} {x1 : Int32} {x2 : Int32} (hk0 : sd_kd k0 = 6) {S S' : sd_St} (h : f_X6_reachFront k0 x1 x2 S = some ((), S')) : Met l yX6_reachFront (Cond.code yX6_reachFront cX6_reachFront 3 none :: sd_wl) (sd_rm 0) (sd_P D cy ad A b0 [.ref (ad k0), .int x1, .int x2] S) (sd_Qv D cy ad A S') 0 0 A := by
  refine sd_met (by decide) (Nat.le_of_ble_eq_true rfl) (fun p e s m args below meth c ls C X hl => ?_)
  obtain ⟨hx, hb, -, hml, hown, hts, -, hG⟩ := id C
  replace C : sd_C RX6 cX6_reachFront 3 none D cy ad A b0 p s m args meth c := C
  replace hl : lv_has ls 3 [(0, .ref (ad k0)), (1, .int x1), (2, .int x2)] := hl
  unfold f_X6_reachFront at h
  refine lv_aload_n hx hb dX6_reachFront_0 rfl (lv_at hl 0 rfl) ?_
  refine sd_g6_7 (k := k0) C X hk0 sd_w5_17 dX6_reachFront_1 ?_
  refine lv_iload_n hx hb dX6_reachFront_4 rfl (lv_at hl 1 rfl) ?_
  obtain ⟨b_1, v_1, e_1, h⟩ := sd_ld_some h
  refine sd_iald C X (sd_k6_5 hk0) b_1 dX6_reachFront_5 (sd_nmi e_1 ?_)
  refine lv_bipush (v := (-2 : Int32)) hx hb dX6_reachFront_6 (by decide) ?_
  refine lv_icmp_ne (tgt := 52) hx hb dX6_reachFront_8 (by decide) (fun c_2 => ?_) (fun c_2 => ?_)
  · have h := sd_ifn c_2 h
    cases h
    exact sd_vret C X dX6_reachFront_52
  · have h := sd_ifp c_2 h
    refine lv_aload_n hx hb dX6_reachFront_11 rfl (lv_at hl 0 rfl) ?_
    refine sd_g6_11 C X hk0 sd_w39_0 dX6_reachFront_12 ?_
    refine lv_aload_n hx hb dX6_reachFront_15 rfl (lv_at hl 0 rfl) ?_
    refine sd_g6_10 (k := k0) C X hk0 sd_w5_20 dX6_reachFront_16 ?_
    refine sd_ialen C X (sd_k6_8 hk0) dX6_reachFront_19 ?_
    refine lv_icmp_ge (tgt := 52) hx hb dX6_reachFront_20 (by decide) (fun c_3 => ?_) (fun c_3 => ?_)
    · have h := sd_ifp c_3 h
      cases h
      exact sd_vret C X dX6_reachFront_52
    · have h := sd_ifn c_3 h
      refine lv_aload_n hx hb dX6_reachFront_23 rfl (lv_at hl 0 rfl) ?_
      refine sd_g6_7 (k := k0) C X hk0 sd_w5_17 dX6_reachFront_24 ?_
      refine lv_iload_n hx hb dX6_reachFront_27 rfl (lv_at hl 1 rfl) ?_
      refine lv_iload_n hx hb dX6_reachFront_28 rfl (lv_at hl 2 rfl) ?_
      obtain ⟨bS_4, S_4, eS_4, h⟩ := sd_st_some h
      refine sd_iast C X (sd_k6_5 hk0) bS_4 dX6_reachFront_29 (fun H locs X => ?_)
      rw [← eS_4] at X
      refine lv_aload_n hx hb dX6_reachFront_30 rfl (lv_at hl 0 rfl) ?_
      refine sd_g6_10 (k := k0) C X hk0 sd_w5_20 dX6_reachFront_31 ?_
      refine lv_aload_n hx hb dX6_reachFront_34 rfl (lv_at hl 0 rfl) ?_
      refine sd_g6_11 C X hk0 sd_w39_0 dX6_reachFront_35 ?_
      refine lv_iload_n hx hb dX6_reachFront_38 rfl (lv_at hl 1 rfl) ?_
      refine lv_iconst (v := (1 : Int32)) hx hb dX6_reachFront_39 (by decide) ?_
      refine lv_ishl hx hb dX6_reachFront_40 ?_
      obtain ⟨bS_5, S_5, eS_5, h⟩ := sd_st_some h
      refine sd_iast C X (sd_k6_8 hk0) bS_5 dX6_reachFront_41 (fun H locs X => ?_)
      rw [← eS_5] at X
      refine lv_aload_n hx hb dX6_reachFront_42 rfl (lv_at hl 0 rfl) ?_
      refine lv_dup hx hb dX6_reachFront_43 rfl ?_
      refine sd_g6_11 C X hk0 sd_w39_0 dX6_reachFront_44 ?_
      refine lv_iconst (v := (1 : Int32)) hx hb dX6_reachFront_47 (by decide) ?_
      refine lv_iadd hx hb dX6_reachFront_48 ?_
      obtain ⟨S_6, eS_6, h⟩ := sd_nm_some h
      refine sd_p6_11 C X hk0 sd_w39_0 dX6_reachFront_49 (fun H locs X => ?_)
      rw [← eS_6] at X
      cases h
      exact sd_vret C X dX6_reachFront_52
theorem k_X6_reachFront (C : sd_C own cc nL rt D cy ad A b0 p s m args meth c) (X : sd_H D cy ad A s S H locs) (hls : ls.size = nL) {k0 : Nat} {x1 : Int32} {x2 : Int32} {S2 : sd_St} (hk0 : sd_kd k0 = 6) (h : f_X6_reachFront k0 x1 x2 S = some ((), S2)) (hlink : Cond.methodLink own index yX6_reachFront ∈ sd_wl) (hR : 1 ≤ R.frames ∧ 22 ≤ R.locals ∧ cells ≤ R.cells ∧ slots ≤ R.slots) (hst : (rest.map fun v => v.category).sum ≤ 8) (hdg : decode cc pc = .ok (.invokevirtual index, 3)) (kk : ∀ (H1 : Heap) (locs1 : List Loc), sd_H D cy ad A s S2 H1 locs1 → W p l e R s m args below meth c H1 locs1 cells slots Q (F0 m (pc + 3) ls rest)) : W p l e R s m args below meth c H locs cells slots Q (F0 m pc ls (.int x2 :: .int x1 :: .ref (ad k0) :: rest)) :=
  sd_goV X (sd_runV C X hls (n := 2) (k := k0) (As := [.int x1, .int x2]) (c_X6_reachFront (l := l) (b0 := b0) hk0 h) (sd_goodV hlink sd_w39_7 sd_w39_8 sd_w2_12 sd_w39_9) (ci := 6) rfl (by rw [hk0]; decide) (sd_c6 hk0) (by decide +kernel) rfl hR rfl hst hdg) kk
end SM0
