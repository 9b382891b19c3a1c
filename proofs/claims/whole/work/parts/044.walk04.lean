section SM4
variable {p : Program} {l : Launch} {e : Env} {R : Room} {s : State} {m : MethodId} {args : Array Value} {below : List Frame} {meth : Method} {c : Code} {H : Heap} {locs : List Loc} {Q : State → Prop}
variable {cc : ByteArray} {pc nL index cells slots : Nat} {ls : Array Slot} {rest : List Value} {D : va_G} {cy : Nat → ClassId} {ad : Nat → Nat} {A : Nat → Prop} {b0 : Nat} {own : String} {rt : Option FieldType} {S : sd_St}
/-! ===== SecretDaysModel.find()I ===== -/
def f_X12_find_l2 : Nat → Int32 → sd_St → Option (Int32 × sd_St)
  | 0 => fun _ _ => none
  | n + 1 => fun x1 S => (if (S.1 130 13) ≤ x1 then (some ((-1 : Int32), S)) else sd_ldl S 137 x1 (fun v_2 => sd_ldl S 134 (S.1 130 7) (fun v_3 => (if (lg_cmp v_2 v_3) = 0 then sd_ld S 138 x1 (fun v_5 => (some (v_5, S))) else (f_X12_find_l2 n) (x1 + (1 : Int32)) S))))
set_option maxHeartbeats 4000000 in
set_option maxRecDepth 100000 in
theorem t_X12_find_l2 (C : sd_C RX12 cX12_find 2 (some .int) D cy ad A b0 p s m args meth c) {r : Int32} {S' : sd_St} : ∀ (n : Nat) (x1 : Int32) (S : sd_St) (H : Heap) (locs : List Loc) (ls : Array Slot), f_X12_find_l2 n x1 S = some (r, S') → sd_H D cy ad A s S H locs → lv_has ls 2 [(0, .ref (ad 130)), (1, .int x1)] → W p l e (sd_rm 0) s m args below meth c H locs 0 0 (MQ below (sd_Qi D cy ad A r S') args s 0 0 A) (F0 m 2 ls []) := by
  obtain ⟨hx, hb, -, hml, hown, hts, -, hG⟩ := id C
  intro n
  induction n with
  | zero => intro x1 S H locs ls h; cases h
  | succ n ih =>
    intro x1 S H locs ls h X hl
    unfold f_X12_find_l2 at h
    refine lv_iload_n hx hb dX12_find_2 rfl (lv_at hl 1 rfl) ?_
    refine lv_aload_n hx hb dX12_find_3 rfl (lv_at hl 0 rfl) ?_
    refine sd_g12_13 C X (by decide) sd_w18_19 dX12_find_4 ?_
    refine lv_icmp_ge (tgt := 42) hx hb dX12_find_7 (by decide) (fun c_1 => ?_) (fun c_1 => ?_)
    · have h := sd_ifp c_1 h
      refine lv_iconst (v := (-1 : Int32)) hx hb dX12_find_42 (by decide) ?_
      cases h
      exact sd_iret C X dX12_find_43
    · have h := sd_ifn c_1 h
      refine lv_aload_n hx hb dX12_find_10 rfl (lv_at hl 0 rfl) ?_
      refine sd_g12_11 (k := 130) C X (by decide) sd_w8_9 dX12_find_11 ?_
      refine lv_iload_n hx hb dX12_find_14 rfl (lv_at hl 1 rfl) ?_
      obtain ⟨b_2, v_2, e_2, h⟩ := sd_ldl_some h
      refine sd_lald C X (by decide) b_2 dX12_find_15 (sd_nml e_2 ?_)
      refine lv_aload_n hx hb dX12_find_16 rfl (lv_at hl 0 rfl) ?_
      refine sd_g12_6 (k := 130) C X (by decide) sd_w7_16 dX12_find_17 ?_
      refine lv_aload_n hx hb dX12_find_20 rfl (lv_at hl 0 rfl) ?_
      refine sd_g12_7 C X (by decide) sd_w18_22 dX12_find_21 ?_
      obtain ⟨b_3, v_3, e_3, h⟩ := sd_ldl_some h
      refine sd_lald C X (by decide) b_3 dX12_find_24 (sd_nml e_3 ?_)
      refine W.lcmp hx hb dX12_find_25 ?_
      refine lv_if_ne (tgt := 36) hx hb dX12_find_26 (by decide) (fun c_4 => ?_) (fun c_4 => ?_)
      · have h := sd_ifn c_4 h
        refine lv_iinc (v := (x1 + (1 : Int32))) (lv' := [(1, .int (x1 + (1 : Int32))), (0, .ref (ad 130))]) hx hb dX12_find_36 hl (k := 1) rfl rfl (by decide) rfl (fun ls hl => ?_)
        refine lv_goto (tgt := 2) hx hb dX12_find_39 (by decide) ?_
        exact ih (x1 + (1 : Int32)) S _ _ _ h X (lv_sub hl [1, 0] rfl)
      · have h := sd_ifp c_4 h
        refine lv_aload_n hx hb dX12_find_29 rfl (lv_at hl 0 rfl) ?_
        refine sd_g12_12 (k := 130) C X (by decide) sd_w8_10 dX12_find_30 ?_
        refine lv_iload_n hx hb dX12_find_33 rfl (lv_at hl 1 rfl) ?_
        obtain ⟨b_5, v_5, e_5, h⟩ := sd_ld_some h
        refine sd_iald C X (by decide) b_5 dX12_find_34 (sd_nmi e_5 ?_)
        cases h
        exact sd_iret C X dX12_find_35
def f_X12_find (S : sd_St) : Option (Int32 × sd_St) := f_X12_find_l2 sd_FU (0 : Int32) S
set_option maxHeartbeats 4000000 in
set_option maxRecDepth 100000 in
theorem c_X12_find {S S' : sd_St} {r : Int32} (h : f_X12_find S = some (r, S')) : Met l yX12_find (Cond.code yX12_find cX12_find 2 (some .int) :: sd_wl) (sd_rm 0) (sd_P D cy ad A b0 [.ref (ad 130)] S) (sd_Qi D cy ad A r S') 0 0 A := by
  refine sd_met (by decide) (Nat.le_of_ble_eq_true rfl) (fun p e s m args below meth c ls C X hl => ?_)
  obtain ⟨hx, hb, -, hml, hown, hts, -, hG⟩ := id C
  replace C : sd_C RX12 cX12_find 2 (some .int) D cy ad A b0 p s m args meth c := C
  replace hl : lv_has ls 2 [(0, .ref (ad 130))] := hl
  unfold f_X12_find at h
  refine lv_iconst (v := (0 : Int32)) hx hb dX12_find_0 (by decide) ?_
  refine lv_istore_n (lv' := [(1, .int (0 : Int32)), (0, .ref (ad 130))]) hx hb dX12_find_1 rfl hl (by decide) rfl (fun ls hl => ?_)
  exact t_X12_find_l2 C sd_FU (0 : Int32) S _ _ _ h X (lv_sub hl [1, 0] rfl)
theorem k_X12_find (C : sd_C own cc nL rt D cy ad A b0 p s m args meth c) (X : sd_H D cy ad A s S H locs) (hls : ls.size = nL) {S2 : sd_St} {r : Int32} (h : f_X12_find S = some (r, S2)) (hlink : Cond.methodLink own index yX12_find ∈ sd_wl) (hR : 1 ≤ R.frames ∧ 21 ≤ R.locals ∧ cells ≤ R.cells ∧ slots ≤ R.slots) (hst : (rest.map fun v => v.category).sum ≤ 8) (hdg : decode cc pc = .ok (.invokevirtual index, 3)) (kk : ∀ (H1 : Heap) (locs1 : List Loc), sd_H D cy ad A s S2 H1 locs1 → W p l e R s m args below meth c H1 locs1 cells slots Q (F0 m (pc + 3) ls (.int r :: rest))) : W p l e R s m args below meth c H locs cells slots Q (F0 m pc ls (.ref (ad 130) :: rest)) :=
  sd_goI X (sd_runV C X hls (n := 0) (k := 130) (As := []) (c_X12_find (l := l) (b0 := b0) h) (sd_goodV hlink sd_w21_4 sd_w21_5 sd_w1_5 sd_w21_6) (ci := 12) rfl (by rw [(show sd_kd 130 = 12 by decide)]; decide) (sd_c12 (show sd_kd 130 = 12 by decide)) (by decide +kernel) rfl hR rfl hst hdg) kk
/-! ===== SecretDaysModel.carry(II)V ===== -/
def f_X12_carry_l2 : Nat → Int32 → Int32 → Int32 → sd_St → Option (Unit × sd_St)
  | 0 => fun _ _ _ _ => none
  | n + 1 => fun x1 x2 x3 S => (if (170 : Int32) ≤ x3 then (some ((), S)) else sd_ld S 136 (((170 : Int32) * x1) + x3) (fun v_2 => sd_st S 136 (((170 : Int32) * x2) + x3) v_2 (fun S_3 => (f_X12_carry_l2 n) x1 x2 (x3 + (1 : Int32)) S_3)))
set_option maxHeartbeats 4000000 in
set_option maxRecDepth 100000 in
theorem t_X12_carry_l2 (C : sd_C RX12 cX12_carry 4 none D cy ad A b0 p s m args meth c) {S' : sd_St} : ∀ (n : Nat) (x1 : Int32) (x2 : Int32) (x3 : Int32) (S : sd_St) (H : Heap) (locs : List Loc) (ls : Array Slot), f_X12_carry_l2 n x1 x2 x3 S = some ((), S') → sd_H D cy ad A s S H locs → lv_has ls 4 [(0, .ref (ad 130)), (1, .int x1), (2, .int x2), (3, .int x3)] → W p l e (sd_rm 0) s m args below meth c H locs 0 0 (MQ below (sd_Qv D cy ad A S') args s 0 0 A) (F0 m 2 ls []) := by
  obtain ⟨hx, hb, -, hml, hown, hts, -, hG⟩ := id C
  intro n
  induction n with
  | zero => intro x1 x2 x3 S H locs ls h; cases h
  | succ n ih =>
    intro x1 x2 x3 S H locs ls h X hl
    unfold f_X12_carry_l2 at h
    refine lv_iload_n hx hb dX12_carry_2 rfl (lv_at hl 3 rfl) ?_
    refine lv_sipush (v := (170 : Int32)) hx hb dX12_carry_3 (by decide) ?_
    refine lv_icmp_ge (tgt := 39) hx hb dX12_carry_6 (by decide) (fun c_1 => ?_) (fun c_1 => ?_)
    · have h := sd_ifp c_1 h
      cases h
      exact sd_vret C X dX12_carry_39
    · have h := sd_ifn c_1 h
      refine lv_aload_n hx hb dX12_carry_9 rfl (lv_at hl 0 rfl) ?_
      refine sd_g12_10 (k := 130) C X (by decide) sd_w8_8 dX12_carry_10 ?_
      refine lv_sipush (v := (170 : Int32)) hx hb dX12_carry_13 (by decide) ?_
      refine lv_iload_n hx hb dX12_carry_16 rfl (lv_at hl 2 rfl) ?_
      refine lv_imul hx hb dX12_carry_17 ?_
      refine lv_iload_n hx hb dX12_carry_18 rfl (lv_at hl 3 rfl) ?_
      refine lv_iadd hx hb dX12_carry_19 ?_
      refine lv_aload_n hx hb dX12_carry_20 rfl (lv_at hl 0 rfl) ?_
      refine sd_g12_10 (k := 130) C X (by decide) sd_w8_8 dX12_carry_21 ?_
      refine lv_sipush (v := (170 : Int32)) hx hb dX12_carry_24 (by decide) ?_
      refine lv_iload_n hx hb dX12_carry_27 rfl (lv_at hl 1 rfl) ?_
      refine lv_imul hx hb dX12_carry_28 ?_
      refine lv_iload_n hx hb dX12_carry_29 rfl (lv_at hl 3 rfl) ?_
      refine lv_iadd hx hb dX12_carry_30 ?_
      obtain ⟨b_2, v_2, e_2, h⟩ := sd_ld_some h
      refine sd_iald C X (by decide) b_2 dX12_carry_31 (sd_nmi e_2 ?_)
      obtain ⟨bS_3, S_3, eS_3, h⟩ := sd_st_some h
      refine sd_iast C X (by decide) bS_3 dX12_carry_32 (fun H locs X => ?_)
      rw [← eS_3] at X
      refine lv_iinc (v := (x3 + (1 : Int32))) (lv' := [(3, .int (x3 + (1 : Int32))), (0, .ref (ad 130)), (1, .int x1), (2, .int x2)]) hx hb dX12_carry_33 hl (k := 3) rfl rfl (by decide) rfl (fun ls hl => ?_)
      refine lv_goto (tgt := 2) hx hb dX12_carry_36 (by decide) ?_
      exact ih x1 x2 (x3 + (1 : Int32)) S_3 _ _ _ h X (lv_sub hl [1, 2, 3, 0] rfl)
def f_X12_carry (x1 : Int32) (x2 : Int32) (S : sd_St) : Option (Unit × sd_St) := f_X12_carry_l2 sd_FU x1 x2 (0 : Int32) S
set_option maxHeartbeats 4000000 in
set_option maxRecDepth 100000 in
theorem c_X12_carry {x1 : Int32} {x2 : Int32} {S S' : sd_St} (h : f_X12_carry x1 x2 S = some ((), S')) : Met l yX12_carry (Cond.code yX12_carry cX12_carry 4 none :: sd_wl) (sd_rm 0) (sd_P D cy ad A b0 [.ref (ad 130), .int x1, .int x2] S) (sd_Qv D cy ad A S') 0 0 A := by
  refine sd_met (by decide) (Nat.le_of_ble_eq_true rfl) (fun p e s m args below meth c ls C X hl => ?_)
  obtain ⟨hx, hb, -, hml, hown, hts, -, hG⟩ := id C
  replace C : sd_C RX12 cX12_carry 4 none D cy ad A b0 p s m args meth c := C
  replace hl : lv_has ls 4 [(0, .ref (ad 130)), (1, .int x1), (2, .int x2)] := hl
  unfold f_X12_carry at h
  refine lv_iconst (v := (0 : Int32)) hx hb dX12_carry_0 (by decide) ?_
  refine lv_istore_n (lv' := [(3, .int (0 : Int32)), (0, .ref (ad 130)), (1, .int x1), (2, .int x2)]) hx hb dX12_carry_1 rfl hl (by decide) rfl (fun ls hl => ?_)
  exact t_X12_carry_l2 C sd_FU x1 x2 (0 : Int32) S _ _ _ h X (lv_sub hl [1, 2, 3, 0] rfl)
theorem k_X12_carry (C : sd_C own cc nL rt D cy ad A b0 p s m args meth c) (X : sd_H D cy ad A s S H locs) (hls : ls.size = nL) {x1 : Int32} {x2 : Int32} {S2 : sd_St} (h : f_X12_carry x1 x2 S = some ((), S2)) (hlink : Cond.methodLink own index yX12_carry ∈ sd_wl) (hR : 1 ≤ R.frames ∧ 23 ≤ R.locals ∧ cells ≤ R.cells ∧ slots ≤ R.slots) (hst : (rest.map fun v => v.category).sum ≤ 8) (hdg : decode cc pc = .ok (.invokevirtual index, 3)) (kk : ∀ (H1 : Heap) (locs1 : List Loc), sd_H D cy ad A s S2 H1 locs1 → W p l e R s m args below meth c H1 locs1 cells slots Q (F0 m (pc + 3) ls rest)) : W p l e R s m args below meth c H locs cells slots Q (F0 m pc ls (.int x2 :: .int x1 :: .ref (ad 130) :: rest)) :=
  sd_goV X (sd_runV C X hls (n := 2) (k := 130) (As := [.int x1, .int x2]) (c_X12_carry (l := l) (b0 := b0) h) (sd_goodV hlink sd_w23_8 sd_w23_9 sd_w1_5 sd_w23_10) (ci := 12) rfl (by rw [(show sd_kd 130 = 12 by decide)]; decide) (sd_c12 (show sd_kd 130 = 12 by decide)) (by decide +kernel) rfl hR rfl hst hdg) kk
/-! ===== SecretDaysModel.readLeap()V ===== -/
def f_X12_readLeap (S : sd_St) : Option (Unit × sd_St) := (if (S.1 130 14) = 0 then sd_nm (sd_I S 130 14 (1 : Int32)) (fun S_2 => sd_nm (sd_I S_2 130 7 ((S_2.1 130 7) + (1 : Int32))) (fun S_3 => sd_cl (f_X12_takeNumber (0 : Int32) (3 : Int32) S_3) (fun r_5 S_4 => sd_st S_4 136 (170 : Int32) r_5 (fun S_6 => (some ((), S_6)))))) else sd_cl (f_X12_errs (3 : Int32) S) (fun _ S_7 => (some ((), S_7))))
set_option maxHeartbeats 4000000 in
set_option maxRecDepth 100000 in
theorem c_X12_readLeap {S S' : sd_St} (h : f_X12_readLeap S = some ((), S')) : Met l yX12_readLeap (Cond.code yX12_readLeap cX12_readLeap 1 none :: sd_wl) (sd_rm 2) (sd_P D cy ad A b0 [.ref (ad 130)] S) (sd_Qv D cy ad A S') 0 0 A := by
  refine sd_met (by decide) (Nat.le_of_ble_eq_true rfl) (fun p e s m args below meth c ls C X hl => ?_)
  obtain ⟨hx, hb, -, hml, hown, hts, -, hG⟩ := id C
  replace C : sd_C RX12 cX12_readLeap 1 none D cy ad A b0 p s m args meth c := C
  replace hl : lv_has ls 1 [(0, .ref (ad 130))] := hl
  unfold f_X12_readLeap at h
  refine lv_aload_n hx hb dX12_readLeap_0 rfl (lv_at hl 0 rfl) ?_
  refine sd_g12_14 C X (by decide) sd_w18_20 dX12_readLeap_1 ?_
  refine lv_if_eq (tgt := 13) hx hb dX12_readLeap_4 (by decide) (fun c_1 => ?_) (fun c_1 => ?_)
  · have h := sd_ifp c_1 h
    refine lv_aload_n hx hb dX12_readLeap_13 rfl (lv_at hl 0 rfl) ?_
    refine lv_iconst (v := (1 : Int32)) hx hb dX12_readLeap_14 (by decide) ?_
    obtain ⟨S_2, eS_2, h⟩ := sd_nm_some h
    refine sd_p12_14 C X (by decide) (by decide) sd_w18_20 dX12_readLeap_15 (fun H locs X => ?_)
    rw [← eS_2] at X
    refine lv_aload_n hx hb dX12_readLeap_18 rfl (lv_at hl 0 rfl) ?_
    refine lv_dup hx hb dX12_readLeap_19 rfl ?_
    refine sd_g12_7 C X (by decide) sd_w18_22 dX12_readLeap_20 ?_
    refine lv_iconst (v := (1 : Int32)) hx hb dX12_readLeap_23 (by decide) ?_
    refine lv_iadd hx hb dX12_readLeap_24 ?_
    obtain ⟨S_3, eS_3, h⟩ := sd_nm_some h
    refine sd_p12_7 C X (by decide) sd_w18_22 dX12_readLeap_25 (fun H locs X => ?_)
    rw [← eS_3] at X
    refine lv_aload_n hx hb dX12_readLeap_28 rfl (lv_at hl 0 rfl) ?_
    refine sd_g12_10 (k := 130) C X (by decide) sd_w8_8 dX12_readLeap_29 ?_
    refine lv_sipush (v := (170 : Int32)) hx hb dX12_readLeap_32 (by decide) ?_
    refine lv_aload_n hx hb dX12_readLeap_35 rfl (lv_at hl 0 rfl) ?_
    refine lv_iconst (v := (0 : Int32)) hx hb dX12_readLeap_36 (by decide) ?_
    refine lv_iconst (v := (3 : Int32)) hx hb dX12_readLeap_37 (by decide) ?_
    obtain ⟨r_5, S_4, er_5, h⟩ := sd_cl_some h
    refine k_X12_takeNumber C X hl.1 er_5 sd_w20_11 (by decide) (Nat.le_of_ble_eq_true rfl) dX12_readLeap_38 (fun H locs X => ?_)
    obtain ⟨bS_6, S_6, eS_6, h⟩ := sd_st_some h
    refine sd_iast C X (by decide) bS_6 dX12_readLeap_41 (fun H locs X => ?_)
    rw [← eS_6] at X
    cases h
    exact sd_vret C X dX12_readLeap_42
  · have h := sd_ifn c_1 h
    refine lv_aload_n hx hb dX12_readLeap_7 rfl (lv_at hl 0 rfl) ?_
    refine lv_iconst (v := (3 : Int32)) hx hb dX12_readLeap_8 (by decide) ?_
    obtain ⟨r_8, S_7, er_8, h⟩ := sd_cl_some h
    refine k_X12_errs C X hl.1 er_8 sd_w20_7 (by decide) (Nat.le_of_ble_eq_true rfl) dX12_readLeap_9 (fun H locs X => ?_)
    cases h
    exact sd_vret C X dX12_readLeap_12
theorem k_X12_readLeap (C : sd_C own cc nL rt D cy ad A b0 p s m args meth c) (X : sd_H D cy ad A s S H locs) (hls : ls.size = nL) {S2 : sd_St} (h : f_X12_readLeap S = some ((), S2)) (hlink : Cond.methodLink own index yX12_readLeap ∈ sd_wl) (hR : 3 ≤ R.frames ∧ 100 ≤ R.locals ∧ cells ≤ R.cells ∧ slots ≤ R.slots) (hst : (rest.map fun v => v.category).sum ≤ 8) (hdg : decode cc pc = .ok (.invokevirtual index, 3)) (kk : ∀ (H1 : Heap) (locs1 : List Loc), sd_H D cy ad A s S2 H1 locs1 → W p l e R s m args below meth c H1 locs1 cells slots Q (F0 m (pc + 3) ls rest)) : W p l e R s m args below meth c H locs cells slots Q (F0 m pc ls (.ref (ad 130) :: rest)) :=
  sd_goV X (sd_runV C X hls (n := 0) (k := 130) (As := []) (c_X12_readLeap (l := l) (b0 := b0) h) (sd_goodV hlink sd_w20_4 sd_w20_5 sd_w1_5 sd_w20_6) (ci := 12) rfl (by rw [(show sd_kd 130 = 12 by decide)]; decide) (sd_c12 (show sd_kd 130 = 12 by decide)) (by decide +kernel) rfl hR rfl hst hdg) kk
/-! ===== SecretDaysModel.readName(I)V ===== -/
def f_X12_readName_b27 (x1 : Int32) (S : sd_St) : Option (Unit × sd_St) := (if (S.1 130 8) = 0 then sd_ldl S 134 (S.1 130 7) (fun v_2 => sd_stl S 137 (S.1 130 13) v_2 (fun S_3 => sd_st S_3 138 (S_3.1 130 13) x1 (fun S_4 => sd_nm (sd_I S_4 130 13 ((S_4.1 130 13) + (1 : Int32))) (fun S_5 => sd_nm (sd_I S_5 130 7 ((S_5.1 130 7) + (1 : Int32))) (fun S_6 => (some ((), S_6))))))) else (some ((), S)))
set_option maxHeartbeats 4000000 in
set_option maxRecDepth 100000 in
theorem t_X12_readName_b27 (C : sd_C RX12 cX12_readName 2 none D cy ad A b0 p s m args meth c) {S' : sd_St} : ∀ (x1 : Int32) (S : sd_St) (H : Heap) (locs : List Loc) (ls : Array Slot), f_X12_readName_b27 x1 S = some ((), S') → sd_H D cy ad A s S H locs → lv_has ls 2 [(0, .ref (ad 130)), (1, .int x1)] → W p l e (sd_rm 1) s m args below meth c H locs 0 0 (MQ below (sd_Qv D cy ad A S') args s 0 0 A) (F0 m 27 ls []) := by
  obtain ⟨hx, hb, -, hml, hown, hts, -, hG⟩ := id C
  intro x1 S H locs ls h X hl
  unfold f_X12_readName_b27 at h
  refine lv_aload_n hx hb dX12_readName_27 rfl (lv_at hl 0 rfl) ?_
  refine sd_g12_8 C X (by decide) sd_w18_21 dX12_readName_28 ?_
  refine lv_if_ne (tgt := 82) hx hb dX12_readName_31 (by decide) (fun c_1 => ?_) (fun c_1 => ?_)
  · have h := sd_ifn c_1 h
    cases h
    exact sd_vret C X dX12_readName_82
  · have h := sd_ifp c_1 h
    refine lv_aload_n hx hb dX12_readName_34 rfl (lv_at hl 0 rfl) ?_
    refine sd_g12_11 (k := 130) C X (by decide) sd_w8_9 dX12_readName_35 ?_
    refine lv_aload_n hx hb dX12_readName_38 rfl (lv_at hl 0 rfl) ?_
    refine sd_g12_13 C X (by decide) sd_w18_19 dX12_readName_39 ?_
    refine lv_aload_n hx hb dX12_readName_42 rfl (lv_at hl 0 rfl) ?_
    refine sd_g12_6 (k := 130) C X (by decide) sd_w7_16 dX12_readName_43 ?_
    refine lv_aload_n hx hb dX12_readName_46 rfl (lv_at hl 0 rfl) ?_
    refine sd_g12_7 C X (by decide) sd_w18_22 dX12_readName_47 ?_
    obtain ⟨b_2, v_2, e_2, h⟩ := sd_ldl_some h
    refine sd_lald C X (by decide) b_2 dX12_readName_50 (sd_nml e_2 ?_)
    obtain ⟨bS_3, S_3, eS_3, h⟩ := sd_stl_some h
    refine sd_last C X (by decide) bS_3 dX12_readName_51 (fun H locs X => ?_)
    rw [← eS_3] at X
    refine lv_aload_n hx hb dX12_readName_52 rfl (lv_at hl 0 rfl) ?_
    refine sd_g12_12 (k := 130) C X (by decide) sd_w8_10 dX12_readName_53 ?_
    refine lv_aload_n hx hb dX12_readName_56 rfl (lv_at hl 0 rfl) ?_
    refine sd_g12_13 C X (by decide) sd_w18_19 dX12_readName_57 ?_
    refine lv_iload_n hx hb dX12_readName_60 rfl (lv_at hl 1 rfl) ?_
    obtain ⟨bS_4, S_4, eS_4, h⟩ := sd_st_some h
    refine sd_iast C X (by decide) bS_4 dX12_readName_61 (fun H locs X => ?_)
    rw [← eS_4] at X
    refine lv_aload_n hx hb dX12_readName_62 rfl (lv_at hl 0 rfl) ?_
    refine lv_dup hx hb dX12_readName_63 rfl ?_
    refine sd_g12_13 C X (by decide) sd_w18_19 dX12_readName_64 ?_
    refine lv_iconst (v := (1 : Int32)) hx hb dX12_readName_67 (by decide) ?_
    refine lv_iadd hx hb dX12_readName_68 ?_
    obtain ⟨S_5, eS_5, h⟩ := sd_nm_some h
    refine sd_p12_13 C X (by decide) sd_w18_19 dX12_readName_69 (fun H locs X => ?_)
    rw [← eS_5] at X
    refine lv_aload_n hx hb dX12_readName_72 rfl (lv_at hl 0 rfl) ?_
    refine lv_dup hx hb dX12_readName_73 rfl ?_
    refine sd_g12_7 C X (by decide) sd_w18_22 dX12_readName_74 ?_
    refine lv_iconst (v := (1 : Int32)) hx hb dX12_readName_77 (by decide) ?_
    refine lv_iadd hx hb dX12_readName_78 ?_
    obtain ⟨S_6, eS_6, h⟩ := sd_nm_some h
    refine sd_p12_7 C X (by decide) sd_w18_22 dX12_readName_79 (fun H locs X => ?_)
    rw [← eS_6] at X
    cases h
    exact sd_vret C X dX12_readName_82
def f_X12_readName (x1 : Int32) (S : sd_St) : Option (Unit × sd_St) := sd_cl (f_X12_isName S) (fun r_8 S_7 => (if r_8 = 0 then sd_cl (f_X12_errs (1 : Int32) S_7) (fun _ S_15 => f_X12_readName_b27 x1 S_15) else sd_cl (f_X12_find S_7) (fun r_11 S_10 => (if r_11 < 0 then f_X12_readName_b27 x1 S_10 else sd_cl (f_X12_errs (3 : Int32) S_10) (fun _ S_13 => f_X12_readName_b27 x1 S_13)))))
set_option maxHeartbeats 4000000 in
set_option maxRecDepth 100000 in
theorem c_X12_readName {x1 : Int32} {S S' : sd_St} (h : f_X12_readName x1 S = some ((), S')) : Met l yX12_readName (Cond.code yX12_readName cX12_readName 2 none :: sd_wl) (sd_rm 1) (sd_P D cy ad A b0 [.ref (ad 130), .int x1] S) (sd_Qv D cy ad A S') 0 0 A := by
  refine sd_met (by decide) (Nat.le_of_ble_eq_true rfl) (fun p e s m args below meth c ls C X hl => ?_)
  obtain ⟨hx, hb, -, hml, hown, hts, -, hG⟩ := id C
  replace C : sd_C RX12 cX12_readName 2 none D cy ad A b0 p s m args meth c := C
  replace hl : lv_has ls 2 [(0, .ref (ad 130)), (1, .int x1)] := hl
  unfold f_X12_readName at h
  refine lv_aload_n hx hb dX12_readName_0 rfl (lv_at hl 0 rfl) ?_
  obtain ⟨r_8, S_7, er_8, h⟩ := sd_cl_some h
  refine k_X12_isName C X hl.1 er_8 sd_w20_23 (by decide) (Nat.le_of_ble_eq_true rfl) dX12_readName_1 (fun H locs X => ?_)
  refine lv_if_ne (tgt := 15) hx hb dX12_readName_4 (by decide) (fun c_9 => ?_) (fun c_9 => ?_)
  · have h := sd_ifn c_9 h
    refine lv_aload_n hx hb dX12_readName_15 rfl (lv_at hl 0 rfl) ?_
    obtain ⟨r_11, S_10, er_11, h⟩ := sd_cl_some h
    refine k_X12_find C X hl.1 er_11 sd_w21_3 (by decide) (Nat.le_of_ble_eq_true rfl) dX12_readName_16 (fun H locs X => ?_)
    refine lv_if_lt (tgt := 27) hx hb dX12_readName_19 (by decide) (fun c_12 => ?_) (fun c_12 => ?_)
    · have h := sd_ifp c_12 h
      exact t_X12_readName_b27 C x1 S_10 _ _ _ h X (lv_sub hl [0, 1] rfl)
    · have h := sd_ifn c_12 h
      refine lv_aload_n hx hb dX12_readName_22 rfl (lv_at hl 0 rfl) ?_
      refine lv_iconst (v := (3 : Int32)) hx hb dX12_readName_23 (by decide) ?_
      obtain ⟨r_14, S_13, er_14, h⟩ := sd_cl_some h
      refine k_X12_errs C X hl.1 er_14 sd_w20_7 (by decide) (Nat.le_of_ble_eq_true rfl) dX12_readName_24 (fun H locs X => ?_)
      exact t_X12_readName_b27 C x1 S_13 _ _ _ h X (lv_sub hl [0, 1] rfl)
  · have h := sd_ifp c_9 h
    refine lv_aload_n hx hb dX12_readName_7 rfl (lv_at hl 0 rfl) ?_
    refine lv_iconst (v := (1 : Int32)) hx hb dX12_readName_8 (by decide) ?_
    obtain ⟨r_16, S_15, er_16, h⟩ := sd_cl_some h
    refine k_X12_errs C X hl.1 er_16 sd_w20_7 (by decide) (Nat.le_of_ble_eq_true rfl) dX12_readName_9 (fun H locs X => ?_)
    refine lv_goto (tgt := 27) hx hb dX12_readName_12 (by decide) ?_
    exact t_X12_readName_b27 C x1 S_15 _ _ _ h X (lv_sub hl [0, 1] rfl)
theorem k_X12_readName (C : sd_C own cc nL rt D cy ad A b0 p s m args meth c) (X : sd_H D cy ad A s S H locs) (hls : ls.size = nL) {x1 : Int32} {S2 : sd_St} (h : f_X12_readName x1 S = some ((), S2)) (hlink : Cond.methodLink own index yX12_readName ∈ sd_wl) (hR : 2 ≤ R.frames ∧ 61 ≤ R.locals ∧ cells ≤ R.cells ∧ slots ≤ R.slots) (hst : (rest.map fun v => v.category).sum ≤ 8) (hdg : decode cc pc = .ok (.invokevirtual index, 3)) (kk : ∀ (H1 : Heap) (locs1 : List Loc), sd_H D cy ad A s S2 H1 locs1 → W p l e R s m args below meth c H1 locs1 cells slots Q (F0 m (pc + 3) ls rest)) : W p l e R s m args below meth c H locs cells slots Q (F0 m pc ls (.int x1 :: .ref (ad 130) :: rest)) :=
  sd_goV X (sd_runV C X hls (n := 1) (k := 130) (As := [.int x1]) (c_X12_readName (l := l) (b0 := b0) h) (sd_goodV hlink sd_w20_20 sd_w20_21 sd_w1_5 sd_w20_22) (ci := 12) rfl (by rw [(show sd_kd 130 = 12 by decide)]; decide) (sd_c12 (show sd_kd 130 = 12 by decide)) (by decide +kernel) rfl hR rfl hst hdg) kk
/-! ===== SecretDaysModel.readPerson()V ===== -/
def f_X12_readPerson_b108 (S : sd_St) : Option (Unit × sd_St) := sd_cl (f_X12_errs (3 : Int32) S) (fun _ S_1 => (some ((), S_1)))
set_option maxHeartbeats 4000000 in
set_option maxRecDepth 100000 in
theorem t_X12_readPerson_b108 (C : sd_C RX12 cX12_readPerson 6 none D cy ad A b0 p s m args meth c) {S' : sd_St} : ∀ (S : sd_St) (H : Heap) (locs : List Loc) (ls : Array Slot), f_X12_readPerson_b108 S = some ((), S') → sd_H D cy ad A s S H locs → lv_has ls 6 [(0, .ref (ad 130))] → W p l e (sd_rm 3) s m args below meth c H locs 0 0 (MQ below (sd_Qv D cy ad A S') args s 0 0 A) (F0 m 108 ls []) := by
  obtain ⟨hx, hb, -, hml, hown, hts, -, hG⟩ := id C
  intro S H locs ls h X hl
  unfold f_X12_readPerson_b108 at h
  refine lv_aload_n hx hb dX12_readPerson_108 rfl (lv_at hl 0 rfl) ?_
  refine lv_iconst (v := (3 : Int32)) hx hb dX12_readPerson_109 (by decide) ?_
  obtain ⟨r_2, S_1, er_2, h⟩ := sd_cl_some h
  refine k_X12_errs C X hl.1 er_2 sd_w20_7 (by decide) (Nat.le_of_ble_eq_true rfl) dX12_readPerson_110 (fun H locs X => ?_)
  cases h
  exact sd_vret C X dX12_readPerson_113
def f_X12_readPerson_b197 (q68 : (Int32 → Int32 → Int32 → sd_St → Option (Unit × sd_St))) (x2 : Int32) (x3 : Int32) (x4 : Int32) (S : sd_St) : Option (Unit × sd_St) := q68 x2 x3 x4 S
set_option maxHeartbeats 4000000 in
set_option maxRecDepth 100000 in
theorem t_X12_readPerson_b197 (C : sd_C RX12 cX12_readPerson 6 none D cy ad A b0 p s m args meth c) {S' : sd_St} {q68 : (Int32 → Int32 → Int32 → sd_St → Option (Unit × sd_St))} (hq68 : ∀ (x2 : Int32) (x3 : Int32) (x4 : Int32) (S : sd_St) (H : Heap) (locs : List Loc) (ls : Array Slot), q68 x2 x3 x4 S = some ((), S') → sd_H D cy ad A s S H locs → lv_has ls 6 [(0, .ref (ad 130)), (2, .int x2), (3, .int x3), (4, .int x4)] → W p l e (sd_rm 3) s m args below meth c H locs 0 0 (MQ below (sd_Qv D cy ad A S') args s 0 0 A) (F0 m 68 ls [])) : ∀ (x2 : Int32) (x3 : Int32) (x4 : Int32) (S : sd_St) (H : Heap) (locs : List Loc) (ls : Array Slot), f_X12_readPerson_b197 q68 x2 x3 x4 S = some ((), S') → sd_H D cy ad A s S H locs → lv_has ls 6 [(0, .ref (ad 130)), (2, .int x2), (3, .int x3), (4, .int x4)] → W p l e (sd_rm 3) s m args below meth c H locs 0 0 (MQ below (sd_Qv D cy ad A S') args s 0 0 A) (F0 m 197 ls []) := by
  obtain ⟨hx, hb, -, hml, hown, hts, -, hG⟩ := id C
  intro x2 x3 x4 S H locs ls h X hl
  unfold f_X12_readPerson_b197 at h
  refine lv_goto (tgt := 68) hx hb dX12_readPerson_197 (by decide) ?_
  exact hq68 x2 x3 x4 S _ _ _ h X (lv_sub hl [0, 1, 2, 3] rfl)
def f_X12_readPerson_b154 (q68 : (Int32 → Int32 → Int32 → sd_St → Option (Unit × sd_St))) (x2 : Int32) (x3 : Int32) (x5 : Int32) (w0 : Int32) (S : sd_St) : Option (Unit × sd_St) := (if x5 = 0 then sd_cl (f_X12_takeNumber (0 : Int32) (99 : Int32) S) (fun r_5 S_4 => sd_st S_4 136 (x2 + (2 : Int32)) r_5 (fun S_6 => f_X12_readPerson_b197 q68 x2 x3 w0 S_6)) else sd_cl (f_X12_takeNumber (0 : Int32) (365 : Int32) S) (fun r_8 S_7 => sd_st S_7 136 (x2 + (1 : Int32)) ((1 : Int32) + r_8) (fun S_9 => f_X12_readPerson_b197 q68 x2 x3 w0 S_9)))
set_option maxHeartbeats 4000000 in
set_option maxRecDepth 100000 in
theorem t_X12_readPerson_b154 (C : sd_C RX12 cX12_readPerson 6 none D cy ad A b0 p s m args meth c) {S' : sd_St} {q68 : (Int32 → Int32 → Int32 → sd_St → Option (Unit × sd_St))} (hq68 : ∀ (x2 : Int32) (x3 : Int32) (x4 : Int32) (S : sd_St) (H : Heap) (locs : List Loc) (ls : Array Slot), q68 x2 x3 x4 S = some ((), S') → sd_H D cy ad A s S H locs → lv_has ls 6 [(0, .ref (ad 130)), (2, .int x2), (3, .int x3), (4, .int x4)] → W p l e (sd_rm 3) s m args below meth c H locs 0 0 (MQ below (sd_Qv D cy ad A S') args s 0 0 A) (F0 m 68 ls [])) : ∀ (x2 : Int32) (x3 : Int32) (x5 : Int32) (w0 : Int32) (S : sd_St) (H : Heap) (locs : List Loc) (ls : Array Slot), f_X12_readPerson_b154 q68 x2 x3 x5 w0 S = some ((), S') → sd_H D cy ad A s S H locs → lv_has ls 6 [(0, .ref (ad 130)), (2, .int x2), (3, .int x3), (5, .int x5)] → W p l e (sd_rm 3) s m args below meth c H locs 0 0 (MQ below (sd_Qv D cy ad A S') args s 0 0 A) (F0 m 154 ls [.int w0]) := by
  obtain ⟨hx, hb, -, hml, hown, hts, -, hG⟩ := id C
  intro x2 x3 x5 w0 S H locs ls h X hl
  unfold f_X12_readPerson_b154 at h
  refine lv_istore (lv' := [(4, .int w0), (0, .ref (ad 130)), (2, .int x2), (3, .int x3), (5, .int x5)]) hx hb dX12_readPerson_154 hl (by decide) rfl (fun ls hl => ?_)
  refine lv_iload hx hb dX12_readPerson_156 (lv_at hl 4 rfl) ?_
  refine lv_if_eq (tgt := 182) hx hb dX12_readPerson_158 (by decide) (fun c_3 => ?_) (fun c_3 => ?_)
  · have h := sd_ifp c_3 h
    refine lv_aload_n hx hb dX12_readPerson_182 rfl (lv_at hl 1 rfl) ?_
    refine sd_g12_10 (k := 130) C X (by decide) sd_w8_8 dX12_readPerson_183 ?_
    refine lv_iload_n hx hb dX12_readPerson_186 rfl (lv_at hl 2 rfl) ?_
    refine lv_iconst (v := (2 : Int32)) hx hb dX12_readPerson_187 (by decide) ?_
    refine lv_iadd hx hb dX12_readPerson_188 ?_
    refine lv_aload_n hx hb dX12_readPerson_189 rfl (lv_at hl 1 rfl) ?_
    refine lv_iconst (v := (0 : Int32)) hx hb dX12_readPerson_190 (by decide) ?_
    refine lv_bipush (v := (99 : Int32)) hx hb dX12_readPerson_191 (by decide) ?_
    obtain ⟨r_5, S_4, er_5, h⟩ := sd_cl_some h
    refine k_X12_takeNumber C X hl.1 er_5 sd_w20_11 (by decide) (Nat.le_of_ble_eq_true rfl) dX12_readPerson_193 (fun H locs X => ?_)
    obtain ⟨bS_6, S_6, eS_6, h⟩ := sd_st_some h
    refine sd_iast C X (by decide) bS_6 dX12_readPerson_196 (fun H locs X => ?_)
    rw [← eS_6] at X
    exact t_X12_readPerson_b197 C hq68 x2 x3 w0 S_6 _ _ _ h X (lv_sub hl [1, 2, 3, 0] rfl)
  · have h := sd_ifn c_3 h
    refine lv_aload_n hx hb dX12_readPerson_161 rfl (lv_at hl 1 rfl) ?_
    refine sd_g12_10 (k := 130) C X (by decide) sd_w8_8 dX12_readPerson_162 ?_
    refine lv_iload_n hx hb dX12_readPerson_165 rfl (lv_at hl 2 rfl) ?_
    refine lv_iconst (v := (1 : Int32)) hx hb dX12_readPerson_166 (by decide) ?_
    refine lv_iadd hx hb dX12_readPerson_167 ?_
    refine lv_iconst (v := (1 : Int32)) hx hb dX12_readPerson_168 (by decide) ?_
    refine lv_aload_n hx hb dX12_readPerson_169 rfl (lv_at hl 1 rfl) ?_
    refine lv_iconst (v := (0 : Int32)) hx hb dX12_readPerson_170 (by decide) ?_
    refine lv_sipush (v := (365 : Int32)) hx hb dX12_readPerson_171 (by decide) ?_
    obtain ⟨r_8, S_7, er_8, h⟩ := sd_cl_some h
    refine k_X12_takeNumber C X hl.1 er_8 sd_w20_11 (by decide) (Nat.le_of_ble_eq_true rfl) dX12_readPerson_174 (fun H locs X => ?_)
    refine lv_iadd hx hb dX12_readPerson_177 ?_
    obtain ⟨bS_9, S_9, eS_9, h⟩ := sd_st_some h
    refine sd_iast C X (by decide) bS_9 dX12_readPerson_178 (fun H locs X => ?_)
    rw [← eS_9] at X
    refine lv_goto (tgt := 197) hx hb dX12_readPerson_179 (by decide) ?_
    exact t_X12_readPerson_b197 C hq68 x2 x3 w0 S_9 _ _ _ h X (lv_sub hl [1, 2, 3, 0] rfl)
def f_X12_readPerson_b149 (q68 : (Int32 → Int32 → Int32 → sd_St → Option (Unit × sd_St))) (x2 : Int32) (x3 : Int32) (x5 : Int32) (S : sd_St) : Option (Unit × sd_St) := f_X12_readPerson_b154 q68 x2 x3 x5 (1 : Int32) S
set_option maxHeartbeats 4000000 in
set_option maxRecDepth 100000 in
theorem t_X12_readPerson_b149 (C : sd_C RX12 cX12_readPerson 6 none D cy ad A b0 p s m args meth c) {S' : sd_St} {q68 : (Int32 → Int32 → Int32 → sd_St → Option (Unit × sd_St))} (hq68 : ∀ (x2 : Int32) (x3 : Int32) (x4 : Int32) (S : sd_St) (H : Heap) (locs : List Loc) (ls : Array Slot), q68 x2 x3 x4 S = some ((), S') → sd_H D cy ad A s S H locs → lv_has ls 6 [(0, .ref (ad 130)), (2, .int x2), (3, .int x3), (4, .int x4)] → W p l e (sd_rm 3) s m args below meth c H locs 0 0 (MQ below (sd_Qv D cy ad A S') args s 0 0 A) (F0 m 68 ls [])) : ∀ (x2 : Int32) (x3 : Int32) (x5 : Int32) (S : sd_St) (H : Heap) (locs : List Loc) (ls : Array Slot), f_X12_readPerson_b149 q68 x2 x3 x5 S = some ((), S') → sd_H D cy ad A s S H locs → lv_has ls 6 [(0, .ref (ad 130)), (2, .int x2), (3, .int x3), (5, .int x5)] → W p l e (sd_rm 3) s m args below meth c H locs 0 0 (MQ below (sd_Qv D cy ad A S') args s 0 0 A) (F0 m 149 ls []) := by
  obtain ⟨hx, hb, -, hml, hown, hts, -, hG⟩ := id C
  intro x2 x3 x5 S H locs ls h X hl
  unfold f_X12_readPerson_b149 at h
  refine lv_iconst (v := (1 : Int32)) hx hb dX12_readPerson_149 (by decide) ?_
  refine lv_goto (tgt := 154) hx hb dX12_readPerson_150 (by decide) ?_
  exact t_X12_readPerson_b154 C hq68 x2 x3 x5 (1 : Int32) S _ _ _ h X (lv_sub hl [0, 1, 2, 3] rfl)
def f_X12_readPerson_b138 (q68 : (Int32 → Int32 → Int32 → sd_St → Option (Unit × sd_St))) (x2 : Int32) (x4 : Int32) (x5 : Int32) (w0 : Int32) (S : sd_St) : Option (Unit × sd_St) := (if x4 = 0 then (if x5 = 0 then f_X12_readPerson_b149 q68 x2 w0 x5 S else f_X12_readPerson_b154 q68 x2 w0 x5 (0 : Int32) S) else f_X12_readPerson_b149 q68 x2 w0 x5 S)
set_option maxHeartbeats 4000000 in
set_option maxRecDepth 100000 in
theorem t_X12_readPerson_b138 (C : sd_C RX12 cX12_readPerson 6 none D cy ad A b0 p s m args meth c) {S' : sd_St} {q68 : (Int32 → Int32 → Int32 → sd_St → Option (Unit × sd_St))} (hq68 : ∀ (x2 : Int32) (x3 : Int32) (x4 : Int32) (S : sd_St) (H : Heap) (locs : List Loc) (ls : Array Slot), q68 x2 x3 x4 S = some ((), S') → sd_H D cy ad A s S H locs → lv_has ls 6 [(0, .ref (ad 130)), (2, .int x2), (3, .int x3), (4, .int x4)] → W p l e (sd_rm 3) s m args below meth c H locs 0 0 (MQ below (sd_Qv D cy ad A S') args s 0 0 A) (F0 m 68 ls [])) : ∀ (x2 : Int32) (x4 : Int32) (x5 : Int32) (w0 : Int32) (S : sd_St) (H : Heap) (locs : List Loc) (ls : Array Slot), f_X12_readPerson_b138 q68 x2 x4 x5 w0 S = some ((), S') → sd_H D cy ad A s S H locs → lv_has ls 6 [(0, .ref (ad 130)), (2, .int x2), (4, .int x4), (5, .int x5)] → W p l e (sd_rm 3) s m args below meth c H locs 0 0 (MQ below (sd_Qv D cy ad A S') args s 0 0 A) (F0 m 138 ls [.int w0]) := by
  obtain ⟨hx, hb, -, hml, hown, hts, -, hG⟩ := id C
  intro x2 x4 x5 w0 S H locs ls h X hl
  unfold f_X12_readPerson_b138 at h
  refine lv_istore_n (lv' := [(3, .int w0), (0, .ref (ad 130)), (2, .int x2), (4, .int x4), (5, .int x5)]) hx hb dX12_readPerson_138 rfl hl (by decide) rfl (fun ls hl => ?_)
  refine lv_iload hx hb dX12_readPerson_139 (lv_at hl 3 rfl) ?_
  refine lv_if_ne (tgt := 149) hx hb dX12_readPerson_141 (by decide) (fun c_10 => ?_) (fun c_10 => ?_)
  · have h := sd_ifn c_10 h
    exact t_X12_readPerson_b149 C hq68 x2 w0 x5 S _ _ _ h X (lv_sub hl [1, 2, 0, 4] rfl)
  · have h := sd_ifp c_10 h
    refine lv_iload hx hb dX12_readPerson_144 (lv_at hl 4 rfl) ?_
    refine lv_if_ne (tgt := 153) hx hb dX12_readPerson_146 (by decide) (fun c_11 => ?_) (fun c_11 => ?_)
    · have h := sd_ifn c_11 h
      refine lv_iconst (v := (0 : Int32)) hx hb dX12_readPerson_153 (by decide) ?_
      exact t_X12_readPerson_b154 C hq68 x2 w0 x5 (0 : Int32) S _ _ _ h X (lv_sub hl [1, 2, 0, 4] rfl)
    · have h := sd_ifp c_11 h
      exact t_X12_readPerson_b149 C hq68 x2 w0 x5 S _ _ _ h X (lv_sub hl [1, 2, 0, 4] rfl)
def f_X12_readPerson_b133 (q68 : (Int32 → Int32 → Int32 → sd_St → Option (Unit × sd_St))) (x2 : Int32) (x4 : Int32) (x5 : Int32) (S : sd_St) : Option (Unit × sd_St) := f_X12_readPerson_b138 q68 x2 x4 x5 (1 : Int32) S
set_option maxHeartbeats 4000000 in
set_option maxRecDepth 100000 in
theorem t_X12_readPerson_b133 (C : sd_C RX12 cX12_readPerson 6 none D cy ad A b0 p s m args meth c) {S' : sd_St} {q68 : (Int32 → Int32 → Int32 → sd_St → Option (Unit × sd_St))} (hq68 : ∀ (x2 : Int32) (x3 : Int32) (x4 : Int32) (S : sd_St) (H : Heap) (locs : List Loc) (ls : Array Slot), q68 x2 x3 x4 S = some ((), S') → sd_H D cy ad A s S H locs → lv_has ls 6 [(0, .ref (ad 130)), (2, .int x2), (3, .int x3), (4, .int x4)] → W p l e (sd_rm 3) s m args below meth c H locs 0 0 (MQ below (sd_Qv D cy ad A S') args s 0 0 A) (F0 m 68 ls [])) : ∀ (x2 : Int32) (x4 : Int32) (x5 : Int32) (S : sd_St) (H : Heap) (locs : List Loc) (ls : Array Slot), f_X12_readPerson_b133 q68 x2 x4 x5 S = some ((), S') → sd_H D cy ad A s S H locs → lv_has ls 6 [(0, .ref (ad 130)), (2, .int x2), (4, .int x4), (5, .int x5)] → W p l e (sd_rm 3) s m args below meth c H locs 0 0 (MQ below (sd_Qv D cy ad A S') args s 0 0 A) (F0 m 133 ls []) := by
  obtain ⟨hx, hb, -, hml, hown, hts, -, hG⟩ := id C
  intro x2 x4 x5 S H locs ls h X hl
  unfold f_X12_readPerson_b133 at h
  refine lv_iconst (v := (1 : Int32)) hx hb dX12_readPerson_133 (by decide) ?_
  refine lv_goto (tgt := 138) hx hb dX12_readPerson_134 (by decide) ?_
  exact t_X12_readPerson_b138 C hq68 x2 x4 x5 (1 : Int32) S _ _ _ h X (lv_sub hl [0, 1, 2, 3] rfl)
def f_X12_readPerson_b114 (q68 : (Int32 → Int32 → Int32 → sd_St → Option (Unit × sd_St))) (x2 : Int32) (x3 : Int32) (x4 : Int32) (x5 : Int32) (S : sd_St) : Option (Unit × sd_St) := sd_nm (sd_I S 130 7 ((S.1 130 7) + (1 : Int32))) (fun S_12 => (if x3 = 0 then (if x5 = 0 then f_X12_readPerson_b138 q68 x2 x4 x5 (0 : Int32) S_12 else f_X12_readPerson_b133 q68 x2 x4 x5 S_12) else f_X12_readPerson_b133 q68 x2 x4 x5 S_12))
set_option maxHeartbeats 4000000 in
set_option maxRecDepth 100000 in
theorem t_X12_readPerson_b114 (C : sd_C RX12 cX12_readPerson 6 none D cy ad A b0 p s m args meth c) {S' : sd_St} {q68 : (Int32 → Int32 → Int32 → sd_St → Option (Unit × sd_St))} (hq68 : ∀ (x2 : Int32) (x3 : Int32) (x4 : Int32) (S : sd_St) (H : Heap) (locs : List Loc) (ls : Array Slot), q68 x2 x3 x4 S = some ((), S') → sd_H D cy ad A s S H locs → lv_has ls 6 [(0, .ref (ad 130)), (2, .int x2), (3, .int x3), (4, .int x4)] → W p l e (sd_rm 3) s m args below meth c H locs 0 0 (MQ below (sd_Qv D cy ad A S') args s 0 0 A) (F0 m 68 ls [])) : ∀ (x2 : Int32) (x3 : Int32) (x4 : Int32) (x5 : Int32) (S : sd_St) (H : Heap) (locs : List Loc) (ls : Array Slot), f_X12_readPerson_b114 q68 x2 x3 x4 x5 S = some ((), S') → sd_H D cy ad A s S H locs → lv_has ls 6 [(0, .ref (ad 130)), (2, .int x2), (3, .int x3), (4, .int x4), (5, .int x5)] → W p l e (sd_rm 3) s m args below meth c H locs 0 0 (MQ below (sd_Qv D cy ad A S') args s 0 0 A) (F0 m 114 ls []) := by
  obtain ⟨hx, hb, -, hml, hown, hts, -, hG⟩ := id C
  intro x2 x3 x4 x5 S H locs ls h X hl
  unfold f_X12_readPerson_b114 at h
  refine lv_aload_n hx hb dX12_readPerson_114 rfl (lv_at hl 0 rfl) ?_
  refine lv_dup hx hb dX12_readPerson_115 rfl ?_
  refine sd_g12_7 C X (by decide) sd_w18_22 dX12_readPerson_116 ?_
  refine lv_iconst (v := (1 : Int32)) hx hb dX12_readPerson_119 (by decide) ?_
  refine lv_iadd hx hb dX12_readPerson_120 ?_
  obtain ⟨S_12, eS_12, h⟩ := sd_nm_some h
  refine sd_p12_7 C X (by decide) sd_w18_22 dX12_readPerson_121 (fun H locs X => ?_)
  rw [← eS_12] at X
  refine lv_iload_n hx hb dX12_readPerson_124 rfl (lv_at hl 2 rfl) ?_
  refine lv_if_ne (tgt := 133) hx hb dX12_readPerson_125 (by decide) (fun c_13 => ?_) (fun c_13 => ?_)
  · have h := sd_ifn c_13 h
    exact t_X12_readPerson_b133 C hq68 x2 x4 x5 S_12 _ _ _ h X (lv_sub hl [0, 1, 3, 4] rfl)
  · have h := sd_ifp c_13 h
    refine lv_iload hx hb dX12_readPerson_128 (lv_at hl 4 rfl) ?_
    refine lv_if_eq (tgt := 137) hx hb dX12_readPerson_130 (by decide) (fun c_14 => ?_) (fun c_14 => ?_)
    · have h := sd_ifp c_14 h
      refine lv_iconst (v := (0 : Int32)) hx hb dX12_readPerson_137 (by decide) ?_
      exact t_X12_readPerson_b138 C hq68 x2 x4 x5 (0 : Int32) S_12 _ _ _ h X (lv_sub hl [0, 1, 3, 4] rfl)
    · have h := sd_ifn c_14 h
      exact t_X12_readPerson_b133 C hq68 x2 x4 x5 S_12 _ _ _ h X (lv_sub hl [0, 1, 3, 4] rfl)
def f_X12_readPerson_b84 (q68 : (Int32 → Int32 → Int32 → sd_St → Option (Unit × sd_St))) (x2 : Int32) (x3 : Int32) (x4 : Int32) (S : sd_St) : Option (Unit × sd_St) := sd_cl (f_X12_isWord (3 : Int32) S) (fun r_16 S_15 => (if r_16 = 0 then (if x4 = 0 then f_X12_readPerson_b114 q68 x2 x3 x4 r_16 S_15 else f_X12_readPerson_b108 S_15) else (if x3 = 0 then f_X12_readPerson_b114 q68 x2 x3 x4 r_16 S_15 else f_X12_readPerson_b108 S_15)))
set_option maxHeartbeats 4000000 in
set_option maxRecDepth 100000 in
theorem t_X12_readPerson_b84 (C : sd_C RX12 cX12_readPerson 6 none D cy ad A b0 p s m args meth c) {S' : sd_St} {q68 : (Int32 → Int32 → Int32 → sd_St → Option (Unit × sd_St))} (hq68 : ∀ (x2 : Int32) (x3 : Int32) (x4 : Int32) (S : sd_St) (H : Heap) (locs : List Loc) (ls : Array Slot), q68 x2 x3 x4 S = some ((), S') → sd_H D cy ad A s S H locs → lv_has ls 6 [(0, .ref (ad 130)), (2, .int x2), (3, .int x3), (4, .int x4)] → W p l e (sd_rm 3) s m args below meth c H locs 0 0 (MQ below (sd_Qv D cy ad A S') args s 0 0 A) (F0 m 68 ls [])) : ∀ (x2 : Int32) (x3 : Int32) (x4 : Int32) (S : sd_St) (H : Heap) (locs : List Loc) (ls : Array Slot), f_X12_readPerson_b84 q68 x2 x3 x4 S = some ((), S') → sd_H D cy ad A s S H locs → lv_has ls 6 [(0, .ref (ad 130)), (2, .int x2), (3, .int x3), (4, .int x4)] → W p l e (sd_rm 3) s m args below meth c H locs 0 0 (MQ below (sd_Qv D cy ad A S') args s 0 0 A) (F0 m 84 ls []) := by
  obtain ⟨hx, hb, -, hml, hown, hts, -, hG⟩ := id C
  intro x2 x3 x4 S H locs ls h X hl
  unfold f_X12_readPerson_b84 at h
  refine lv_aload_n hx hb dX12_readPerson_84 rfl (lv_at hl 0 rfl) ?_
  refine lv_iconst (v := (3 : Int32)) hx hb dX12_readPerson_85 (by decide) ?_
  obtain ⟨r_16, S_15, er_16, h⟩ := sd_cl_some h
  refine k_X12_isWord C X hl.1 er_16 sd_w19_23 (by decide) (Nat.le_of_ble_eq_true rfl) dX12_readPerson_86 (fun H locs X => ?_)
  refine lv_istore (lv' := [(5, .int r_16), (0, .ref (ad 130)), (2, .int x2), (3, .int x3), (4, .int x4)]) hx hb dX12_readPerson_89 hl (by decide) rfl (fun ls hl => ?_)
  refine lv_iload hx hb dX12_readPerson_91 (lv_at hl 0 rfl) ?_
  refine lv_if_eq (tgt := 103) hx hb dX12_readPerson_93 (by decide) (fun c_17 => ?_) (fun c_17 => ?_)
  · have h := sd_ifp c_17 h
    refine lv_iload hx hb dX12_readPerson_103 (lv_at hl 4 rfl) ?_
    refine lv_if_eq (tgt := 114) hx hb dX12_readPerson_105 (by decide) (fun c_18 => ?_) (fun c_18 => ?_)
    · have h := sd_ifp c_18 h
      exact t_X12_readPerson_b114 C hq68 x2 x3 x4 r_16 S_15 _ _ _ h X (lv_sub hl [1, 2, 3, 4, 0] rfl)
    · have h := sd_ifn c_18 h
      exact t_X12_readPerson_b108 C S_15 _ _ _ h X (lv_sub hl [1] rfl)
  · have h := sd_ifn c_17 h
    refine lv_iload_n hx hb dX12_readPerson_96 rfl (lv_at hl 3 rfl) ?_
    refine lv_if_eq (tgt := 114) hx hb dX12_readPerson_97 (by decide) (fun c_19 => ?_) (fun c_19 => ?_)
    · have h := sd_ifp c_19 h
      exact t_X12_readPerson_b114 C hq68 x2 x3 x4 r_16 S_15 _ _ _ h X (lv_sub hl [1, 2, 3, 4, 0] rfl)
    · have h := sd_ifn c_19 h
      refine lv_goto (tgt := 108) hx hb dX12_readPerson_100 (by decide) ?_
      exact t_X12_readPerson_b108 C S_15 _ _ _ h X (lv_sub hl [1] rfl)
def f_X12_readPerson_l68 : Nat → Int32 → Int32 → Int32 → sd_St → Option (Unit × sd_St)
  | 0 => fun _ _ _ _ => none
  | n + 1 => fun x2 x3 x4 S => sd_cl (f_X12_isWord (3 : Int32) S) (fun r_21 S_20 => (if r_21 = 0 then sd_cl (f_X12_isWord (4 : Int32) S_20) (fun r_24 S_23 => (if r_24 = 0 then sd_ld S_23 136 (172 : Int32) (fun v_26 => sd_st S_23 136 (172 : Int32) (v_26 + (1 : Int32)) (fun S_27 => (some ((), S_27)))) else f_X12_readPerson_b84 (f_X12_readPerson_l68 n) x2 x3 x4 S_23)) else f_X12_readPerson_b84 (f_X12_readPerson_l68 n) x2 x3 x4 S_20))
set_option maxHeartbeats 4000000 in
set_option maxRecDepth 100000 in
theorem t_X12_readPerson_l68 (C : sd_C RX12 cX12_readPerson 6 none D cy ad A b0 p s m args meth c) {S' : sd_St} : ∀ (n : Nat) (x2 : Int32) (x3 : Int32) (x4 : Int32) (S : sd_St) (H : Heap) (locs : List Loc) (ls : Array Slot), f_X12_readPerson_l68 n x2 x3 x4 S = some ((), S') → sd_H D cy ad A s S H locs → lv_has ls 6 [(0, .ref (ad 130)), (2, .int x2), (3, .int x3), (4, .int x4)] → W p l e (sd_rm 3) s m args below meth c H locs 0 0 (MQ below (sd_Qv D cy ad A S') args s 0 0 A) (F0 m 68 ls []) := by
  obtain ⟨hx, hb, -, hml, hown, hts, -, hG⟩ := id C
  intro n
  induction n with
  | zero => intro x2 x3 x4 S H locs ls h; cases h
  | succ n ih =>
    intro x2 x3 x4 S H locs ls h X hl
    unfold f_X12_readPerson_l68 at h
    refine lv_aload_n hx hb dX12_readPerson_68 rfl (lv_at hl 0 rfl) ?_
    refine lv_iconst (v := (3 : Int32)) hx hb dX12_readPerson_69 (by decide) ?_
    obtain ⟨r_21, S_20, er_21, h⟩ := sd_cl_some h
    refine k_X12_isWord C X hl.1 er_21 sd_w19_23 (by decide) (Nat.le_of_ble_eq_true rfl) dX12_readPerson_70 (fun H locs X => ?_)
    refine lv_if_ne (tgt := 84) hx hb dX12_readPerson_73 (by decide) (fun c_22 => ?_) (fun c_22 => ?_)
    · have h := sd_ifn c_22 h
      exact t_X12_readPerson_b84 C ih x2 x3 x4 S_20 _ _ _ h X (lv_sub hl [0, 1, 2, 3] rfl)
    · have h := sd_ifp c_22 h
      refine lv_aload_n hx hb dX12_readPerson_76 rfl (lv_at hl 0 rfl) ?_
      refine lv_iconst (v := (4 : Int32)) hx hb dX12_readPerson_77 (by decide) ?_
      obtain ⟨r_24, S_23, er_24, h⟩ := sd_cl_some h
      refine k_X12_isWord C X hl.1 er_24 sd_w19_23 (by decide) (Nat.le_of_ble_eq_true rfl) dX12_readPerson_78 (fun H locs X => ?_)
      refine lv_if_eq (tgt := 200) hx hb dX12_readPerson_81 (by decide) (fun c_25 => ?_) (fun c_25 => ?_)
      · have h := sd_ifp c_25 h
        refine lv_aload_n hx hb dX12_readPerson_200 rfl (lv_at hl 0 rfl) ?_
        refine sd_g12_10 (k := 130) C X (by decide) sd_w8_8 dX12_readPerson_201 ?_
        refine lv_sipush (v := (172 : Int32)) hx hb dX12_readPerson_204 (by decide) ?_
        refine lv_dup2_11 hx hb dX12_readPerson_207 rfl rfl ?_
        obtain ⟨b_26, v_26, e_26, h⟩ := sd_ld_some h
        refine sd_iald C X (by decide) b_26 dX12_readPerson_208 (sd_nmi e_26 ?_)
        refine lv_iconst (v := (1 : Int32)) hx hb dX12_readPerson_209 (by decide) ?_
        refine lv_iadd hx hb dX12_readPerson_210 ?_
        obtain ⟨bS_27, S_27, eS_27, h⟩ := sd_st_some h
        refine sd_iast C X (by decide) bS_27 dX12_readPerson_211 (fun H locs X => ?_)
        rw [← eS_27] at X
        cases h
        exact sd_vret C X dX12_readPerson_212
      · have h := sd_ifn c_25 h
        exact t_X12_readPerson_b84 C ih x2 x3 x4 S_23 _ _ _ h X (lv_sub hl [0, 1, 2, 3] rfl)
def f_X12_readPerson (S : sd_St) : Option (Unit × sd_St) := sd_ld S 136 (172 : Int32) (fun v_28 => (if v_28 = (12 : Int32) then sd_cl (f_X12_errs (5 : Int32) S) (fun _ S_39 => (some ((), S_39))) else sd_nm (sd_I S 130 7 ((S.1 130 7) + (1 : Int32))) (fun S_30 => sd_cl (f_X12_readName v_28 S_30) (fun _ S_31 => sd_cl (f_X12_takeWord (2 : Int32) S_31) (fun _ S_33 => sd_nm (((173 : Int32) + ((4 : Int32) * v_28))) (fun v_35 => sd_cl (f_X12_takeNumber (0 : Int32) (365 : Int32) S_33) (fun r_37 S_36 => sd_st S_36 136 v_35 r_37 (fun S_38 => f_X12_readPerson_l68 sd_FU v_35 (0 : Int32) (0 : Int32) S_38))))))))
set_option maxHeartbeats 4000000 in
set_option maxRecDepth 100000 in
theorem c_X12_readPerson {S S' : sd_St} (h : f_X12_readPerson S = some ((), S')) : Met l yX12_readPerson (Cond.code yX12_readPerson cX12_readPerson 6 none :: sd_wl) (sd_rm 3) (sd_P D cy ad A b0 [.ref (ad 130)] S) (sd_Qv D cy ad A S') 0 0 A := by
  refine sd_met (by decide) (Nat.le_of_ble_eq_true rfl) (fun p e s m args below meth c ls C X hl => ?_)
  obtain ⟨hx, hb, -, hml, hown, hts, -, hG⟩ := id C
  replace C : sd_C RX12 cX12_readPerson 6 none D cy ad A b0 p s m args meth c := C
  replace hl : lv_has ls 6 [(0, .ref (ad 130))] := hl
  unfold f_X12_readPerson at h
  refine lv_aload_n hx hb dX12_readPerson_0 rfl (lv_at hl 0 rfl) ?_
  refine sd_g12_10 (k := 130) C X (by decide) sd_w8_8 dX12_readPerson_1 ?_
  refine lv_sipush (v := (172 : Int32)) hx hb dX12_readPerson_4 (by decide) ?_
  obtain ⟨b_28, v_28, e_28, h⟩ := sd_ld_some h
  refine sd_iald C X (by decide) b_28 dX12_readPerson_7 (sd_nmi e_28 ?_)
  refine lv_istore_n (lv' := [(1, .int v_28), (0, .ref (ad 130))]) hx hb dX12_readPerson_8 rfl hl (by decide) rfl (fun ls hl => ?_)
  refine lv_iload_n hx hb dX12_readPerson_9 rfl (lv_at hl 0 rfl) ?_
  refine lv_bipush (v := (12 : Int32)) hx hb dX12_readPerson_10 (by decide) ?_
  refine lv_icmp_ne (tgt := 21) hx hb dX12_readPerson_12 (by decide) (fun c_29 => ?_) (fun c_29 => ?_)
  · have h := sd_ifn c_29 h
    refine lv_aload_n hx hb dX12_readPerson_21 rfl (lv_at hl 1 rfl) ?_
    refine lv_dup hx hb dX12_readPerson_22 rfl ?_
    refine sd_g12_7 C X (by decide) sd_w18_22 dX12_readPerson_23 ?_
    refine lv_iconst (v := (1 : Int32)) hx hb dX12_readPerson_26 (by decide) ?_
    refine lv_iadd hx hb dX12_readPerson_27 ?_
    obtain ⟨S_30, eS_30, h⟩ := sd_nm_some h
    refine sd_p12_7 C X (by decide) sd_w18_22 dX12_readPerson_28 (fun H locs X => ?_)
    rw [← eS_30] at X
    refine lv_aload_n hx hb dX12_readPerson_31 rfl (lv_at hl 1 rfl) ?_
    refine lv_iload_n hx hb dX12_readPerson_32 rfl (lv_at hl 0 rfl) ?_
    obtain ⟨r_32, S_31, er_32, h⟩ := sd_cl_some h
    refine k_X12_readName C X hl.1 er_32 sd_w20_19 (by decide) (Nat.le_of_ble_eq_true rfl) dX12_readPerson_33 (fun H locs X => ?_)
    refine lv_aload_n hx hb dX12_readPerson_36 rfl (lv_at hl 1 rfl) ?_
    refine lv_iconst (v := (2 : Int32)) hx hb dX12_readPerson_37 (by decide) ?_
    obtain ⟨r_34, S_33, er_34, h⟩ := sd_cl_some h
    refine k_X12_takeWord C X hl.1 er_34 sd_w21_7 (by decide) (Nat.le_of_ble_eq_true rfl) dX12_readPerson_38 (fun H locs X => ?_)
    refine lv_sipush (v := (173 : Int32)) hx hb dX12_readPerson_41 (by decide) ?_
    refine lv_iconst (v := (4 : Int32)) hx hb dX12_readPerson_44 (by decide) ?_
    refine lv_iload_n hx hb dX12_readPerson_45 rfl (lv_at hl 0 rfl) ?_
    refine lv_imul hx hb dX12_readPerson_46 ?_
    refine lv_iadd hx hb dX12_readPerson_47 ?_
    obtain ⟨v_35, e_35, h⟩ := sd_nm_some h
    refine sd_nmi e_35 ?_
    refine lv_istore_n (lv' := [(2, .int v_35), (1, .int v_28), (0, .ref (ad 130))]) hx hb dX12_readPerson_48 rfl hl (by decide) rfl (fun ls hl => ?_)
    refine lv_aload_n hx hb dX12_readPerson_49 rfl (lv_at hl 2 rfl) ?_
    refine sd_g12_10 (k := 130) C X (by decide) sd_w8_8 dX12_readPerson_50 ?_
    refine lv_iload_n hx hb dX12_readPerson_53 rfl (lv_at hl 0 rfl) ?_
    refine lv_aload_n hx hb dX12_readPerson_54 rfl (lv_at hl 2 rfl) ?_
    refine lv_iconst (v := (0 : Int32)) hx hb dX12_readPerson_55 (by decide) ?_
    refine lv_sipush (v := (365 : Int32)) hx hb dX12_readPerson_56 (by decide) ?_
    obtain ⟨r_37, S_36, er_37, h⟩ := sd_cl_some h
    refine k_X12_takeNumber C X hl.1 er_37 sd_w20_11 (by decide) (Nat.le_of_ble_eq_true rfl) dX12_readPerson_59 (fun H locs X => ?_)
    obtain ⟨bS_38, S_38, eS_38, h⟩ := sd_st_some h
    refine sd_iast C X (by decide) bS_38 dX12_readPerson_62 (fun H locs X => ?_)
    rw [← eS_38] at X
    refine lv_iconst (v := (0 : Int32)) hx hb dX12_readPerson_63 (by decide) ?_
    refine lv_istore_n (lv' := [(3, .int (0 : Int32)), (2, .int v_35), (1, .int v_28), (0, .ref (ad 130))]) hx hb dX12_readPerson_64 rfl hl (by decide) rfl (fun ls hl => ?_)
    refine lv_iconst (v := (0 : Int32)) hx hb dX12_readPerson_65 (by decide) ?_
    refine lv_istore (lv' := [(4, .int (0 : Int32)), (3, .int (0 : Int32)), (2, .int v_35), (1, .int v_28), (0, .ref (ad 130))]) hx hb dX12_readPerson_66 hl (by decide) rfl (fun ls hl => ?_)
    exact t_X12_readPerson_l68 C sd_FU v_35 (0 : Int32) (0 : Int32) S_38 _ _ _ h X (lv_sub hl [4, 2, 1, 0] rfl)
  · have h := sd_ifp c_29 h
    refine lv_aload_n hx hb dX12_readPerson_15 rfl (lv_at hl 1 rfl) ?_
    refine lv_iconst (v := (5 : Int32)) hx hb dX12_readPerson_16 (by decide) ?_
    obtain ⟨r_40, S_39, er_40, h⟩ := sd_cl_some h
    refine k_X12_errs C X hl.1 er_40 sd_w20_7 (by decide) (Nat.le_of_ble_eq_true rfl) dX12_readPerson_17 (fun H locs X => ?_)
    cases h
    exact sd_vret C X dX12_readPerson_20
theorem k_X12_readPerson (C : sd_C own cc nL rt D cy ad A b0 p s m args meth c) (X : sd_H D cy ad A s S H locs) (hls : ls.size = nL) {S2 : sd_St} (h : f_X12_readPerson S = some ((), S2)) (hlink : Cond.methodLink own index yX12_readPerson ∈ sd_wl) (hR : 4 ≤ R.frames ∧ 145 ≤ R.locals ∧ cells ≤ R.cells ∧ slots ≤ R.slots) (hst : (rest.map fun v => v.category).sum ≤ 8) (hdg : decode cc pc = .ok (.invokevirtual index, 3)) (kk : ∀ (H1 : Heap) (locs1 : List Loc), sd_H D cy ad A s S2 H1 locs1 → W p l e R s m args below meth c H1 locs1 cells slots Q (F0 m (pc + 3) ls rest)) : W p l e R s m args below meth c H locs cells slots Q (F0 m pc ls (.ref (ad 130) :: rest)) :=
  sd_goV X (sd_runV C X hls (n := 0) (k := 130) (As := []) (c_X12_readPerson (l := l) (b0 := b0) h) (sd_goodV hlink sd_w20_16 sd_w20_17 sd_w1_5 sd_w20_18) (ci := 12) rfl (by rw [(show sd_kd 130 = 12 by decide)]; decide) (sd_c12 (show sd_kd 130 = 12 by decide)) (by decide +kernel) rfl hR rfl hst hdg) kk
/-! ===== SecretDaysModel.personHere()I ===== -/
def f_X12_personHere_b29 (S : sd_St) : Option (Int32 × sd_St) := sd_cl (f_X12_errs (2 : Int32) S) (fun _ S_1 => (some ((-1 : Int32), S_1)))
set_option maxHeartbeats 4000000 in
set_option maxRecDepth 100000 in
theorem t_X12_personHere_b29 (C : sd_C RX12 cX12_personHere 2 (some .int) D cy ad A b0 p s m args meth c) {r : Int32} {S' : sd_St} : ∀ (S : sd_St) (H : Heap) (locs : List Loc) (ls : Array Slot), f_X12_personHere_b29 S = some (r, S') → sd_H D cy ad A s S H locs → lv_has ls 2 [(0, .ref (ad 130))] → W p l e (sd_rm 1) s m args below meth c H locs 0 0 (MQ below (sd_Qi D cy ad A r S') args s 0 0 A) (F0 m 29 ls []) := by
  obtain ⟨hx, hb, -, hml, hown, hts, -, hG⟩ := id C
  intro S H locs ls h X hl
  unfold f_X12_personHere_b29 at h
  refine lv_aload_n hx hb dX12_personHere_29 rfl (lv_at hl 0 rfl) ?_
  refine lv_iconst (v := (2 : Int32)) hx hb dX12_personHere_30 (by decide) ?_
  obtain ⟨r_2, S_1, er_2, h⟩ := sd_cl_some h
  refine k_X12_errs C X hl.1 er_2 sd_w20_7 (by decide) (Nat.le_of_ble_eq_true rfl) dX12_personHere_31 (fun H locs X => ?_)
  refine lv_iconst (v := (-1 : Int32)) hx hb dX12_personHere_34 (by decide) ?_
  cases h
  exact sd_iret C X dX12_personHere_35
def f_X12_personHere (S : sd_St) : Option (Int32 × sd_St) := sd_cl (f_X12_isName S) (fun r_4 S_3 => (if r_4 = 0 then sd_cl (f_X12_errs (1 : Int32) S_3) (fun _ S_10 => (some ((-1 : Int32), S_10))) else sd_cl (f_X12_find S_3) (fun r_7 S_6 => (if r_7 < 0 then f_X12_personHere_b29 S_6 else (if r_7 < (12 : Int32) then (some (r_7, S_6)) else f_X12_personHere_b29 S_6)))))
set_option maxHeartbeats 4000000 in
set_option maxRecDepth 100000 in
theorem c_X12_personHere {S S' : sd_St} {r : Int32} (h : f_X12_personHere S = some (r, S')) : Met l yX12_personHere (Cond.code yX12_personHere cX12_personHere 2 (some .int) :: sd_wl) (sd_rm 1) (sd_P D cy ad A b0 [.ref (ad 130)] S) (sd_Qi D cy ad A r S') 0 0 A := by
  refine sd_met (by decide) (Nat.le_of_ble_eq_true rfl) (fun p e s m args below meth c ls C X hl => ?_)
  obtain ⟨hx, hb, -, hml, hown, hts, -, hG⟩ := id C
  replace C : sd_C RX12 cX12_personHere 2 (some .int) D cy ad A b0 p s m args meth c := C
  replace hl : lv_has ls 2 [(0, .ref (ad 130))] := hl
  unfold f_X12_personHere at h
  refine lv_aload_n hx hb dX12_personHere_0 rfl (lv_at hl 0 rfl) ?_
  obtain ⟨r_4, S_3, er_4, h⟩ := sd_cl_some h
  refine k_X12_isName C X hl.1 er_4 sd_w20_23 (by decide) (Nat.le_of_ble_eq_true rfl) dX12_personHere_1 (fun H locs X => ?_)
  refine lv_if_ne (tgt := 14) hx hb dX12_personHere_4 (by decide) (fun c_5 => ?_) (fun c_5 => ?_)
  · have h := sd_ifn c_5 h
    refine lv_aload_n hx hb dX12_personHere_14 rfl (lv_at hl 0 rfl) ?_
    obtain ⟨r_7, S_6, er_7, h⟩ := sd_cl_some h
    refine k_X12_find C X hl.1 er_7 sd_w21_3 (by decide) (Nat.le_of_ble_eq_true rfl) dX12_personHere_15 (fun H locs X => ?_)
    refine lv_istore_n (lv' := [(1, .int r_7), (0, .ref (ad 130))]) hx hb dX12_personHere_18 rfl hl (by decide) rfl (fun ls hl => ?_)
    refine lv_iload_n hx hb dX12_personHere_19 rfl (lv_at hl 0 rfl) ?_
    refine lv_if_lt (tgt := 29) hx hb dX12_personHere_20 (by decide) (fun c_8 => ?_) (fun c_8 => ?_)
    · have h := sd_ifp c_8 h
      exact t_X12_personHere_b29 C S_6 _ _ _ h X (lv_sub hl [1] rfl)
    · have h := sd_ifn c_8 h
      refine lv_iload_n hx hb dX12_personHere_23 rfl (lv_at hl 0 rfl) ?_
      refine lv_bipush (v := (12 : Int32)) hx hb dX12_personHere_24 (by decide) ?_
      refine lv_icmp_lt (tgt := 36) hx hb dX12_personHere_26 (by decide) (fun c_9 => ?_) (fun c_9 => ?_)
      · have h := sd_ifp c_9 h
        refine lv_iload_n hx hb dX12_personHere_36 rfl (lv_at hl 0 rfl) ?_
        cases h
        exact sd_iret C X dX12_personHere_37
      · have h := sd_ifn c_9 h
        exact t_X12_personHere_b29 C S_6 _ _ _ h X (lv_sub hl [1] rfl)
  · have h := sd_ifp c_5 h
    refine lv_aload_n hx hb dX12_personHere_7 rfl (lv_at hl 0 rfl) ?_
    refine lv_iconst (v := (1 : Int32)) hx hb dX12_personHere_8 (by decide) ?_
    obtain ⟨r_11, S_10, er_11, h⟩ := sd_cl_some h
    refine k_X12_errs C X hl.1 er_11 sd_w20_7 (by decide) (Nat.le_of_ble_eq_true rfl) dX12_personHere_9 (fun H locs X => ?_)
    refine lv_iconst (v := (-1 : Int32)) hx hb dX12_personHere_12 (by decide) ?_
    cases h
    exact sd_iret C X dX12_personHere_13
theorem k_X12_personHere (C : sd_C own cc nL rt D cy ad A b0 p s m args meth c) (X : sd_H D cy ad A s S H locs) (hls : ls.size = nL) {S2 : sd_St} {r : Int32} (h : f_X12_personHere S = some (r, S2)) (hlink : Cond.methodLink own index yX12_personHere ∈ sd_wl) (hR : 2 ≤ R.frames ∧ 61 ≤ R.locals ∧ cells ≤ R.cells ∧ slots ≤ R.slots) (hst : (rest.map fun v => v.category).sum ≤ 8) (hdg : decode cc pc = .ok (.invokevirtual index, 3)) (kk : ∀ (H1 : Heap) (locs1 : List Loc), sd_H D cy ad A s S2 H1 locs1 → W p l e R s m args below meth c H1 locs1 cells slots Q (F0 m (pc + 3) ls (.int r :: rest))) : W p l e R s m args below meth c H locs cells slots Q (F0 m pc ls (.ref (ad 130) :: rest)) :=
  sd_goI X (sd_runV C X hls (n := 0) (k := 130) (As := []) (c_X12_personHere (l := l) (b0 := b0) h) (sd_goodV hlink sd_w22_0 sd_w22_1 sd_w1_5 sd_w22_2) (ci := 12) rfl (by rw [(show sd_kd 130 = 12 by decide)]; decide) (sd_c12 (show sd_kd 130 = 12 by decide)) (by decide +kernel) rfl hR rfl hst hdg) kk
/-! ===== SecretDaysModel.takePerson()I ===== -/
def f_X12_takePerson_b30 (x1 : Int32) (w1 : Int32) (w2 : Int32) (S : sd_St) : Option (Int32 × sd_St) := sd_nm (sd_I S 130 7 (w1 + w2)) (fun S_1 => (some (x1, S_1)))
set_option maxHeartbeats 4000000 in
set_option maxRecDepth 100000 in
theorem t_X12_takePerson_b30 (C : sd_C RX12 cX12_takePerson 2 (some .int) D cy ad A b0 p s m args meth c) {r : Int32} {S' : sd_St} : ∀ (x1 : Int32) (w1 : Int32) (w2 : Int32) (S : sd_St) (H : Heap) (locs : List Loc) (ls : Array Slot), f_X12_takePerson_b30 x1 w1 w2 S = some (r, S') → sd_H D cy ad A s S H locs → lv_has ls 2 [(1, .int x1)] → W p l e (sd_rm 2) s m args below meth c H locs 0 0 (MQ below (sd_Qi D cy ad A r S') args s 0 0 A) (F0 m 30 ls [.int w2, .int w1, .ref (ad 130)]) := by
  obtain ⟨hx, hb, -, hml, hown, hts, -, hG⟩ := id C
  intro x1 w1 w2 S H locs ls h X hl
  unfold f_X12_takePerson_b30 at h
  refine lv_iadd hx hb dX12_takePerson_30 ?_
  obtain ⟨S_1, eS_1, h⟩ := sd_nm_some h
  refine sd_p12_7 C X (by decide) sd_w18_22 dX12_takePerson_31 (fun H locs X => ?_)
  rw [← eS_1] at X
  refine lv_iload_n hx hb dX12_takePerson_34 rfl (lv_at hl 0 rfl) ?_
  cases h
  exact sd_iret C X dX12_takePerson_35
def f_X12_takePerson_b15 (w0 : Int32) (S : sd_St) : Option (Int32 × sd_St) := (if 0 ≤ w0 then f_X12_takePerson_b30 w0 (S.1 130 7) (1 : Int32) S else f_X12_takePerson_b30 w0 (S.1 130 7) (0 : Int32) S)
set_option maxHeartbeats 4000000 in
set_option maxRecDepth 100000 in
theorem t_X12_takePerson_b15 (C : sd_C RX12 cX12_takePerson 2 (some .int) D cy ad A b0 p s m args meth c) {r : Int32} {S' : sd_St} : ∀ (w0 : Int32) (S : sd_St) (H : Heap) (locs : List Loc) (ls : Array Slot), f_X12_takePerson_b15 w0 S = some (r, S') → sd_H D cy ad A s S H locs → lv_has ls 2 [(0, .ref (ad 130))] → W p l e (sd_rm 2) s m args below meth c H locs 0 0 (MQ below (sd_Qi D cy ad A r S') args s 0 0 A) (F0 m 15 ls [.int w0]) := by
  obtain ⟨hx, hb, -, hml, hown, hts, -, hG⟩ := id C
  intro w0 S H locs ls h X hl
  unfold f_X12_takePerson_b15 at h
  refine lv_istore_n (lv' := [(1, .int w0), (0, .ref (ad 130))]) hx hb dX12_takePerson_15 rfl hl (by decide) rfl (fun ls hl => ?_)
  refine lv_aload_n hx hb dX12_takePerson_16 rfl (lv_at hl 1 rfl) ?_
  refine lv_dup hx hb dX12_takePerson_17 rfl ?_
  refine sd_g12_7 C X (by decide) sd_w18_22 dX12_takePerson_18 ?_
  refine lv_iload_n hx hb dX12_takePerson_21 rfl (lv_at hl 0 rfl) ?_
  refine lv_if_ge (tgt := 29) hx hb dX12_takePerson_22 (by decide) (fun c_2 => ?_) (fun c_2 => ?_)
  · have h := sd_ifp c_2 h
    refine lv_iconst (v := (1 : Int32)) hx hb dX12_takePerson_29 (by decide) ?_
    exact t_X12_takePerson_b30 C w0 (S.1 130 7) (1 : Int32) S _ _ _ h X (lv_sub hl [0] rfl)
  · have h := sd_ifn c_2 h
    refine lv_iconst (v := (0 : Int32)) hx hb dX12_takePerson_25 (by decide) ?_
    refine lv_goto (tgt := 30) hx hb dX12_takePerson_26 (by decide) ?_
    exact t_X12_takePerson_b30 C w0 (S.1 130 7) (0 : Int32) S _ _ _ h X (lv_sub hl [0] rfl)
def f_X12_takePerson (S : sd_St) : Option (Int32 × sd_St) := (if (S.1 130 8) ≤ 0 then sd_cl (f_X12_personHere S) (fun r_5 S_4 => f_X12_takePerson_b15 r_5 S_4) else f_X12_takePerson_b15 (-1 : Int32) S)
set_option maxHeartbeats 4000000 in
set_option maxRecDepth 100000 in
theorem c_X12_takePerson {S S' : sd_St} {r : Int32} (h : f_X12_takePerson S = some (r, S')) : Met l yX12_takePerson (Cond.code yX12_takePerson cX12_takePerson 2 (some .int) :: sd_wl) (sd_rm 2) (sd_P D cy ad A b0 [.ref (ad 130)] S) (sd_Qi D cy ad A r S') 0 0 A := by
  refine sd_met (by decide) (Nat.le_of_ble_eq_true rfl) (fun p e s m args below meth c ls C X hl => ?_)
  obtain ⟨hx, hb, -, hml, hown, hts, -, hG⟩ := id C
  replace C : sd_C RX12 cX12_takePerson 2 (some .int) D cy ad A b0 p s m args meth c := C
  replace hl : lv_has ls 2 [(0, .ref (ad 130))] := hl
  unfold f_X12_takePerson at h
  refine lv_aload_n hx hb dX12_takePerson_0 rfl (lv_at hl 0 rfl) ?_
  refine sd_g12_8 C X (by decide) sd_w18_21 dX12_takePerson_1 ?_
  refine lv_if_le (tgt := 11) hx hb dX12_takePerson_4 (by decide) (fun c_3 => ?_) (fun c_3 => ?_)
  · have h := sd_ifp c_3 h
    refine lv_aload_n hx hb dX12_takePerson_11 rfl (lv_at hl 0 rfl) ?_
    obtain ⟨r_5, S_4, er_5, h⟩ := sd_cl_some h
    refine k_X12_personHere C X hl.1 er_5 sd_w21_23 (by decide) (Nat.le_of_ble_eq_true rfl) dX12_takePerson_12 (fun H locs X => ?_)
    exact t_X12_takePerson_b15 C r_5 S_4 _ _ _ h X (lv_sub hl [0] rfl)
  · have h := sd_ifn c_3 h
    refine lv_iconst (v := (-1 : Int32)) hx hb dX12_takePerson_7 (by decide) ?_
    refine lv_goto (tgt := 15) hx hb dX12_takePerson_8 (by decide) ?_
    exact t_X12_takePerson_b15 C (-1 : Int32) S _ _ _ h X (lv_sub hl [0] rfl)
theorem k_X12_takePerson (C : sd_C own cc nL rt D cy ad A b0 p s m args meth c) (X : sd_H D cy ad A s S H locs) (hls : ls.size = nL) {S2 : sd_St} {r : Int32} (h : f_X12_takePerson S = some (r, S2)) (hlink : Cond.methodLink own index yX12_takePerson ∈ sd_wl) (hR : 3 ≤ R.frames ∧ 101 ≤ R.locals ∧ cells ≤ R.cells ∧ slots ≤ R.slots) (hst : (rest.map fun v => v.category).sum ≤ 8) (hdg : decode cc pc = .ok (.invokevirtual index, 3)) (kk : ∀ (H1 : Heap) (locs1 : List Loc), sd_H D cy ad A s S2 H1 locs1 → W p l e R s m args below meth c H1 locs1 cells slots Q (F0 m (pc + 3) ls (.int r :: rest))) : W p l e R s m args below meth c H locs cells slots Q (F0 m pc ls (.ref (ad 130) :: rest)) :=
  sd_goI X (sd_runV C X hls (n := 0) (k := 130) (As := []) (c_X12_takePerson (l := l) (b0 := b0) h) (sd_goodV hlink sd_w21_20 sd_w21_21 sd_w1_5 sd_w21_22) (ci := 12) rfl (by rw [(show sd_kd 130 = 12 by decide)]; decide) (sd_c12 (show sd_kd 130 = 12 by decide)) (by decide +kernel) rfl hR rfl hst hdg) kk
/-! ===== SecretDaysModel.bits(I)I ===== -/
def f_X12_bits_l4 : Nat → Int32 → Int32 → Int32 → sd_St → Option (Int32 × sd_St)
  | 0 => fun _ _ _ _ => none
  | n + 1 => fun x0 x1 x2 S => (if (12 : Int32) ≤ x2 then (some (x1, S)) else sd_nm ((x1 + ((x0 >>> (x2 &&& 31)) &&& (1 : Int32)))) (fun v_2 => (f_X12_bits_l4 n) x0 v_2 (x2 + (1 : Int32)) S))
set_option maxHeartbeats 4000000 in
set_option maxRecDepth 100000 in
theorem t_X12_bits_l4 (C : sd_C RX12 cX12_bits 3 (some .int) D cy ad A b0 p s m args meth c) {r : Int32} {S' : sd_St} : ∀ (n : Nat) (x0 : Int32) (x1 : Int32) (x2 : Int32) (S : sd_St) (H : Heap) (locs : List Loc) (ls : Array Slot), f_X12_bits_l4 n x0 x1 x2 S = some (r, S') → sd_H D cy ad A s S H locs → lv_has ls 3 [(0, .int x0), (1, .int x1), (2, .int x2)] → W p l e (sd_rm 0) s m args below meth c H locs 0 0 (MQ below (sd_Qi D cy ad A r S') args s 0 0 A) (F0 m 4 ls []) := by
  obtain ⟨hx, hb, -, hml, hown, hts, -, hG⟩ := id C
  intro n
  induction n with
  | zero => intro x0 x1 x2 S H locs ls h; cases h
  | succ n ih =>
    intro x0 x1 x2 S H locs ls h X hl
    unfold f_X12_bits_l4 at h
    refine lv_iload_n hx hb dX12_bits_4 rfl (lv_at hl 2 rfl) ?_
    refine lv_bipush (v := (12 : Int32)) hx hb dX12_bits_5 (by decide) ?_
    refine lv_icmp_ge (tgt := 24) hx hb dX12_bits_7 (by decide) (fun c_1 => ?_) (fun c_1 => ?_)
    · have h := sd_ifp c_1 h
      refine lv_iload_n hx hb dX12_bits_24 rfl (lv_at hl 1 rfl) ?_
      cases h
      exact sd_iret C X dX12_bits_25
    · have h := sd_ifn c_1 h
      refine lv_iload_n hx hb dX12_bits_10 rfl (lv_at hl 1 rfl) ?_
      refine lv_iload_n hx hb dX12_bits_11 rfl (lv_at hl 0 rfl) ?_
      refine lv_iload_n hx hb dX12_bits_12 rfl (lv_at hl 2 rfl) ?_
      refine lv_ishr hx hb dX12_bits_13 ?_
      refine lv_iconst (v := (1 : Int32)) hx hb dX12_bits_14 (by decide) ?_
      refine lv_iand hx hb dX12_bits_15 ?_
      refine lv_iadd hx hb dX12_bits_16 ?_
      obtain ⟨v_2, e_2, h⟩ := sd_nm_some h
      refine sd_nmi e_2 ?_
      refine lv_istore_n (lv' := [(1, .int v_2), (0, .int x0), (2, .int x2)]) hx hb dX12_bits_17 rfl hl (by decide) rfl (fun ls hl => ?_)
      refine lv_iinc (v := (x2 + (1 : Int32))) (lv' := [(2, .int (x2 + (1 : Int32))), (1, .int v_2), (0, .int x0)]) hx hb dX12_bits_18 hl (k := 2) rfl rfl (by decide) rfl (fun ls hl => ?_)
      refine lv_goto (tgt := 4) hx hb dX12_bits_21 (by decide) ?_
      exact ih x0 v_2 (x2 + (1 : Int32)) S _ _ _ h X (lv_sub hl [2, 1, 0] rfl)
def f_X12_bits (x0 : Int32) (S : sd_St) : Option (Int32 × sd_St) := f_X12_bits_l4 sd_FU x0 (0 : Int32) (0 : Int32) S
set_option maxHeartbeats 4000000 in
set_option maxRecDepth 100000 in
theorem c_X12_bits {x0 : Int32} {S S' : sd_St} {r : Int32} (h : f_X12_bits x0 S = some (r, S')) : Met l yX12_bits (Cond.code yX12_bits cX12_bits 3 (some .int) :: sd_wl) (sd_rm 0) (sd_P D cy ad A b0 [.int x0] S) (sd_Qi D cy ad A r S') 0 0 A := by
  refine sd_met (by decide) (Nat.le_of_ble_eq_true rfl) (fun p e s m args below meth c ls C X hl => ?_)
  obtain ⟨hx, hb, -, hml, hown, hts, -, hG⟩ := id C
  replace C : sd_C RX12 cX12_bits 3 (some .int) D cy ad A b0 p s m args meth c := C
  replace hl : lv_has ls 3 [(0, .int x0)] := hl
  unfold f_X12_bits at h
  refine lv_iconst (v := (0 : Int32)) hx hb dX12_bits_0 (by decide) ?_
  refine lv_istore_n (lv' := [(1, .int (0 : Int32)), (0, .int x0)]) hx hb dX12_bits_1 rfl hl (by decide) rfl (fun ls hl => ?_)
  refine lv_iconst (v := (0 : Int32)) hx hb dX12_bits_2 (by decide) ?_
  refine lv_istore_n (lv' := [(2, .int (0 : Int32)), (1, .int (0 : Int32)), (0, .int x0)]) hx hb dX12_bits_3 rfl hl (by decide) rfl (fun ls hl => ?_)
  exact t_X12_bits_l4 C sd_FU x0 (0 : Int32) (0 : Int32) S _ _ _ h X (lv_sub hl [2, 1, 0] rfl)
theorem k_X12_bits (C : sd_C own cc nL rt D cy ad A b0 p s m args meth c) (X : sd_H D cy ad A s S H locs) (hls : ls.size = nL) {x0 : Int32} {S2 : sd_St} {r : Int32} (h : f_X12_bits x0 S = some (r, S2)) (hlink : Cond.methodLink own index yX12_bits ∈ sd_wl) (hR : 1 ≤ R.frames ∧ 22 ≤ R.locals ∧ cells ≤ R.cells ∧ slots ≤ R.slots) (hst : (rest.map fun v => v.category).sum ≤ 8) (hdg : decode cc pc = .ok (.invokestatic index, 3)) (kk : ∀ (H1 : Heap) (locs1 : List Loc), sd_H D cy ad A s S2 H1 locs1 → W p l e R s m args below meth c H1 locs1 cells slots Q (F0 m (pc + 3) ls (.int r :: rest))) : W p l e R s m args below meth c H locs cells slots Q (F0 m pc ls (.int x0 :: rest)) :=
  sd_goI X (sd_runJ C X hls (n := 1) (As := [.int x0]) (c_X12_bits (l := l) (b0 := b0) h) hlink sd_w22_4 sd_w1_5 sd_w22_5 (by decide +kernel) rfl hR rfl hst hdg) kk
/-! ===== SecretDaysModel.readCalls()V ===== -/
def f_X12_readCalls_b140 (q40 : (Int32 → sd_St → Option (Unit × sd_St))) (x1 : Int32) (S : sd_St) : Option (Unit × sd_St) := q40 x1 S
set_option maxHeartbeats 4000000 in
set_option maxRecDepth 100000 in
theorem t_X12_readCalls_b140 (C : sd_C RX12 cX12_readCalls 4 none D cy ad A b0 p s m args meth c) {S' : sd_St} {q40 : (Int32 → sd_St → Option (Unit × sd_St))} (hq40 : ∀ (x1 : Int32) (S : sd_St) (H : Heap) (locs : List Loc) (ls : Array Slot), q40 x1 S = some ((), S') → sd_H D cy ad A s S H locs → lv_has ls 4 [(0, .ref (ad 130)), (1, .int x1)] → W p l e (sd_rm 3) s m args below meth c H locs 0 0 (MQ below (sd_Qv D cy ad A S') args s 0 0 A) (F0 m 40 ls [])) : ∀ (x1 : Int32) (S : sd_St) (H : Heap) (locs : List Loc) (ls : Array Slot), f_X12_readCalls_b140 q40 x1 S = some ((), S') → sd_H D cy ad A s S H locs → lv_has ls 4 [(0, .ref (ad 130)), (1, .int x1)] → W p l e (sd_rm 3) s m args below meth c H locs 0 0 (MQ below (sd_Qv D cy ad A S') args s 0 0 A) (F0 m 140 ls []) := by
  obtain ⟨hx, hb, -, hml, hown, hts, -, hG⟩ := id C
  intro x1 S H locs ls h X hl
  unfold f_X12_readCalls_b140 at h
  refine lv_goto (tgt := 40) hx hb dX12_readCalls_140 (by decide) ?_
  exact hq40 x1 S _ _ _ h X (lv_sub hl [0, 1] rfl)
def f_X12_readCalls_b88 (q40 : (Int32 → sd_St → Option (Unit × sd_St))) (x1 : Int32) (S : sd_St) : Option (Unit × sd_St) := sd_cl (f_X12_errs (3 : Int32) S) (fun _ S_1 => f_X12_readCalls_b140 q40 x1 S_1)
set_option maxHeartbeats 4000000 in
set_option maxRecDepth 100000 in
theorem t_X12_readCalls_b88 (C : sd_C RX12 cX12_readCalls 4 none D cy ad A b0 p s m args meth c) {S' : sd_St} {q40 : (Int32 → sd_St → Option (Unit × sd_St))} (hq40 : ∀ (x1 : Int32) (S : sd_St) (H : Heap) (locs : List Loc) (ls : Array Slot), q40 x1 S = some ((), S') → sd_H D cy ad A s S H locs → lv_has ls 4 [(0, .ref (ad 130)), (1, .int x1)] → W p l e (sd_rm 3) s m args below meth c H locs 0 0 (MQ below (sd_Qv D cy ad A S') args s 0 0 A) (F0 m 40 ls [])) : ∀ (x1 : Int32) (S : sd_St) (H : Heap) (locs : List Loc) (ls : Array Slot), f_X12_readCalls_b88 q40 x1 S = some ((), S') → sd_H D cy ad A s S H locs → lv_has ls 4 [(0, .ref (ad 130)), (1, .int x1)] → W p l e (sd_rm 3) s m args below meth c H locs 0 0 (MQ below (sd_Qv D cy ad A S') args s 0 0 A) (F0 m 88 ls []) := by
  obtain ⟨hx, hb, -, hml, hown, hts, -, hG⟩ := id C
  intro x1 S H locs ls h X hl
  unfold f_X12_readCalls_b88 at h
  refine lv_aload_n hx hb dX12_readCalls_88 rfl (lv_at hl 0 rfl) ?_
  refine lv_iconst (v := (3 : Int32)) hx hb dX12_readCalls_89 (by decide) ?_
  obtain ⟨r_2, S_1, er_2, h⟩ := sd_cl_some h
  refine k_X12_errs C X hl.1 er_2 sd_w20_7 (by decide) (Nat.le_of_ble_eq_true rfl) dX12_readCalls_90 (fun H locs X => ?_)
  refine lv_goto (tgt := 140) hx hb dX12_readCalls_93 (by decide) ?_
  exact t_X12_readCalls_b140 C hq40 x1 S_1 _ _ _ h X (lv_sub hl [0, 1] rfl)
def f_X12_readCalls_l40 : Nat → Int32 → sd_St → Option (Unit × sd_St)
  | 0 => fun _ _ => none
  | n + 1 => fun x1 S => sd_cl (f_X12_isName S) (fun r_4 S_3 => (if r_4 = 0 then (some ((), S_3)) else sd_cl (f_X12_personHere S_3) (fun r_7 S_6 => (if (S_6.1 130 8) = 0 then sd_nm ((((173 : Int32) + ((4 : Int32) * r_7)) + (3 : Int32))) (fun v_9 => (if r_7 = x1 then f_X12_readCalls_b88 (f_X12_readCalls_l40 n) x1 S_6 else sd_ld S_6 136 v_9 (fun v_11 => (if ((v_11 >>> (x1 &&& 31)) &&& (1 : Int32)) = (1 : Int32) then f_X12_readCalls_b88 (f_X12_readCalls_l40 n) x1 S_6 else sd_ld S_6 136 v_9 (fun v_13 => sd_cl (f_X12_bits v_13 S_6) (fun r_15 S_14 => (if r_15 = (6 : Int32) then sd_cl (f_X12_errs (5 : Int32) S_14) (fun _ S_20 => f_X12_readCalls_b140 (f_X12_readCalls_l40 n) x1 S_20) else sd_ld S_14 136 v_9 (fun v_17 => sd_st S_14 136 v_9 (v_17 ||| ((1 : Int32) <<< (x1 &&& 31))) (fun S_18 => sd_nm (sd_I S_18 130 7 ((S_18.1 130 7) + (1 : Int32))) (fun S_19 => f_X12_readCalls_b140 (f_X12_readCalls_l40 n) x1 S_19)))))))))) else f_X12_readCalls_b140 (f_X12_readCalls_l40 n) x1 S_6))))
set_option maxHeartbeats 4000000 in
set_option maxRecDepth 100000 in
theorem t_X12_readCalls_l40 (C : sd_C RX12 cX12_readCalls 4 none D cy ad A b0 p s m args meth c) {S' : sd_St} : ∀ (n : Nat) (x1 : Int32) (S : sd_St) (H : Heap) (locs : List Loc) (ls : Array Slot), f_X12_readCalls_l40 n x1 S = some ((), S') → sd_H D cy ad A s S H locs → lv_has ls 4 [(0, .ref (ad 130)), (1, .int x1)] → W p l e (sd_rm 3) s m args below meth c H locs 0 0 (MQ below (sd_Qv D cy ad A S') args s 0 0 A) (F0 m 40 ls []) := by
  obtain ⟨hx, hb, -, hml, hown, hts, -, hG⟩ := id C
  intro n
  induction n with
  | zero => intro x1 S H locs ls h; cases h
  | succ n ih =>
    intro x1 S H locs ls h X hl
    unfold f_X12_readCalls_l40 at h
    refine lv_aload_n hx hb dX12_readCalls_40 rfl (lv_at hl 0 rfl) ?_
    obtain ⟨r_4, S_3, er_4, h⟩ := sd_cl_some h
    refine k_X12_isName C X hl.1 er_4 sd_w20_23 (by decide) (Nat.le_of_ble_eq_true rfl) dX12_readCalls_41 (fun H locs X => ?_)
    refine lv_if_eq (tgt := 143) hx hb dX12_readCalls_44 (by decide) (fun c_5 => ?_) (fun c_5 => ?_)
    · have h := sd_ifp c_5 h
      cases h
      exact sd_vret C X dX12_readCalls_143
    · have h := sd_ifn c_5 h
      refine lv_aload_n hx hb dX12_readCalls_47 rfl (lv_at hl 0 rfl) ?_
      obtain ⟨r_7, S_6, er_7, h⟩ := sd_cl_some h
      refine k_X12_personHere C X hl.1 er_7 sd_w21_23 (by decide) (Nat.le_of_ble_eq_true rfl) dX12_readCalls_48 (fun H locs X => ?_)
      refine lv_istore_n (lv' := [(2, .int r_7), (0, .ref (ad 130)), (1, .int x1)]) hx hb dX12_readCalls_51 rfl hl (by decide) rfl (fun ls hl => ?_)
      refine lv_aload_n hx hb dX12_readCalls_52 rfl (lv_at hl 1 rfl) ?_
      refine sd_g12_8 C X (by decide) sd_w18_21 dX12_readCalls_53 ?_
      refine lv_if_ne (tgt := 140) hx hb dX12_readCalls_56 (by decide) (fun c_8 => ?_) (fun c_8 => ?_)
      · have h := sd_ifn c_8 h
        exact t_X12_readCalls_b140 C ih x1 S_6 _ _ _ h X (lv_sub hl [1, 2] rfl)
      · have h := sd_ifp c_8 h
        refine lv_sipush (v := (173 : Int32)) hx hb dX12_readCalls_59 (by decide) ?_
        refine lv_iconst (v := (4 : Int32)) hx hb dX12_readCalls_62 (by decide) ?_
        refine lv_iload_n hx hb dX12_readCalls_63 rfl (lv_at hl 0 rfl) ?_
        refine lv_imul hx hb dX12_readCalls_64 ?_
        refine lv_iadd hx hb dX12_readCalls_65 ?_
        refine lv_iconst (v := (3 : Int32)) hx hb dX12_readCalls_66 (by decide) ?_
        refine lv_iadd hx hb dX12_readCalls_67 ?_
        obtain ⟨v_9, e_9, h⟩ := sd_nm_some h
        refine sd_nmi e_9 ?_
        refine lv_istore_n (lv' := [(3, .int v_9), (2, .int r_7), (0, .ref (ad 130)), (1, .int x1)]) hx hb dX12_readCalls_68 rfl hl (by decide) rfl (fun ls hl => ?_)
        refine lv_iload_n hx hb dX12_readCalls_69 rfl (lv_at hl 1 rfl) ?_
        refine lv_iload_n hx hb dX12_readCalls_70 rfl (lv_at hl 3 rfl) ?_
        refine lv_icmp_eq (tgt := 88) hx hb dX12_readCalls_71 (by decide) (fun c_10 => ?_) (fun c_10 => ?_)
        · have h := sd_ifp c_10 h
          exact t_X12_readCalls_b88 C ih x1 S_6 _ _ _ h X (lv_sub hl [2, 3] rfl)
        · have h := sd_ifn c_10 h
          refine lv_aload_n hx hb dX12_readCalls_74 rfl (lv_at hl 2 rfl) ?_
          refine sd_g12_10 (k := 130) C X (by decide) sd_w8_8 dX12_readCalls_75 ?_
          refine lv_iload_n hx hb dX12_readCalls_78 rfl (lv_at hl 0 rfl) ?_
          obtain ⟨b_11, v_11, e_11, h⟩ := sd_ld_some h
          refine sd_iald C X (by decide) b_11 dX12_readCalls_79 (sd_nmi e_11 ?_)
          refine lv_iload_n hx hb dX12_readCalls_80 rfl (lv_at hl 3 rfl) ?_
          refine lv_ishr hx hb dX12_readCalls_81 ?_
          refine lv_iconst (v := (1 : Int32)) hx hb dX12_readCalls_82 (by decide) ?_
          refine lv_iand hx hb dX12_readCalls_83 ?_
          refine lv_iconst (v := (1 : Int32)) hx hb dX12_readCalls_84 (by decide) ?_
          refine lv_icmp_ne (tgt := 96) hx hb dX12_readCalls_85 (by decide) (fun c_12 => ?_) (fun c_12 => ?_)
          · have h := sd_ifn c_12 h
            refine lv_aload_n hx hb dX12_readCalls_96 rfl (lv_at hl 2 rfl) ?_
            refine sd_g12_10 (k := 130) C X (by decide) sd_w8_8 dX12_readCalls_97 ?_
            refine lv_iload_n hx hb dX12_readCalls_100 rfl (lv_at hl 0 rfl) ?_
            obtain ⟨b_13, v_13, e_13, h⟩ := sd_ld_some h
            refine sd_iald C X (by decide) b_13 dX12_readCalls_101 (sd_nmi e_13 ?_)
            obtain ⟨r_15, S_14, er_15, h⟩ := sd_cl_some h
            refine k_X12_bits C X hl.1 er_15 sd_w22_3 (by decide) (Nat.le_of_ble_eq_true rfl) dX12_readCalls_102 (fun H locs X => ?_)
            refine lv_bipush (v := (6 : Int32)) hx hb dX12_readCalls_105 (by decide) ?_
            refine lv_icmp_ne (tgt := 118) hx hb dX12_readCalls_107 (by decide) (fun c_16 => ?_) (fun c_16 => ?_)
            · have h := sd_ifn c_16 h
              refine lv_aload_n hx hb dX12_readCalls_118 rfl (lv_at hl 2 rfl) ?_
              refine sd_g12_10 (k := 130) C X (by decide) sd_w8_8 dX12_readCalls_119 ?_
              refine lv_iload_n hx hb dX12_readCalls_122 rfl (lv_at hl 0 rfl) ?_
              refine lv_dup2_11 hx hb dX12_readCalls_123 rfl rfl ?_
              obtain ⟨b_17, v_17, e_17, h⟩ := sd_ld_some h
              refine sd_iald C X (by decide) b_17 dX12_readCalls_124 (sd_nmi e_17 ?_)
              refine lv_iconst (v := (1 : Int32)) hx hb dX12_readCalls_125 (by decide) ?_
              refine lv_iload_n hx hb dX12_readCalls_126 rfl (lv_at hl 3 rfl) ?_
              refine lv_ishl hx hb dX12_readCalls_127 ?_
              refine lv_ior hx hb dX12_readCalls_128 ?_
              obtain ⟨bS_18, S_18, eS_18, h⟩ := sd_st_some h
              refine sd_iast C X (by decide) bS_18 dX12_readCalls_129 (fun H locs X => ?_)
              rw [← eS_18] at X
              refine lv_aload_n hx hb dX12_readCalls_130 rfl (lv_at hl 2 rfl) ?_
              refine lv_dup hx hb dX12_readCalls_131 rfl ?_
              refine sd_g12_7 C X (by decide) sd_w18_22 dX12_readCalls_132 ?_
              refine lv_iconst (v := (1 : Int32)) hx hb dX12_readCalls_135 (by decide) ?_
              refine lv_iadd hx hb dX12_readCalls_136 ?_
              obtain ⟨S_19, eS_19, h⟩ := sd_nm_some h
              refine sd_p12_7 C X (by decide) sd_w18_22 dX12_readCalls_137 (fun H locs X => ?_)
              rw [← eS_19] at X
              exact t_X12_readCalls_b140 C ih x1 S_19 _ _ _ h X (lv_sub hl [2, 3] rfl)
            · have h := sd_ifp c_16 h
              refine lv_aload_n hx hb dX12_readCalls_110 rfl (lv_at hl 2 rfl) ?_
              refine lv_iconst (v := (5 : Int32)) hx hb dX12_readCalls_111 (by decide) ?_
              obtain ⟨r_21, S_20, er_21, h⟩ := sd_cl_some h
              refine k_X12_errs C X hl.1 er_21 sd_w20_7 (by decide) (Nat.le_of_ble_eq_true rfl) dX12_readCalls_112 (fun H locs X => ?_)
              refine lv_goto (tgt := 140) hx hb dX12_readCalls_115 (by decide) ?_
              exact t_X12_readCalls_b140 C ih x1 S_20 _ _ _ h X (lv_sub hl [2, 3] rfl)
          · have h := sd_ifp c_12 h
            exact t_X12_readCalls_b88 C ih x1 S_6 _ _ _ h X (lv_sub hl [2, 3] rfl)
def f_X12_readCalls (S : sd_St) : Option (Unit × sd_St) := sd_nm (sd_I S 130 7 ((S.1 130 7) + (1 : Int32))) (fun S_22 => sd_cl (f_X12_takePerson S_22) (fun r_24 S_23 => sd_cl (f_X12_takeWord (6 : Int32) S_23) (fun _ S_25 => (if (S_25.1 130 8) = 0 then sd_cl (f_X12_isName S_25) (fun r_29 S_28 => (if r_29 = 0 then sd_cl (f_X12_errs (1 : Int32) S_28) (fun _ S_31 => f_X12_readCalls_l40 sd_FU r_24 S_31) else f_X12_readCalls_l40 sd_FU r_24 S_28)) else f_X12_readCalls_l40 sd_FU r_24 S_25))))
set_option maxHeartbeats 4000000 in
set_option maxRecDepth 100000 in
theorem c_X12_readCalls {S S' : sd_St} (h : f_X12_readCalls S = some ((), S')) : Met l yX12_readCalls (Cond.code yX12_readCalls cX12_readCalls 4 none :: sd_wl) (sd_rm 3) (sd_P D cy ad A b0 [.ref (ad 130)] S) (sd_Qv D cy ad A S') 0 0 A := by
  refine sd_met (by decide) (Nat.le_of_ble_eq_true rfl) (fun p e s m args below meth c ls C X hl => ?_)
  obtain ⟨hx, hb, -, hml, hown, hts, -, hG⟩ := id C
  replace C : sd_C RX12 cX12_readCalls 4 none D cy ad A b0 p s m args meth c := C
  replace hl : lv_has ls 4 [(0, .ref (ad 130))] := hl
  unfold f_X12_readCalls at h
  refine lv_aload_n hx hb dX12_readCalls_0 rfl (lv_at hl 0 rfl) ?_
  refine lv_dup hx hb dX12_readCalls_1 rfl ?_
  refine sd_g12_7 C X (by decide) sd_w18_22 dX12_readCalls_2 ?_
  refine lv_iconst (v := (1 : Int32)) hx hb dX12_readCalls_5 (by decide) ?_
  refine lv_iadd hx hb dX12_readCalls_6 ?_
  obtain ⟨S_22, eS_22, h⟩ := sd_nm_some h
  refine sd_p12_7 C X (by decide) sd_w18_22 dX12_readCalls_7 (fun H locs X => ?_)
  rw [← eS_22] at X
  refine lv_aload_n hx hb dX12_readCalls_10 rfl (lv_at hl 0 rfl) ?_
  obtain ⟨r_24, S_23, er_24, h⟩ := sd_cl_some h
  refine k_X12_takePerson C X hl.1 er_24 sd_w21_19 (by decide) (Nat.le_of_ble_eq_true rfl) dX12_readCalls_11 (fun H locs X => ?_)
  refine lv_istore_n (lv' := [(1, .int r_24), (0, .ref (ad 130))]) hx hb dX12_readCalls_14 rfl hl (by decide) rfl (fun ls hl => ?_)
  refine lv_aload_n hx hb dX12_readCalls_15 rfl (lv_at hl 1 rfl) ?_
  refine lv_bipush (v := (6 : Int32)) hx hb dX12_readCalls_16 (by decide) ?_
  obtain ⟨r_26, S_25, er_26, h⟩ := sd_cl_some h
  refine k_X12_takeWord C X hl.1 er_26 sd_w21_7 (by decide) (Nat.le_of_ble_eq_true rfl) dX12_readCalls_18 (fun H locs X => ?_)
  refine lv_aload_n hx hb dX12_readCalls_21 rfl (lv_at hl 1 rfl) ?_
  refine sd_g12_8 C X (by decide) sd_w18_21 dX12_readCalls_22 ?_
  refine lv_if_ne (tgt := 40) hx hb dX12_readCalls_25 (by decide) (fun c_27 => ?_) (fun c_27 => ?_)
  · have h := sd_ifn c_27 h
    exact t_X12_readCalls_l40 C sd_FU r_24 S_25 _ _ _ h X (lv_sub hl [1, 0] rfl)
  · have h := sd_ifp c_27 h
    refine lv_aload_n hx hb dX12_readCalls_28 rfl (lv_at hl 1 rfl) ?_
    obtain ⟨r_29, S_28, er_29, h⟩ := sd_cl_some h
    refine k_X12_isName C X hl.1 er_29 sd_w20_23 (by decide) (Nat.le_of_ble_eq_true rfl) dX12_readCalls_29 (fun H locs X => ?_)
    refine lv_if_ne (tgt := 40) hx hb dX12_readCalls_32 (by decide) (fun c_30 => ?_) (fun c_30 => ?_)
    · have h := sd_ifn c_30 h
      exact t_X12_readCalls_l40 C sd_FU r_24 S_28 _ _ _ h X (lv_sub hl [1, 0] rfl)
    · have h := sd_ifp c_30 h
      refine lv_aload_n hx hb dX12_readCalls_35 rfl (lv_at hl 1 rfl) ?_
      refine lv_iconst (v := (1 : Int32)) hx hb dX12_readCalls_36 (by decide) ?_
      obtain ⟨r_32, S_31, er_32, h⟩ := sd_cl_some h
      refine k_X12_errs C X hl.1 er_32 sd_w20_7 (by decide) (Nat.le_of_ble_eq_true rfl) dX12_readCalls_37 (fun H locs X => ?_)
      exact t_X12_readCalls_l40 C sd_FU r_24 S_31 _ _ _ h X (lv_sub hl [1, 0] rfl)
theorem k_X12_readCalls (C : sd_C own cc nL rt D cy ad A b0 p s m args meth c) (X : sd_H D cy ad A s S H locs) (hls : ls.size = nL) {S2 : sd_St} (h : f_X12_readCalls S = some ((), S2)) (hlink : Cond.methodLink own index yX12_readCalls ∈ sd_wl) (hR : 4 ≤ R.frames ∧ 143 ≤ R.locals ∧ cells ≤ R.cells ∧ slots ≤ R.slots) (hst : (rest.map fun v => v.category).sum ≤ 8) (hdg : decode cc pc = .ok (.invokevirtual index, 3)) (kk : ∀ (H1 : Heap) (locs1 : List Loc), sd_H D cy ad A s S2 H1 locs1 → W p l e R s m args below meth c H1 locs1 cells slots Q (F0 m (pc + 3) ls rest)) : W p l e R s m args below meth c H locs cells slots Q (F0 m pc ls (.ref (ad 130) :: rest)) :=
  sd_goV X (sd_runV C X hls (n := 0) (k := 130) (As := []) (c_X12_readCalls (l := l) (b0 := b0) h) (sd_goodV hlink sd_w21_16 sd_w21_17 sd_w1_5 sd_w21_18) (ci := 12) rfl (by rw [(show sd_kd 130 = 12 by decide)]; decide) (sd_c12 (show sd_kd 130 = 12 by decide)) (by decide +kernel) rfl hR rfl hst hdg) kk
/-! ===== SecretDaysModel.takeDate(I)I ===== -/
def f_X12_takeDate_b71 (x2 : Int32) (S : sd_St) : Option (Int32 × sd_St) := sd_cl (f_X12_takeNumber (0 : Int32) (365 : Int32) S) (fun r_2 S_1 => (some ((((366 : Int32) * x2) + r_2), S_1)))
set_option maxHeartbeats 4000000 in
set_option maxRecDepth 100000 in
theorem t_X12_takeDate_b71 (C : sd_C RX12 cX12_takeDate 3 (some .int) D cy ad A b0 p s m args meth c) {r : Int32} {S' : sd_St} : ∀ (x2 : Int32) (S : sd_St) (H : Heap) (locs : List Loc) (ls : Array Slot), f_X12_takeDate_b71 x2 S = some (r, S') → sd_H D cy ad A s S H locs → lv_has ls 3 [(0, .ref (ad 130)), (2, .int x2)] → W p l e (sd_rm 2) s m args below meth c H locs 0 0 (MQ below (sd_Qi D cy ad A r S') args s 0 0 A) (F0 m 71 ls []) := by
  obtain ⟨hx, hb, -, hml, hown, hts, -, hG⟩ := id C
  intro x2 S H locs ls h X hl
  unfold f_X12_takeDate_b71 at h
  refine lv_sipush (v := (366 : Int32)) hx hb dX12_takeDate_71 (by decide) ?_
  refine lv_iload_n hx hb dX12_takeDate_74 rfl (lv_at hl 1 rfl) ?_
  refine lv_imul hx hb dX12_takeDate_75 ?_
  refine lv_aload_n hx hb dX12_takeDate_76 rfl (lv_at hl 0 rfl) ?_
  refine lv_iconst (v := (0 : Int32)) hx hb dX12_takeDate_77 (by decide) ?_
  refine lv_sipush (v := (365 : Int32)) hx hb dX12_takeDate_78 (by decide) ?_
  obtain ⟨r_2, S_1, er_2, h⟩ := sd_cl_some h
  refine k_X12_takeNumber C X hl.1 er_2 sd_w20_11 (by decide) (Nat.le_of_ble_eq_true rfl) dX12_takeDate_81 (fun H locs X => ?_)
  refine lv_iadd hx hb dX12_takeDate_84 ?_
  cases h
  exact sd_iret C X dX12_takeDate_85
def f_X12_takeDate (x1 : Int32) (S : sd_St) : Option (Int32 × sd_St) := sd_cl (f_X12_takeNumber (0 : Int32) (11 : Int32) S) (fun r_4 S_3 => (if (S_3.1 130 8) = 0 then sd_ld S_3 132 (S_3.1 130 7) (fun v_6 => (if v_6 = (2 : Int32) then sd_ldl S_3 134 (S_3.1 130 7) (fun v_8 => (if 0 ≤ (lg_cmp v_8 (366 : Int64)) then f_X12_takeDate_b71 r_4 S_3 else sd_ldl S_3 134 (S_3.1 130 7) (fun v_10 => (if 0 ≤ (lg_cmp ((((366 : Int32) * r_4).toInt64) + v_10) (x1.toInt64)) then f_X12_takeDate_b71 r_4 S_3 else sd_cl (f_X12_errs (4 : Int32) S_3) (fun _ S_12 => f_X12_takeDate_b71 r_4 S_12))))) else f_X12_takeDate_b71 r_4 S_3)) else f_X12_takeDate_b71 r_4 S_3))
set_option maxHeartbeats 4000000 in
set_option maxRecDepth 100000 in
theorem c_X12_takeDate {x1 : Int32} {S S' : sd_St} {r : Int32} (h : f_X12_takeDate x1 S = some (r, S')) : Met l yX12_takeDate (Cond.code yX12_takeDate cX12_takeDate 3 (some .int) :: sd_wl) (sd_rm 2) (sd_P D cy ad A b0 [.ref (ad 130), .int x1] S) (sd_Qi D cy ad A r S') 0 0 A := by
  refine sd_met (by decide) (Nat.le_of_ble_eq_true rfl) (fun p e s m args below meth c ls C X hl => ?_)
  obtain ⟨hx, hb, -, hml, hown, hts, -, hG⟩ := id C
  replace C : sd_C RX12 cX12_takeDate 3 (some .int) D cy ad A b0 p s m args meth c := C
  replace hl : lv_has ls 3 [(0, .ref (ad 130)), (1, .int x1)] := hl
  unfold f_X12_takeDate at h
  refine lv_aload_n hx hb dX12_takeDate_0 rfl (lv_at hl 0 rfl) ?_
  refine lv_iconst (v := (0 : Int32)) hx hb dX12_takeDate_1 (by decide) ?_
  refine lv_bipush (v := (11 : Int32)) hx hb dX12_takeDate_2 (by decide) ?_
  obtain ⟨r_4, S_3, er_4, h⟩ := sd_cl_some h
  refine k_X12_takeNumber C X hl.1 er_4 sd_w20_11 (by decide) (Nat.le_of_ble_eq_true rfl) dX12_takeDate_4 (fun H locs X => ?_)
  refine lv_istore_n (lv' := [(2, .int r_4), (0, .ref (ad 130)), (1, .int x1)]) hx hb dX12_takeDate_7 rfl hl (by decide) rfl (fun ls hl => ?_)
  refine lv_aload_n hx hb dX12_takeDate_8 rfl (lv_at hl 1 rfl) ?_
  refine sd_g12_8 C X (by decide) sd_w18_21 dX12_takeDate_9 ?_
  refine lv_if_ne (tgt := 71) hx hb dX12_takeDate_12 (by decide) (fun c_5 => ?_) (fun c_5 => ?_)
  · have h := sd_ifn c_5 h
    exact t_X12_takeDate_b71 C r_4 S_3 _ _ _ h X (lv_sub hl [1, 0] rfl)
  · have h := sd_ifp c_5 h
    refine lv_aload_n hx hb dX12_takeDate_15 rfl (lv_at hl 1 rfl) ?_
    refine sd_g12_4 (k := 130) C X (by decide) sd_w7_14 dX12_takeDate_16 ?_
    refine lv_aload_n hx hb dX12_takeDate_19 rfl (lv_at hl 1 rfl) ?_
    refine sd_g12_7 C X (by decide) sd_w18_22 dX12_takeDate_20 ?_
    obtain ⟨b_6, v_6, e_6, h⟩ := sd_ld_some h
    refine sd_iald C X (by decide) b_6 dX12_takeDate_23 (sd_nmi e_6 ?_)
    refine lv_iconst (v := (2 : Int32)) hx hb dX12_takeDate_24 (by decide) ?_
    refine lv_icmp_ne (tgt := 71) hx hb dX12_takeDate_25 (by decide) (fun c_7 => ?_) (fun c_7 => ?_)
    · have h := sd_ifn c_7 h
      exact t_X12_takeDate_b71 C r_4 S_3 _ _ _ h X (lv_sub hl [1, 0] rfl)
    · have h := sd_ifp c_7 h
      refine lv_aload_n hx hb dX12_takeDate_28 rfl (lv_at hl 1 rfl) ?_
      refine sd_g12_6 (k := 130) C X (by decide) sd_w7_16 dX12_takeDate_29 ?_
      refine lv_aload_n hx hb dX12_takeDate_32 rfl (lv_at hl 1 rfl) ?_
      refine sd_g12_7 C X (by decide) sd_w18_22 dX12_takeDate_33 ?_
      obtain ⟨b_8, v_8, e_8, h⟩ := sd_ldl_some h
      refine sd_lald C X (by decide) b_8 dX12_takeDate_36 (sd_nml e_8 ?_)
      refine lv_ldc2 (v := (366 : Int64)) hx hb hown (hts _ sd_w22_14) dX12_takeDate_37 ?_
      refine W.lcmp hx hb dX12_takeDate_40 ?_
      refine lv_if_ge (tgt := 71) hx hb dX12_takeDate_41 (by decide) (fun c_9 => ?_) (fun c_9 => ?_)
      · have h := sd_ifp c_9 h
        exact t_X12_takeDate_b71 C r_4 S_3 _ _ _ h X (lv_sub hl [1, 0] rfl)
      · have h := sd_ifn c_9 h
        refine lv_sipush (v := (366 : Int32)) hx hb dX12_takeDate_44 (by decide) ?_
        refine lv_iload_n hx hb dX12_takeDate_47 rfl (lv_at hl 0 rfl) ?_
        refine lv_imul hx hb dX12_takeDate_48 ?_
        refine lv_i2l (v := ((366 : Int32) * r_4).toInt64) hx hb dX12_takeDate_49 rfl ?_
        refine lv_aload_n hx hb dX12_takeDate_50 rfl (lv_at hl 1 rfl) ?_
        refine sd_g12_6 (k := 130) C X (by decide) sd_w7_16 dX12_takeDate_51 ?_
        refine lv_aload_n hx hb dX12_takeDate_54 rfl (lv_at hl 1 rfl) ?_
        refine sd_g12_7 C X (by decide) sd_w18_22 dX12_takeDate_55 ?_
        obtain ⟨b_10, v_10, e_10, h⟩ := sd_ldl_some h
        refine sd_lald C X (by decide) b_10 dX12_takeDate_58 (sd_nml e_10 ?_)
        refine lv_ladd hx hb dX12_takeDate_59 ?_
        refine lv_iload_n hx hb dX12_takeDate_60 rfl (lv_at hl 2 rfl) ?_
        refine lv_i2l (v := x1.toInt64) hx hb dX12_takeDate_61 rfl ?_
        refine W.lcmp hx hb dX12_takeDate_62 ?_
        refine lv_if_ge (tgt := 71) hx hb dX12_takeDate_63 (by decide) (fun c_11 => ?_) (fun c_11 => ?_)
        · have h := sd_ifp c_11 h
          exact t_X12_takeDate_b71 C r_4 S_3 _ _ _ h X (lv_sub hl [1, 0] rfl)
        · have h := sd_ifn c_11 h
          refine lv_aload_n hx hb dX12_takeDate_66 rfl (lv_at hl 1 rfl) ?_
          refine lv_iconst (v := (4 : Int32)) hx hb dX12_takeDate_67 (by decide) ?_
          obtain ⟨r_13, S_12, er_13, h⟩ := sd_cl_some h
          refine k_X12_errs C X hl.1 er_13 sd_w20_7 (by decide) (Nat.le_of_ble_eq_true rfl) dX12_takeDate_68 (fun H locs X => ?_)
          exact t_X12_takeDate_b71 C r_4 S_12 _ _ _ h X (lv_sub hl [1, 0] rfl)
theorem k_X12_takeDate (C : sd_C own cc nL rt D cy ad A b0 p s m args meth c) (X : sd_H D cy ad A s S H locs) (hls : ls.size = nL) {x1 : Int32} {S2 : sd_St} {r : Int32} (h : f_X12_takeDate x1 S = some (r, S2)) (hlink : Cond.methodLink own index yX12_takeDate ∈ sd_wl) (hR : 3 ≤ R.frames ∧ 102 ≤ R.locals ∧ cells ≤ R.cells ∧ slots ≤ R.slots) (hst : (rest.map fun v => v.category).sum ≤ 8) (hdg : decode cc pc = .ok (.invokevirtual index, 3)) (kk : ∀ (H1 : Heap) (locs1 : List Loc), sd_H D cy ad A s S2 H1 locs1 → W p l e R s m args below meth c H1 locs1 cells slots Q (F0 m (pc + 3) ls (.int r :: rest))) : W p l e R s m args below meth c H locs cells slots Q (F0 m pc ls (.int x1 :: .ref (ad 130) :: rest)) :=
  sd_goI X (sd_runV C X hls (n := 1) (k := 130) (As := [.int x1]) (c_X12_takeDate (l := l) (b0 := b0) h) (sd_goodV hlink sd_w22_11 sd_w22_12 sd_w1_5 sd_w22_13) (ci := 12) rfl (by rw [(show sd_kd 130 = 12 by decide)]; decide) (sd_c12 (show sd_kd 130 = 12 by decide)) (by decide +kernel) rfl hR rfl hst hdg) kk
/-! ===== SecretDaysModel.readAway()V ===== -/
def f_X12_readAway (S : sd_St) : Option (Unit × sd_St) := sd_ld S 136 (221 : Int32) (fun v_1 => (if v_1 = (12 : Int32) then sd_cl (f_X12_errs (5 : Int32) S) (fun _ S_21 => (some ((), S_21))) else sd_nm (sd_I S 130 7 ((S.1 130 7) + (1 : Int32))) (fun S_3 => sd_nm (((222 : Int32) + ((3 : Int32) * v_1))) (fun v_4 => sd_cl (f_X12_takePerson S_3) (fun r_6 S_5 => sd_st S_5 136 v_4 r_6 (fun S_7 => sd_cl (f_X12_takeWord (8 : Int32) S_7) (fun _ S_8 => sd_cl (f_X12_takeDate (0 : Int32) S_8) (fun r_11 S_10 => sd_st S_10 136 (v_4 + (1 : Int32)) r_11 (fun S_12 => sd_cl (f_X12_takeWord (9 : Int32) S_12) (fun _ S_13 => sd_ld S_13 136 (v_4 + (1 : Int32)) (fun v_15 => sd_cl (f_X12_takeDate v_15 S_13) (fun r_17 S_16 => sd_st S_16 136 (v_4 + (2 : Int32)) r_17 (fun S_18 => sd_ld S_18 136 (221 : Int32) (fun v_19 => sd_st S_18 136 (221 : Int32) (v_19 + (1 : Int32)) (fun S_20 => (some ((), S_20)))))))))))))))))
set_option maxHeartbeats 4000000 in
set_option maxRecDepth 100000 in
theorem c_X12_readAway {S S' : sd_St} (h : f_X12_readAway S = some ((), S')) : Met l yX12_readAway (Cond.code yX12_readAway cX12_readAway 3 none :: sd_wl) (sd_rm 3) (sd_P D cy ad A b0 [.ref (ad 130)] S) (sd_Qv D cy ad A S') 0 0 A := by
  refine sd_met (by decide) (Nat.le_of_ble_eq_true rfl) (fun p e s m args below meth c ls C X hl => ?_)
  obtain ⟨hx, hb, -, hml, hown, hts, -, hG⟩ := id C
  replace C : sd_C RX12 cX12_readAway 3 none D cy ad A b0 p s m args meth c := C
  replace hl : lv_has ls 3 [(0, .ref (ad 130))] := hl
  unfold f_X12_readAway at h
  refine lv_aload_n hx hb dX12_readAway_0 rfl (lv_at hl 0 rfl) ?_
  refine sd_g12_10 (k := 130) C X (by decide) sd_w8_8 dX12_readAway_1 ?_
  refine lv_sipush (v := (221 : Int32)) hx hb dX12_readAway_4 (by decide) ?_
  obtain ⟨b_1, v_1, e_1, h⟩ := sd_ld_some h
  refine sd_iald C X (by decide) b_1 dX12_readAway_7 (sd_nmi e_1 ?_)
  refine lv_istore_n (lv' := [(1, .int v_1), (0, .ref (ad 130))]) hx hb dX12_readAway_8 rfl hl (by decide) rfl (fun ls hl => ?_)
  refine lv_iload_n hx hb dX12_readAway_9 rfl (lv_at hl 0 rfl) ?_
  refine lv_bipush (v := (12 : Int32)) hx hb dX12_readAway_10 (by decide) ?_
  refine lv_icmp_ne (tgt := 21) hx hb dX12_readAway_12 (by decide) (fun c_2 => ?_) (fun c_2 => ?_)
  · have h := sd_ifn c_2 h
    refine lv_aload_n hx hb dX12_readAway_21 rfl (lv_at hl 1 rfl) ?_
    refine lv_dup hx hb dX12_readAway_22 rfl ?_
    refine sd_g12_7 C X (by decide) sd_w18_22 dX12_readAway_23 ?_
    refine lv_iconst (v := (1 : Int32)) hx hb dX12_readAway_26 (by decide) ?_
    refine lv_iadd hx hb dX12_readAway_27 ?_
    obtain ⟨S_3, eS_3, h⟩ := sd_nm_some h
    refine sd_p12_7 C X (by decide) sd_w18_22 dX12_readAway_28 (fun H locs X => ?_)
    rw [← eS_3] at X
    refine lv_sipush (v := (222 : Int32)) hx hb dX12_readAway_31 (by decide) ?_
    refine lv_iconst (v := (3 : Int32)) hx hb dX12_readAway_34 (by decide) ?_
    refine lv_iload_n hx hb dX12_readAway_35 rfl (lv_at hl 0 rfl) ?_
    refine lv_imul hx hb dX12_readAway_36 ?_
    refine lv_iadd hx hb dX12_readAway_37 ?_
    obtain ⟨v_4, e_4, h⟩ := sd_nm_some h
    refine sd_nmi e_4 ?_
    refine lv_istore_n (lv' := [(2, .int v_4), (1, .int v_1), (0, .ref (ad 130))]) hx hb dX12_readAway_38 rfl hl (by decide) rfl (fun ls hl => ?_)
    refine lv_aload_n hx hb dX12_readAway_39 rfl (lv_at hl 2 rfl) ?_
    refine sd_g12_10 (k := 130) C X (by decide) sd_w8_8 dX12_readAway_40 ?_
    refine lv_iload_n hx hb dX12_readAway_43 rfl (lv_at hl 0 rfl) ?_
    refine lv_aload_n hx hb dX12_readAway_44 rfl (lv_at hl 2 rfl) ?_
    obtain ⟨r_6, S_5, er_6, h⟩ := sd_cl_some h
    refine k_X12_takePerson C X hl.1 er_6 sd_w21_19 (by decide) (Nat.le_of_ble_eq_true rfl) dX12_readAway_45 (fun H locs X => ?_)
    obtain ⟨bS_7, S_7, eS_7, h⟩ := sd_st_some h
    refine sd_iast C X (by decide) bS_7 dX12_readAway_48 (fun H locs X => ?_)
    rw [← eS_7] at X
    refine lv_aload_n hx hb dX12_readAway_49 rfl (lv_at hl 2 rfl) ?_
    refine lv_bipush (v := (8 : Int32)) hx hb dX12_readAway_50 (by decide) ?_
    obtain ⟨r_9, S_8, er_9, h⟩ := sd_cl_some h
    refine k_X12_takeWord C X hl.1 er_9 sd_w21_7 (by decide) (Nat.le_of_ble_eq_true rfl) dX12_readAway_52 (fun H locs X => ?_)
    refine lv_aload_n hx hb dX12_readAway_55 rfl (lv_at hl 2 rfl) ?_
    refine sd_g12_10 (k := 130) C X (by decide) sd_w8_8 dX12_readAway_56 ?_
    refine lv_iload_n hx hb dX12_readAway_59 rfl (lv_at hl 0 rfl) ?_
    refine lv_iconst (v := (1 : Int32)) hx hb dX12_readAway_60 (by decide) ?_
    refine lv_iadd hx hb dX12_readAway_61 ?_
    refine lv_aload_n hx hb dX12_readAway_62 rfl (lv_at hl 2 rfl) ?_
    refine lv_iconst (v := (0 : Int32)) hx hb dX12_readAway_63 (by decide) ?_
    obtain ⟨r_11, S_10, er_11, h⟩ := sd_cl_some h
    refine k_X12_takeDate C X hl.1 er_11 sd_w22_10 (by decide) (Nat.le_of_ble_eq_true rfl) dX12_readAway_64 (fun H locs X => ?_)
    obtain ⟨bS_12, S_12, eS_12, h⟩ := sd_st_some h
    refine sd_iast C X (by decide) bS_12 dX12_readAway_67 (fun H locs X => ?_)
    rw [← eS_12] at X
    refine lv_aload_n hx hb dX12_readAway_68 rfl (lv_at hl 2 rfl) ?_
    refine lv_bipush (v := (9 : Int32)) hx hb dX12_readAway_69 (by decide) ?_
    obtain ⟨r_14, S_13, er_14, h⟩ := sd_cl_some h
    refine k_X12_takeWord C X hl.1 er_14 sd_w21_7 (by decide) (Nat.le_of_ble_eq_true rfl) dX12_readAway_71 (fun H locs X => ?_)
    refine lv_aload_n hx hb dX12_readAway_74 rfl (lv_at hl 2 rfl) ?_
    refine sd_g12_10 (k := 130) C X (by decide) sd_w8_8 dX12_readAway_75 ?_
    refine lv_iload_n hx hb dX12_readAway_78 rfl (lv_at hl 0 rfl) ?_
    refine lv_iconst (v := (2 : Int32)) hx hb dX12_readAway_79 (by decide) ?_
    refine lv_iadd hx hb dX12_readAway_80 ?_
    refine lv_aload_n hx hb dX12_readAway_81 rfl (lv_at hl 2 rfl) ?_
    refine lv_aload_n hx hb dX12_readAway_82 rfl (lv_at hl 2 rfl) ?_
    refine sd_g12_10 (k := 130) C X (by decide) sd_w8_8 dX12_readAway_83 ?_
    refine lv_iload_n hx hb dX12_readAway_86 rfl (lv_at hl 0 rfl) ?_
    refine lv_iconst (v := (1 : Int32)) hx hb dX12_readAway_87 (by decide) ?_
    refine lv_iadd hx hb dX12_readAway_88 ?_
    obtain ⟨b_15, v_15, e_15, h⟩ := sd_ld_some h
    refine sd_iald C X (by decide) b_15 dX12_readAway_89 (sd_nmi e_15 ?_)
    obtain ⟨r_17, S_16, er_17, h⟩ := sd_cl_some h
    refine k_X12_takeDate C X hl.1 er_17 sd_w22_10 (by decide) (Nat.le_of_ble_eq_true rfl) dX12_readAway_90 (fun H locs X => ?_)
    obtain ⟨bS_18, S_18, eS_18, h⟩ := sd_st_some h
    refine sd_iast C X (by decide) bS_18 dX12_readAway_93 (fun H locs X => ?_)
    rw [← eS_18] at X
    refine lv_aload_n hx hb dX12_readAway_94 rfl (lv_at hl 2 rfl) ?_
    refine sd_g12_10 (k := 130) C X (by decide) sd_w8_8 dX12_readAway_95 ?_
    refine lv_sipush (v := (221 : Int32)) hx hb dX12_readAway_98 (by decide) ?_
    refine lv_dup2_11 hx hb dX12_readAway_101 rfl rfl ?_
    obtain ⟨b_19, v_19, e_19, h⟩ := sd_ld_some h
    refine sd_iald C X (by decide) b_19 dX12_readAway_102 (sd_nmi e_19 ?_)
    refine lv_iconst (v := (1 : Int32)) hx hb dX12_readAway_103 (by decide) ?_
    refine lv_iadd hx hb dX12_readAway_104 ?_
    obtain ⟨bS_20, S_20, eS_20, h⟩ := sd_st_some h
    refine sd_iast C X (by decide) bS_20 dX12_readAway_105 (fun H locs X => ?_)
    rw [← eS_20] at X
    cases h
    exact sd_vret C X dX12_readAway_106
  · have h := sd_ifp c_2 h
    refine lv_aload_n hx hb dX12_readAway_15 rfl (lv_at hl 1 rfl) ?_
    refine lv_iconst (v := (5 : Int32)) hx hb dX12_readAway_16 (by decide) ?_
    obtain ⟨r_22, S_21, er_22, h⟩ := sd_cl_some h
    refine k_X12_errs C X hl.1 er_22 sd_w20_7 (by decide) (Nat.le_of_ble_eq_true rfl) dX12_readAway_17 (fun H locs X => ?_)
    cases h
    exact sd_vret C X dX12_readAway_20
theorem k_X12_readAway (C : sd_C own cc nL rt D cy ad A b0 p s m args meth c) (X : sd_H D cy ad A s S H locs) (hls : ls.size = nL) {S2 : sd_St} (h : f_X12_readAway S = some ((), S2)) (hlink : Cond.methodLink own index yX12_readAway ∈ sd_wl) (hR : 4 ≤ R.frames ∧ 142 ≤ R.locals ∧ cells ≤ R.cells ∧ slots ≤ R.slots) (hst : (rest.map fun v => v.category).sum ≤ 8) (hdg : decode cc pc = .ok (.invokevirtual index, 3)) (kk : ∀ (H1 : Heap) (locs1 : List Loc), sd_H D cy ad A s S2 H1 locs1 → W p l e R s m args below meth c H1 locs1 cells slots Q (F0 m (pc + 3) ls rest)) : W p l e R s m args below meth c H locs cells slots Q (F0 m pc ls (.ref (ad 130) :: rest)) :=
  sd_goV X (sd_runV C X hls (n := 0) (k := 130) (As := []) (c_X12_readAway (l := l) (b0 := b0) h) (sd_goodV hlink sd_w22_7 sd_w22_8 sd_w1_5 sd_w22_9) (ci := 12) rfl (by rw [(show sd_kd 130 = 12 by decide)]; decide) (sd_c12 (show sd_kd 130 = 12 by decide)) (by decide +kernel) rfl hR rfl hst hdg) kk
/-! ===== SecretDaysModel.readSecret()V ===== -/
def f_X12_readSecret (S : sd_St) : Option (Unit × sd_St) := sd_ld S 136 (258 : Int32) (fun v_1 => (if v_1 = (4 : Int32) then sd_cl (f_X12_errs (5 : Int32) S) (fun _ S_19 => (some ((), S_19))) else sd_nm (sd_I S 130 7 ((S.1 130 7) + (1 : Int32))) (fun S_3 => sd_cl (f_X12_readName ((12 : Int32) + v_1) S_3) (fun _ S_4 => sd_cl (f_X12_takeWord (11 : Int32) S_4) (fun _ S_6 => sd_nm (((259 : Int32) + ((2 : Int32) * v_1))) (fun v_8 => sd_cl (f_X12_takePerson S_6) (fun r_10 S_9 => sd_st S_9 136 v_8 r_10 (fun S_11 => sd_cl (f_X12_takeWord (8 : Int32) S_11) (fun _ S_12 => sd_cl (f_X12_takeDate (0 : Int32) S_12) (fun r_15 S_14 => sd_st S_14 136 (v_8 + (1 : Int32)) r_15 (fun S_16 => sd_ld S_16 136 (258 : Int32) (fun v_17 => sd_st S_16 136 (258 : Int32) (v_17 + (1 : Int32)) (fun S_18 => (some ((), S_18)))))))))))))))
set_option maxHeartbeats 4000000 in
set_option maxRecDepth 100000 in
theorem c_X12_readSecret {S S' : sd_St} (h : f_X12_readSecret S = some ((), S')) : Met l yX12_readSecret (Cond.code yX12_readSecret cX12_readSecret 3 none :: sd_wl) (sd_rm 3) (sd_P D cy ad A b0 [.ref (ad 130)] S) (sd_Qv D cy ad A S') 0 0 A := by
  refine sd_met (by decide) (Nat.le_of_ble_eq_true rfl) (fun p e s m args below meth c ls C X hl => ?_)
  obtain ⟨hx, hb, -, hml, hown, hts, -, hG⟩ := id C
  replace C : sd_C RX12 cX12_readSecret 3 none D cy ad A b0 p s m args meth c := C
  replace hl : lv_has ls 3 [(0, .ref (ad 130))] := hl
  unfold f_X12_readSecret at h
  refine lv_aload_n hx hb dX12_readSecret_0 rfl (lv_at hl 0 rfl) ?_
  refine sd_g12_10 (k := 130) C X (by decide) sd_w8_8 dX12_readSecret_1 ?_
  refine lv_sipush (v := (258 : Int32)) hx hb dX12_readSecret_4 (by decide) ?_
  obtain ⟨b_1, v_1, e_1, h⟩ := sd_ld_some h
  refine sd_iald C X (by decide) b_1 dX12_readSecret_7 (sd_nmi e_1 ?_)
  refine lv_istore_n (lv' := [(1, .int v_1), (0, .ref (ad 130))]) hx hb dX12_readSecret_8 rfl hl (by decide) rfl (fun ls hl => ?_)
  refine lv_iload_n hx hb dX12_readSecret_9 rfl (lv_at hl 0 rfl) ?_
  refine lv_iconst (v := (4 : Int32)) hx hb dX12_readSecret_10 (by decide) ?_
  refine lv_icmp_ne (tgt := 20) hx hb dX12_readSecret_11 (by decide) (fun c_2 => ?_) (fun c_2 => ?_)
  · have h := sd_ifn c_2 h
    refine lv_aload_n hx hb dX12_readSecret_20 rfl (lv_at hl 1 rfl) ?_
    refine lv_dup hx hb dX12_readSecret_21 rfl ?_
    refine sd_g12_7 C X (by decide) sd_w18_22 dX12_readSecret_22 ?_
    refine lv_iconst (v := (1 : Int32)) hx hb dX12_readSecret_25 (by decide) ?_
    refine lv_iadd hx hb dX12_readSecret_26 ?_
    obtain ⟨S_3, eS_3, h⟩ := sd_nm_some h
    refine sd_p12_7 C X (by decide) sd_w18_22 dX12_readSecret_27 (fun H locs X => ?_)
    rw [← eS_3] at X
    refine lv_aload_n hx hb dX12_readSecret_30 rfl (lv_at hl 1 rfl) ?_
    refine lv_bipush (v := (12 : Int32)) hx hb dX12_readSecret_31 (by decide) ?_
    refine lv_iload_n hx hb dX12_readSecret_33 rfl (lv_at hl 0 rfl) ?_
    refine lv_iadd hx hb dX12_readSecret_34 ?_
    obtain ⟨r_5, S_4, er_5, h⟩ := sd_cl_some h
    refine k_X12_readName C X hl.1 er_5 sd_w20_19 (by decide) (Nat.le_of_ble_eq_true rfl) dX12_readSecret_35 (fun H locs X => ?_)
    refine lv_aload_n hx hb dX12_readSecret_38 rfl (lv_at hl 1 rfl) ?_
    refine lv_bipush (v := (11 : Int32)) hx hb dX12_readSecret_39 (by decide) ?_
    obtain ⟨r_7, S_6, er_7, h⟩ := sd_cl_some h
    refine k_X12_takeWord C X hl.1 er_7 sd_w21_7 (by decide) (Nat.le_of_ble_eq_true rfl) dX12_readSecret_41 (fun H locs X => ?_)
    refine lv_sipush (v := (259 : Int32)) hx hb dX12_readSecret_44 (by decide) ?_
    refine lv_iconst (v := (2 : Int32)) hx hb dX12_readSecret_47 (by decide) ?_
    refine lv_iload_n hx hb dX12_readSecret_48 rfl (lv_at hl 0 rfl) ?_
    refine lv_imul hx hb dX12_readSecret_49 ?_
    refine lv_iadd hx hb dX12_readSecret_50 ?_
    obtain ⟨v_8, e_8, h⟩ := sd_nm_some h
    refine sd_nmi e_8 ?_
    refine lv_istore_n (lv' := [(2, .int v_8), (1, .int v_1), (0, .ref (ad 130))]) hx hb dX12_readSecret_51 rfl hl (by decide) rfl (fun ls hl => ?_)
    refine lv_aload_n hx hb dX12_readSecret_52 rfl (lv_at hl 2 rfl) ?_
    refine sd_g12_10 (k := 130) C X (by decide) sd_w8_8 dX12_readSecret_53 ?_
    refine lv_iload_n hx hb dX12_readSecret_56 rfl (lv_at hl 0 rfl) ?_
    refine lv_aload_n hx hb dX12_readSecret_57 rfl (lv_at hl 2 rfl) ?_
    obtain ⟨r_10, S_9, er_10, h⟩ := sd_cl_some h
    refine k_X12_takePerson C X hl.1 er_10 sd_w21_19 (by decide) (Nat.le_of_ble_eq_true rfl) dX12_readSecret_58 (fun H locs X => ?_)
    obtain ⟨bS_11, S_11, eS_11, h⟩ := sd_st_some h
    refine sd_iast C X (by decide) bS_11 dX12_readSecret_61 (fun H locs X => ?_)
    rw [← eS_11] at X
    refine lv_aload_n hx hb dX12_readSecret_62 rfl (lv_at hl 2 rfl) ?_
    refine lv_bipush (v := (8 : Int32)) hx hb dX12_readSecret_63 (by decide) ?_
    obtain ⟨r_13, S_12, er_13, h⟩ := sd_cl_some h
    refine k_X12_takeWord C X hl.1 er_13 sd_w21_7 (by decide) (Nat.le_of_ble_eq_true rfl) dX12_readSecret_65 (fun H locs X => ?_)
    refine lv_aload_n hx hb dX12_readSecret_68 rfl (lv_at hl 2 rfl) ?_
    refine sd_g12_10 (k := 130) C X (by decide) sd_w8_8 dX12_readSecret_69 ?_
    refine lv_iload_n hx hb dX12_readSecret_72 rfl (lv_at hl 0 rfl) ?_
    refine lv_iconst (v := (1 : Int32)) hx hb dX12_readSecret_73 (by decide) ?_
    refine lv_iadd hx hb dX12_readSecret_74 ?_
    refine lv_aload_n hx hb dX12_readSecret_75 rfl (lv_at hl 2 rfl) ?_
    refine lv_iconst (v := (0 : Int32)) hx hb dX12_readSecret_76 (by decide) ?_
    obtain ⟨r_15, S_14, er_15, h⟩ := sd_cl_some h
    refine k_X12_takeDate C X hl.1 er_15 sd_w22_10 (by decide) (Nat.le_of_ble_eq_true rfl) dX12_readSecret_77 (fun H locs X => ?_)
    obtain ⟨bS_16, S_16, eS_16, h⟩ := sd_st_some h
    refine sd_iast C X (by decide) bS_16 dX12_readSecret_80 (fun H locs X => ?_)
    rw [← eS_16] at X
    refine lv_aload_n hx hb dX12_readSecret_81 rfl (lv_at hl 2 rfl) ?_
    refine sd_g12_10 (k := 130) C X (by decide) sd_w8_8 dX12_readSecret_82 ?_
    refine lv_sipush (v := (258 : Int32)) hx hb dX12_readSecret_85 (by decide) ?_
    refine lv_dup2_11 hx hb dX12_readSecret_88 rfl rfl ?_
    obtain ⟨b_17, v_17, e_17, h⟩ := sd_ld_some h
    refine sd_iald C X (by decide) b_17 dX12_readSecret_89 (sd_nmi e_17 ?_)
    refine lv_iconst (v := (1 : Int32)) hx hb dX12_readSecret_90 (by decide) ?_
    refine lv_iadd hx hb dX12_readSecret_91 ?_
    obtain ⟨bS_18, S_18, eS_18, h⟩ := sd_st_some h
    refine sd_iast C X (by decide) bS_18 dX12_readSecret_92 (fun H locs X => ?_)
    rw [← eS_18] at X
    cases h
    exact sd_vret C X dX12_readSecret_93
  · have h := sd_ifp c_2 h
    refine lv_aload_n hx hb dX12_readSecret_14 rfl (lv_at hl 1 rfl) ?_
    refine lv_iconst (v := (5 : Int32)) hx hb dX12_readSecret_15 (by decide) ?_
    obtain ⟨r_20, S_19, er_20, h⟩ := sd_cl_some h
    refine k_X12_errs C X hl.1 er_20 sd_w20_7 (by decide) (Nat.le_of_ble_eq_true rfl) dX12_readSecret_16 (fun H locs X => ?_)
    cases h
    exact sd_vret C X dX12_readSecret_19
theorem k_X12_readSecret (C : sd_C own cc nL rt D cy ad A b0 p s m args meth c) (X : sd_H D cy ad A s S H locs) (hls : ls.size = nL) {S2 : sd_St} (h : f_X12_readSecret S = some ((), S2)) (hlink : Cond.methodLink own index yX12_readSecret ∈ sd_wl) (hR : 4 ≤ R.frames ∧ 142 ≤ R.locals ∧ cells ≤ R.cells ∧ slots ≤ R.slots) (hst : (rest.map fun v => v.category).sum ≤ 8) (hdg : decode cc pc = .ok (.invokevirtual index, 3)) (kk : ∀ (H1 : Heap) (locs1 : List Loc), sd_H D cy ad A s S2 H1 locs1 → W p l e R s m args below meth c H1 locs1 cells slots Q (F0 m (pc + 3) ls rest)) : W p l e R s m args below meth c H locs cells slots Q (F0 m pc ls (.ref (ad 130) :: rest)) :=
  sd_goV X (sd_runV C X hls (n := 0) (k := 130) (As := []) (c_X12_readSecret (l := l) (b0 := b0) h) (sd_goodV hlink sd_w22_16 sd_w22_17 sd_w1_5 sd_w22_18) (ci := 12) rfl (by rw [(show sd_kd 130 = 12 by decide)]; decide) (sd_c12 (show sd_kd 130 = 12 by decide)) (by decide +kernel) rfl hR rfl hst hdg) kk
/-! ===== SecretDaysModel.readLaw()V ===== -/
def f_X12_readLaw (S : sd_St) : Option (Unit × sd_St) := sd_ld S 136 (171 : Int32) (fun v_1 => (if v_1 = (1 : Int32) then sd_cl (f_X12_errs (3 : Int32) S) (fun _ S_7 => (some ((), S_7))) else sd_nm (sd_I S 130 7 ((S.1 130 7) + (1 : Int32))) (fun S_3 => sd_cl (f_X12_takeWord (13 : Int32) S_3) (fun _ S_4 => sd_st S_4 136 (171 : Int32) (1 : Int32) (fun S_6 => (some ((), S_6)))))))
set_option maxHeartbeats 4000000 in
set_option maxRecDepth 100000 in
theorem c_X12_readLaw {S S' : sd_St} (h : f_X12_readLaw S = some ((), S')) : Met l yX12_readLaw (Cond.code yX12_readLaw cX12_readLaw 1 none :: sd_wl) (sd_rm 3) (sd_P D cy ad A b0 [.ref (ad 130)] S) (sd_Qv D cy ad A S') 0 0 A := by
  refine sd_met (by decide) (Nat.le_of_ble_eq_true rfl) (fun p e s m args below meth c ls C X hl => ?_)
  obtain ⟨hx, hb, -, hml, hown, hts, -, hG⟩ := id C
  replace C : sd_C RX12 cX12_readLaw 1 none D cy ad A b0 p s m args meth c := C
  replace hl : lv_has ls 1 [(0, .ref (ad 130))] := hl
  unfold f_X12_readLaw at h
  refine lv_aload_n hx hb dX12_readLaw_0 rfl (lv_at hl 0 rfl) ?_
  refine sd_g12_10 (k := 130) C X (by decide) sd_w8_8 dX12_readLaw_1 ?_
  refine lv_sipush (v := (171 : Int32)) hx hb dX12_readLaw_4 (by decide) ?_
  obtain ⟨b_1, v_1, e_1, h⟩ := sd_ld_some h
  refine sd_iald C X (by decide) b_1 dX12_readLaw_7 (sd_nmi e_1 ?_)
  refine lv_iconst (v := (1 : Int32)) hx hb dX12_readLaw_8 (by decide) ?_
  refine lv_icmp_ne (tgt := 18) hx hb dX12_readLaw_9 (by decide) (fun c_2 => ?_) (fun c_2 => ?_)
  · have h := sd_ifn c_2 h
    refine lv_aload_n hx hb dX12_readLaw_18 rfl (lv_at hl 0 rfl) ?_
    refine lv_dup hx hb dX12_readLaw_19 rfl ?_
    refine sd_g12_7 C X (by decide) sd_w18_22 dX12_readLaw_20 ?_
    refine lv_iconst (v := (1 : Int32)) hx hb dX12_readLaw_23 (by decide) ?_
    refine lv_iadd hx hb dX12_readLaw_24 ?_
    obtain ⟨S_3, eS_3, h⟩ := sd_nm_some h
    refine sd_p12_7 C X (by decide) sd_w18_22 dX12_readLaw_25 (fun H locs X => ?_)
    rw [← eS_3] at X
    refine lv_aload_n hx hb dX12_readLaw_28 rfl (lv_at hl 0 rfl) ?_
    refine lv_bipush (v := (13 : Int32)) hx hb dX12_readLaw_29 (by decide) ?_
    obtain ⟨r_5, S_4, er_5, h⟩ := sd_cl_some h
    refine k_X12_takeWord C X hl.1 er_5 sd_w21_7 (by decide) (Nat.le_of_ble_eq_true rfl) dX12_readLaw_31 (fun H locs X => ?_)
    refine lv_aload_n hx hb dX12_readLaw_34 rfl (lv_at hl 0 rfl) ?_
    refine sd_g12_10 (k := 130) C X (by decide) sd_w8_8 dX12_readLaw_35 ?_
    refine lv_sipush (v := (171 : Int32)) hx hb dX12_readLaw_38 (by decide) ?_
    refine lv_iconst (v := (1 : Int32)) hx hb dX12_readLaw_41 (by decide) ?_
    obtain ⟨bS_6, S_6, eS_6, h⟩ := sd_st_some h
    refine sd_iast C X (by decide) bS_6 dX12_readLaw_42 (fun H locs X => ?_)
    rw [← eS_6] at X
    cases h
    exact sd_vret C X dX12_readLaw_43
  · have h := sd_ifp c_2 h
    refine lv_aload_n hx hb dX12_readLaw_12 rfl (lv_at hl 0 rfl) ?_
    refine lv_iconst (v := (3 : Int32)) hx hb dX12_readLaw_13 (by decide) ?_
    obtain ⟨r_8, S_7, er_8, h⟩ := sd_cl_some h
    refine k_X12_errs C X hl.1 er_8 sd_w20_7 (by decide) (Nat.le_of_ble_eq_true rfl) dX12_readLaw_14 (fun H locs X => ?_)
    cases h
    exact sd_vret C X dX12_readLaw_17
theorem k_X12_readLaw (C : sd_C own cc nL rt D cy ad A b0 p s m args meth c) (X : sd_H D cy ad A s S H locs) (hls : ls.size = nL) {S2 : sd_St} (h : f_X12_readLaw S = some ((), S2)) (hlink : Cond.methodLink own index yX12_readLaw ∈ sd_wl) (hR : 4 ≤ R.frames ∧ 140 ≤ R.locals ∧ cells ≤ R.cells ∧ slots ≤ R.slots) (hst : (rest.map fun v => v.category).sum ≤ 8) (hdg : decode cc pc = .ok (.invokevirtual index, 3)) (kk : ∀ (H1 : Heap) (locs1 : List Loc), sd_H D cy ad A s S2 H1 locs1 → W p l e R s m args below meth c H1 locs1 cells slots Q (F0 m (pc + 3) ls rest)) : W p l e R s m args below meth c H locs cells slots Q (F0 m pc ls (.ref (ad 130) :: rest)) :=
  sd_goV X (sd_runV C X hls (n := 0) (k := 130) (As := []) (c_X12_readLaw (l := l) (b0 := b0) h) (sd_goodV hlink sd_w22_20 sd_w22_21 sd_w1_5 sd_w22_22) (ci := 12) rfl (by rw [(show sd_kd 130 = 12 by decide)]; decide) (sd_c12 (show sd_kd 130 = 12 by decide)) (by decide +kernel) rfl hR rfl hst hdg) kk
/-! ===== SecretDaysModel.readLine()V ===== -/
def f_X12_readLine (S : sd_St) : Option (Unit × sd_St) := sd_cl (f_X12_isWord (0 : Int32) S) (fun r_2 S_1 => (if r_2 = 0 then sd_cl (f_X12_isWord (1 : Int32) S_1) (fun r_5 S_4 => (if r_5 = 0 then sd_cl (f_X12_isWord (5 : Int32) S_4) (fun r_8 S_7 => (if r_8 = 0 then sd_cl (f_X12_isWord (7 : Int32) S_7) (fun r_11 S_10 => (if r_11 = 0 then sd_cl (f_X12_isWord (10 : Int32) S_10) (fun r_14 S_13 => (if r_14 = 0 then sd_cl (f_X12_isWord (12 : Int32) S_13) (fun r_17 S_16 => (if r_17 = 0 then sd_cl (f_X12_errs (1 : Int32) S_16) (fun _ S_19 => (some ((), S_19))) else sd_cl (f_X12_readLaw S_16) (fun _ S_21 => (some ((), S_21))))) else sd_cl (f_X12_readSecret S_13) (fun _ S_23 => (some ((), S_23))))) else sd_cl (f_X12_readAway S_10) (fun _ S_25 => (some ((), S_25))))) else sd_cl (f_X12_readCalls S_7) (fun _ S_27 => (some ((), S_27))))) else sd_cl (f_X12_readPerson S_4) (fun _ S_29 => (some ((), S_29))))) else sd_cl (f_X12_readLeap S_1) (fun _ S_31 => (some ((), S_31)))))
set_option maxHeartbeats 4000000 in
set_option maxRecDepth 100000 in
theorem c_X12_readLine {S S' : sd_St} (h : f_X12_readLine S = some ((), S')) : Met l yX12_readLine (Cond.code yX12_readLine cX12_readLine 1 none :: sd_wl) (sd_rm 4) (sd_P D cy ad A b0 [.ref (ad 130)] S) (sd_Qv D cy ad A S') 0 0 A := by
  refine sd_met (by decide) (Nat.le_of_ble_eq_true rfl) (fun p e s m args below meth c ls C X hl => ?_)
  obtain ⟨hx, hb, -, hml, hown, hts, -, hG⟩ := id C
  replace C : sd_C RX12 cX12_readLine 1 none D cy ad A b0 p s m args meth c := C
  replace hl : lv_has ls 1 [(0, .ref (ad 130))] := hl
  unfold f_X12_readLine at h
  refine lv_aload_n hx hb dX12_readLine_0 rfl (lv_at hl 0 rfl) ?_
  refine lv_iconst (v := (0 : Int32)) hx hb dX12_readLine_1 (by decide) ?_
  obtain ⟨r_2, S_1, er_2, h⟩ := sd_cl_some h
  refine k_X12_isWord C X hl.1 er_2 sd_w19_23 (by decide) (Nat.le_of_ble_eq_true rfl) dX12_readLine_2 (fun H locs X => ?_)
  refine lv_if_eq (tgt := 15) hx hb dX12_readLine_5 (by decide) (fun c_3 => ?_) (fun c_3 => ?_)
  · have h := sd_ifp c_3 h
    refine lv_aload_n hx hb dX12_readLine_15 rfl (lv_at hl 0 rfl) ?_
    refine lv_iconst (v := (1 : Int32)) hx hb dX12_readLine_16 (by decide) ?_
    obtain ⟨r_5, S_4, er_5, h⟩ := sd_cl_some h
    refine k_X12_isWord C X hl.1 er_5 sd_w19_23 (by decide) (Nat.le_of_ble_eq_true rfl) dX12_readLine_17 (fun H locs X => ?_)
    refine lv_if_eq (tgt := 30) hx hb dX12_readLine_20 (by decide) (fun c_6 => ?_) (fun c_6 => ?_)
    · have h := sd_ifp c_6 h
      refine lv_aload_n hx hb dX12_readLine_30 rfl (lv_at hl 0 rfl) ?_
      refine lv_iconst (v := (5 : Int32)) hx hb dX12_readLine_31 (by decide) ?_
      obtain ⟨r_8, S_7, er_8, h⟩ := sd_cl_some h
      refine k_X12_isWord C X hl.1 er_8 sd_w19_23 (by decide) (Nat.le_of_ble_eq_true rfl) dX12_readLine_32 (fun H locs X => ?_)
      refine lv_if_eq (tgt := 45) hx hb dX12_readLine_35 (by decide) (fun c_9 => ?_) (fun c_9 => ?_)
      · have h := sd_ifp c_9 h
        refine lv_aload_n hx hb dX12_readLine_45 rfl (lv_at hl 0 rfl) ?_
        refine lv_bipush (v := (7 : Int32)) hx hb dX12_readLine_46 (by decide) ?_
        obtain ⟨r_11, S_10, er_11, h⟩ := sd_cl_some h
        refine k_X12_isWord C X hl.1 er_11 sd_w19_23 (by decide) (Nat.le_of_ble_eq_true rfl) dX12_readLine_48 (fun H locs X => ?_)
        refine lv_if_eq (tgt := 61) hx hb dX12_readLine_51 (by decide) (fun c_12 => ?_) (fun c_12 => ?_)
        · have h := sd_ifp c_12 h
          refine lv_aload_n hx hb dX12_readLine_61 rfl (lv_at hl 0 rfl) ?_
          refine lv_bipush (v := (10 : Int32)) hx hb dX12_readLine_62 (by decide) ?_
          obtain ⟨r_14, S_13, er_14, h⟩ := sd_cl_some h
          refine k_X12_isWord C X hl.1 er_14 sd_w19_23 (by decide) (Nat.le_of_ble_eq_true rfl) dX12_readLine_64 (fun H locs X => ?_)
          refine lv_if_eq (tgt := 77) hx hb dX12_readLine_67 (by decide) (fun c_15 => ?_) (fun c_15 => ?_)
          · have h := sd_ifp c_15 h
            refine lv_aload_n hx hb dX12_readLine_77 rfl (lv_at hl 0 rfl) ?_
            refine lv_bipush (v := (12 : Int32)) hx hb dX12_readLine_78 (by decide) ?_
            obtain ⟨r_17, S_16, er_17, h⟩ := sd_cl_some h
            refine k_X12_isWord C X hl.1 er_17 sd_w19_23 (by decide) (Nat.le_of_ble_eq_true rfl) dX12_readLine_80 (fun H locs X => ?_)
            refine lv_if_eq (tgt := 93) hx hb dX12_readLine_83 (by decide) (fun c_18 => ?_) (fun c_18 => ?_)
            · have h := sd_ifp c_18 h
              refine lv_aload_n hx hb dX12_readLine_93 rfl (lv_at hl 0 rfl) ?_
              refine lv_iconst (v := (1 : Int32)) hx hb dX12_readLine_94 (by decide) ?_
              obtain ⟨r_20, S_19, er_20, h⟩ := sd_cl_some h
              refine k_X12_errs C X hl.1 er_20 sd_w20_7 (by decide) (Nat.le_of_ble_eq_true rfl) dX12_readLine_95 (fun H locs X => ?_)
              cases h
              exact sd_vret C X dX12_readLine_98
            · have h := sd_ifn c_18 h
              refine lv_aload_n hx hb dX12_readLine_86 rfl (lv_at hl 0 rfl) ?_
              obtain ⟨r_22, S_21, er_22, h⟩ := sd_cl_some h
              refine k_X12_readLaw C X hl.1 er_22 sd_w22_19 (by decide) (Nat.le_of_ble_eq_true rfl) dX12_readLine_87 (fun H locs X => ?_)
              refine lv_goto (tgt := 98) hx hb dX12_readLine_90 (by decide) ?_
              cases h
              exact sd_vret C X dX12_readLine_98
          · have h := sd_ifn c_15 h
            refine lv_aload_n hx hb dX12_readLine_70 rfl (lv_at hl 0 rfl) ?_
            obtain ⟨r_24, S_23, er_24, h⟩ := sd_cl_some h
            refine k_X12_readSecret C X hl.1 er_24 sd_w22_15 (by decide) (Nat.le_of_ble_eq_true rfl) dX12_readLine_71 (fun H locs X => ?_)
            refine lv_goto (tgt := 98) hx hb dX12_readLine_74 (by decide) ?_
            cases h
            exact sd_vret C X dX12_readLine_98
        · have h := sd_ifn c_12 h
          refine lv_aload_n hx hb dX12_readLine_54 rfl (lv_at hl 0 rfl) ?_
          obtain ⟨r_26, S_25, er_26, h⟩ := sd_cl_some h
          refine k_X12_readAway C X hl.1 er_26 sd_w22_6 (by decide) (Nat.le_of_ble_eq_true rfl) dX12_readLine_55 (fun H locs X => ?_)
          refine lv_goto (tgt := 98) hx hb dX12_readLine_58 (by decide) ?_
          cases h
          exact sd_vret C X dX12_readLine_98
      · have h := sd_ifn c_9 h
        refine lv_aload_n hx hb dX12_readLine_38 rfl (lv_at hl 0 rfl) ?_
        obtain ⟨r_28, S_27, er_28, h⟩ := sd_cl_some h
        refine k_X12_readCalls C X hl.1 er_28 sd_w21_15 (by decide) (Nat.le_of_ble_eq_true rfl) dX12_readLine_39 (fun H locs X => ?_)
        refine lv_goto (tgt := 98) hx hb dX12_readLine_42 (by decide) ?_
        cases h
        exact sd_vret C X dX12_readLine_98
    · have h := sd_ifn c_6 h
      refine lv_aload_n hx hb dX12_readLine_23 rfl (lv_at hl 0 rfl) ?_
      obtain ⟨r_30, S_29, er_30, h⟩ := sd_cl_some h
      refine k_X12_readPerson C X hl.1 er_30 sd_w20_15 (by decide) (Nat.le_of_ble_eq_true rfl) dX12_readLine_24 (fun H locs X => ?_)
      refine lv_goto (tgt := 98) hx hb dX12_readLine_27 (by decide) ?_
      cases h
      exact sd_vret C X dX12_readLine_98
  · have h := sd_ifn c_3 h
    refine lv_aload_n hx hb dX12_readLine_8 rfl (lv_at hl 0 rfl) ?_
    obtain ⟨r_32, S_31, er_32, h⟩ := sd_cl_some h
    refine k_X12_readLeap C X hl.1 er_32 sd_w20_3 (by decide) (Nat.le_of_ble_eq_true rfl) dX12_readLine_9 (fun H locs X => ?_)
    refine lv_goto (tgt := 98) hx hb dX12_readLine_12 (by decide) ?_
    cases h
    exact sd_vret C X dX12_readLine_98
theorem k_X12_readLine (C : sd_C own cc nL rt D cy ad A b0 p s m args meth c) (X : sd_H D cy ad A s S H locs) (hls : ls.size = nL) {S2 : sd_St} (h : f_X12_readLine S = some ((), S2)) (hlink : Cond.methodLink own index yX12_readLine ∈ sd_wl) (hR : 5 ≤ R.frames ∧ 180 ≤ R.locals ∧ cells ≤ R.cells ∧ slots ≤ R.slots) (hst : (rest.map fun v => v.category).sum ≤ 8) (hdg : decode cc pc = .ok (.invokevirtual index, 3)) (kk : ∀ (H1 : Heap) (locs1 : List Loc), sd_H D cy ad A s S2 H1 locs1 → W p l e R s m args below meth c H1 locs1 cells slots Q (F0 m (pc + 3) ls rest)) : W p l e R s m args below meth c H locs cells slots Q (F0 m pc ls (.ref (ad 130) :: rest)) :=
  sd_goV X (sd_runV C X hls (n := 0) (k := 130) (As := []) (c_X12_readLine (l := l) (b0 := b0) h) (sd_goodV hlink sd_w19_20 sd_w19_21 sd_w1_5 sd_w19_22) (ci := 12) rfl (by rw [(show sd_kd 130 = 12 by decide)]; decide) (sd_c12 (show sd_kd 130 = 12 by decide)) (by decide +kernel) rfl hR rfl hst hdg) kk
/-! ===== SecretDaysModel.town()I ===== -/
def f_X12_town_l97 : Nat → Int32 → sd_St → Option (Int32 × sd_St)
  | 0 => fun _ _ => none
  | n + 1 => fun x1 S => (if (4 : Int32) ≤ x1 then (some ((0 : Int32), S)) else sd_st S 154 x1 (vp_nar .boolean (0 : Int32)) (fun S_2 => (f_X12_town_l97 n) (x1 + (1 : Int32)) S_2))
set_option maxHeartbeats 4000000 in
set_option maxRecDepth 100000 in
theorem t_X12_town_l97 (C : sd_C RX12 cX12_town 2 (some .int) D cy ad A b0 p s m args meth c) {r : Int32} {S' : sd_St} : ∀ (n : Nat) (x1 : Int32) (S : sd_St) (H : Heap) (locs : List Loc) (ls : Array Slot), f_X12_town_l97 n x1 S = some (r, S') → sd_H D cy ad A s S H locs → lv_has ls 2 [(0, .ref (ad 130)), (1, .int x1)] → W p l e (sd_rm 5) s m args below meth c H locs 0 0 (MQ below (sd_Qi D cy ad A r S') args s 0 0 A) (F0 m 97 ls []) := by
  obtain ⟨hx, hb, -, hml, hown, hts, -, hG⟩ := id C
  intro n
  induction n with
  | zero => intro x1 S H locs ls h; cases h
  | succ n ih =>
    intro x1 S H locs ls h X hl
    unfold f_X12_town_l97 at h
    refine lv_iload_n hx hb dX12_town_97 rfl (lv_at hl 1 rfl) ?_
    refine lv_iconst (v := (4 : Int32)) hx hb dX12_town_98 (by decide) ?_
    refine lv_icmp_ge (tgt := 115) hx hb dX12_town_99 (by decide) (fun c_1 => ?_) (fun c_1 => ?_)
    · have h := sd_ifp c_1 h
      refine lv_iconst (v := (0 : Int32)) hx hb dX12_town_115 (by decide) ?_
      cases h
      exact sd_iret C X dX12_town_116
    · have h := sd_ifn c_1 h
      refine lv_aload_n hx hb dX12_town_102 rfl (lv_at hl 0 rfl) ?_
      refine sd_g12_34 (k := 130) C X (by decide) sd_w9_2 dX12_town_103 ?_
      refine lv_iload_n hx hb dX12_town_106 rfl (lv_at hl 1 rfl) ?_
      refine lv_iconst (v := (0 : Int32)) hx hb dX12_town_107 (by decide) ?_
      obtain ⟨bS_2, S_2, eS_2, h⟩ := sd_st_some h
      refine sd_zast C X (by decide) bS_2 dX12_town_108 (fun H locs X => ?_)
      rw [← eS_2] at X
      refine lv_iinc (v := (x1 + (1 : Int32))) (lv' := [(1, .int (x1 + (1 : Int32))), (0, .ref (ad 130))]) hx hb dX12_town_109 hl (k := 1) rfl rfl (by decide) rfl (fun ls hl => ?_)
      refine lv_goto (tgt := 97) hx hb dX12_town_112 (by decide) ?_
      exact ih (x1 + (1 : Int32)) S_2 _ _ _ h X (lv_sub hl [1, 0] rfl)
def f_X12_town_b77 (S : sd_St) : Option (Int32 × sd_St) := (if (S.1 130 8) ≤ 0 then sd_cl (f_X12_carry (1 : Int32) (0 : Int32) S) (fun _ S_4 => f_X12_town_l97 sd_FU (0 : Int32) S_4) else (some ((S.1 130 8), S)))
set_option maxHeartbeats 4000000 in
set_option maxRecDepth 100000 in
theorem t_X12_town_b77 (C : sd_C RX12 cX12_town 2 (some .int) D cy ad A b0 p s m args meth c) {r : Int32} {S' : sd_St} : ∀ (S : sd_St) (H : Heap) (locs : List Loc) (ls : Array Slot), f_X12_town_b77 S = some (r, S') → sd_H D cy ad A s S H locs → lv_has ls 2 [(0, .ref (ad 130))] → W p l e (sd_rm 5) s m args below meth c H locs 0 0 (MQ below (sd_Qi D cy ad A r S') args s 0 0 A) (F0 m 77 ls []) := by
  obtain ⟨hx, hb, -, hml, hown, hts, -, hG⟩ := id C
  intro S H locs ls h X hl
  unfold f_X12_town_b77 at h
  refine lv_aload_n hx hb dX12_town_77 rfl (lv_at hl 0 rfl) ?_
  refine sd_g12_8 C X (by decide) sd_w18_21 dX12_town_78 ?_
  refine lv_if_le (tgt := 89) hx hb dX12_town_81 (by decide) (fun c_3 => ?_) (fun c_3 => ?_)
  · have h := sd_ifp c_3 h
    refine lv_aload_n hx hb dX12_town_89 rfl (lv_at hl 0 rfl) ?_
    refine lv_iconst (v := (1 : Int32)) hx hb dX12_town_90 (by decide) ?_
    refine lv_iconst (v := (0 : Int32)) hx hb dX12_town_91 (by decide) ?_
    obtain ⟨r_5, S_4, er_5, h⟩ := sd_cl_some h
    refine k_X12_carry C X hl.1 er_5 sd_w23_7 (by decide) (Nat.le_of_ble_eq_true rfl) dX12_town_92 (fun H locs X => ?_)
    refine lv_iconst (v := (0 : Int32)) hx hb dX12_town_95 (by decide) ?_
    refine lv_istore_n (lv' := [(1, .int (0 : Int32)), (0, .ref (ad 130))]) hx hb dX12_town_96 rfl hl (by decide) rfl (fun ls hl => ?_)
    exact t_X12_town_l97 C sd_FU (0 : Int32) S_4 _ _ _ h X (lv_sub hl [1, 0] rfl)
  · have h := sd_ifn c_3 h
    refine lv_aload_n hx hb dX12_town_84 rfl (lv_at hl 0 rfl) ?_
    refine sd_g12_8 C X (by decide) sd_w18_21 dX12_town_85 ?_
    cases h
    exact sd_iret C X dX12_town_88
def f_X12_town_l45 : Nat → sd_St → Option (Int32 × sd_St)
  | 0 => fun _ => none
  | n + 1 => fun S => (if (S.1 130 8) = 0 then sd_ld S 132 (S.1 130 7) (fun v_7 => (if v_7 = 0 then f_X12_town_b77 S else sd_cl (f_X12_readLine S) (fun _ S_9 => sd_cl (f_X12_takeSign (59 : Int32) S_9) (fun _ S_11 => (f_X12_town_l45 n) S_11)))) else f_X12_town_b77 S)
set_option maxHeartbeats 4000000 in
set_option maxRecDepth 100000 in
theorem t_X12_town_l45 (C : sd_C RX12 cX12_town 2 (some .int) D cy ad A b0 p s m args meth c) {r : Int32} {S' : sd_St} : ∀ (n : Nat) (S : sd_St) (H : Heap) (locs : List Loc) (ls : Array Slot), f_X12_town_l45 n S = some (r, S') → sd_H D cy ad A s S H locs → lv_has ls 2 [(0, .ref (ad 130))] → W p l e (sd_rm 5) s m args below meth c H locs 0 0 (MQ below (sd_Qi D cy ad A r S') args s 0 0 A) (F0 m 45 ls []) := by
  obtain ⟨hx, hb, -, hml, hown, hts, -, hG⟩ := id C
  intro n
  induction n with
  | zero => intro S H locs ls h; cases h
  | succ n ih =>
    intro S H locs ls h X hl
    unfold f_X12_town_l45 at h
    refine lv_aload_n hx hb dX12_town_45 rfl (lv_at hl 0 rfl) ?_
    refine sd_g12_8 C X (by decide) sd_w18_21 dX12_town_46 ?_
    refine lv_if_ne (tgt := 77) hx hb dX12_town_49 (by decide) (fun c_6 => ?_) (fun c_6 => ?_)
    · have h := sd_ifn c_6 h
      exact t_X12_town_b77 C S _ _ _ h X (lv_sub hl [0] rfl)
    · have h := sd_ifp c_6 h
      refine lv_aload_n hx hb dX12_town_52 rfl (lv_at hl 0 rfl) ?_
      refine sd_g12_4 (k := 130) C X (by decide) sd_w7_14 dX12_town_53 ?_
      refine lv_aload_n hx hb dX12_town_56 rfl (lv_at hl 0 rfl) ?_
      refine sd_g12_7 C X (by decide) sd_w18_22 dX12_town_57 ?_
      obtain ⟨b_7, v_7, e_7, h⟩ := sd_ld_some h
      refine sd_iald C X (by decide) b_7 dX12_town_60 (sd_nmi e_7 ?_)
      refine lv_if_eq (tgt := 77) hx hb dX12_town_61 (by decide) (fun c_8 => ?_) (fun c_8 => ?_)
      · have h := sd_ifp c_8 h
        exact t_X12_town_b77 C S _ _ _ h X (lv_sub hl [0] rfl)
      · have h := sd_ifn c_8 h
        refine lv_aload_n hx hb dX12_town_64 rfl (lv_at hl 0 rfl) ?_
        obtain ⟨r_10, S_9, er_10, h⟩ := sd_cl_some h
        refine k_X12_readLine C X hl.1 er_10 sd_w19_19 (by decide) (Nat.le_of_ble_eq_true rfl) dX12_town_65 (fun H locs X => ?_)
        refine lv_aload_n hx hb dX12_town_68 rfl (lv_at hl 0 rfl) ?_
        refine lv_bipush (v := (59 : Int32)) hx hb dX12_town_69 (by decide) ?_
        obtain ⟨r_12, S_11, er_12, h⟩ := sd_cl_some h
        refine k_X12_takeSign C X hl.1 er_12 sd_w22_23 (by decide) (Nat.le_of_ble_eq_true rfl) dX12_town_71 (fun H locs X => ?_)
        refine lv_goto (tgt := 45) hx hb dX12_town_74 (by decide) ?_
        exact ih S_11 _ _ _ h X (lv_sub hl [0] rfl)
def f_X12_town_l21 : Nat → Int32 → sd_St → Option (Int32 × sd_St)
  | 0 => fun _ _ => none
  | n + 1 => fun x1 S => (if (170 : Int32) ≤ x1 then f_X12_town_l45 sd_FU S else sd_st S 136 ((170 : Int32) + x1) (0 : Int32) (fun S_14 => (f_X12_town_l21 n) (x1 + (1 : Int32)) S_14))
set_option maxHeartbeats 4000000 in
set_option maxRecDepth 100000 in
theorem t_X12_town_l21 (C : sd_C RX12 cX12_town 2 (some .int) D cy ad A b0 p s m args meth c) {r : Int32} {S' : sd_St} : ∀ (n : Nat) (x1 : Int32) (S : sd_St) (H : Heap) (locs : List Loc) (ls : Array Slot), f_X12_town_l21 n x1 S = some (r, S') → sd_H D cy ad A s S H locs → lv_has ls 2 [(0, .ref (ad 130)), (1, .int x1)] → W p l e (sd_rm 5) s m args below meth c H locs 0 0 (MQ below (sd_Qi D cy ad A r S') args s 0 0 A) (F0 m 21 ls []) := by
  obtain ⟨hx, hb, -, hml, hown, hts, -, hG⟩ := id C
  intro n
  induction n with
  | zero => intro x1 S H locs ls h; cases h
  | succ n ih =>
    intro x1 S H locs ls h X hl
    unfold f_X12_town_l21 at h
    refine lv_iload_n hx hb dX12_town_21 rfl (lv_at hl 1 rfl) ?_
    refine lv_sipush (v := (170 : Int32)) hx hb dX12_town_22 (by decide) ?_
    refine lv_icmp_ge (tgt := 45) hx hb dX12_town_25 (by decide) (fun c_13 => ?_) (fun c_13 => ?_)
    · have h := sd_ifp c_13 h
      exact t_X12_town_l45 C sd_FU S _ _ _ h X (lv_sub hl [0] rfl)
    · have h := sd_ifn c_13 h
      refine lv_aload_n hx hb dX12_town_28 rfl (lv_at hl 0 rfl) ?_
      refine sd_g12_10 (k := 130) C X (by decide) sd_w8_8 dX12_town_29 ?_
      refine lv_sipush (v := (170 : Int32)) hx hb dX12_town_32 (by decide) ?_
      refine lv_iload_n hx hb dX12_town_35 rfl (lv_at hl 1 rfl) ?_
      refine lv_iadd hx hb dX12_town_36 ?_
      refine lv_iconst (v := (0 : Int32)) hx hb dX12_town_37 (by decide) ?_
      obtain ⟨bS_14, S_14, eS_14, h⟩ := sd_st_some h
      refine sd_iast C X (by decide) bS_14 dX12_town_38 (fun H locs X => ?_)
      rw [← eS_14] at X
      refine lv_iinc (v := (x1 + (1 : Int32))) (lv' := [(1, .int (x1 + (1 : Int32))), (0, .ref (ad 130))]) hx hb dX12_town_39 hl (k := 1) rfl rfl (by decide) rfl (fun ls hl => ?_)
      refine lv_goto (tgt := 21) hx hb dX12_town_42 (by decide) ?_
      exact ih (x1 + (1 : Int32)) S_14 _ _ _ h X (lv_sub hl [1, 0] rfl)
def f_X12_town (S : sd_St) : Option (Int32 × sd_St) := sd_nm (sd_I S 130 0 (0 : Int32)) (fun S_15 => sd_cl (f_X12_cutAll S_15) (fun _ S_16 => sd_nm (sd_I S_16 130 13 (0 : Int32)) (fun S_18 => sd_nm (sd_I S_18 130 14 (0 : Int32)) (fun S_19 => f_X12_town_l21 sd_FU (0 : Int32) S_19))))
set_option maxHeartbeats 4000000 in
set_option maxRecDepth 100000 in
theorem c_X12_town {S S' : sd_St} {r : Int32} (h : f_X12_town S = some (r, S')) : Met l yX12_town (Cond.code yX12_town cX12_town 2 (some .int) :: sd_wl) (sd_rm 5) (sd_P D cy ad A b0 [.ref (ad 130)] S) (sd_Qi D cy ad A r S') 0 0 A := by
  refine sd_met (by decide) (Nat.le_of_ble_eq_true rfl) (fun p e s m args below meth c ls C X hl => ?_)
  obtain ⟨hx, hb, -, hml, hown, hts, -, hG⟩ := id C
  replace C : sd_C RX12 cX12_town 2 (some .int) D cy ad A b0 p s m args meth c := C
  replace hl : lv_has ls 2 [(0, .ref (ad 130))] := hl
  unfold f_X12_town at h
  refine lv_aload_n hx hb dX12_town_0 rfl (lv_at hl 0 rfl) ?_
  refine lv_iconst (v := (0 : Int32)) hx hb dX12_town_1 (by decide) ?_
  obtain ⟨S_15, eS_15, h⟩ := sd_nm_some h
  refine sd_p12_0 C X (by decide) sd_w9_3 dX12_town_2 (fun H locs X => ?_)
  rw [← eS_15] at X
  refine lv_aload_n hx hb dX12_town_5 rfl (lv_at hl 0 rfl) ?_
  obtain ⟨r_17, S_16, er_17, h⟩ := sd_cl_some h
  refine k_X12_cutAll C X hl.1 er_17 sd_w18_23 (by decide) (Nat.le_of_ble_eq_true rfl) dX12_town_6 (fun H locs X => ?_)
  refine lv_aload_n hx hb dX12_town_9 rfl (lv_at hl 0 rfl) ?_
  refine lv_iconst (v := (0 : Int32)) hx hb dX12_town_10 (by decide) ?_
  obtain ⟨S_18, eS_18, h⟩ := sd_nm_some h
  refine sd_p12_13 C X (by decide) sd_w18_19 dX12_town_11 (fun H locs X => ?_)
  rw [← eS_18] at X
  refine lv_aload_n hx hb dX12_town_14 rfl (lv_at hl 0 rfl) ?_
  refine lv_iconst (v := (0 : Int32)) hx hb dX12_town_15 (by decide) ?_
  obtain ⟨S_19, eS_19, h⟩ := sd_nm_some h
  refine sd_p12_14 C X (by decide) (by decide) sd_w18_20 dX12_town_16 (fun H locs X => ?_)
  rw [← eS_19] at X
  refine lv_iconst (v := (0 : Int32)) hx hb dX12_town_19 (by decide) ?_
  refine lv_istore_n (lv' := [(1, .int (0 : Int32)), (0, .ref (ad 130))]) hx hb dX12_town_20 rfl hl (by decide) rfl (fun ls hl => ?_)
  exact t_X12_town_l21 C sd_FU (0 : Int32) S_19 _ _ _ h X (lv_sub hl [1, 0] rfl)
theorem k_X12_town (C : sd_C own cc nL rt D cy ad A b0 p s m args meth c) (X : sd_H D cy ad A s S H locs) (hls : ls.size = nL) {S2 : sd_St} {r : Int32} (h : f_X12_town S = some (r, S2)) (hlink : Cond.methodLink own index yX12_town ∈ sd_wl) (hR : 6 ≤ R.frames ∧ 221 ≤ R.locals ∧ cells ≤ R.cells ∧ slots ≤ R.slots) (hst : (rest.map fun v => v.category).sum ≤ 8) (hdg : decode cc pc = .ok (.invokevirtual index, 3)) (kk : ∀ (H1 : Heap) (locs1 : List Loc), sd_H D cy ad A s S2 H1 locs1 → W p l e R s m args below meth c H1 locs1 cells slots Q (F0 m (pc + 3) ls (.int r :: rest))) : W p l e R s m args below meth c H locs cells slots Q (F0 m pc ls (.ref (ad 130) :: rest)) :=
  sd_goI X (sd_runV C X hls (n := 0) (k := 130) (As := []) (c_X12_town (l := l) (b0 := b0) h) (sd_goodV hlink sd_w18_16 sd_w18_17 sd_w1_5 sd_w18_18) (ci := 12) rfl (by rw [(show sd_kd 130 = 12 by decide)]; decide) (sd_c12 (show sd_kd 130 = 12 by decide)) (by decide +kernel) rfl hR rfl hst hdg) kk
/-! ===== SecretDaysModel.people()I ===== -/
def f_X12_people (S : sd_St) : Option (Int32 × sd_St) := sd_ld S 136 (2 : Int32) (fun v_1 => (some (v_1, S)))
set_option maxHeartbeats 4000000 in
set_option maxRecDepth 100000 in
theorem c_X12_people {S S' : sd_St} {r : Int32} (h : f_X12_people S = some (r, S')) : Met l yX12_people (Cond.code yX12_people cX12_people 1 (some .int) :: sd_wl) (sd_rm 0) (sd_P D cy ad A b0 [.ref (ad 130)] S) (sd_Qi D cy ad A r S') 0 0 A := by
  refine sd_met (by decide) (Nat.le_of_ble_eq_true rfl) (fun p e s m args below meth c ls C X hl => ?_)
  obtain ⟨hx, hb, -, hml, hown, hts, -, hG⟩ := id C
  replace C : sd_C RX12 cX12_people 1 (some .int) D cy ad A b0 p s m args meth c := C
  replace hl : lv_has ls 1 [(0, .ref (ad 130))] := hl
  unfold f_X12_people at h
  refine lv_aload_n hx hb dX12_people_0 rfl (lv_at hl 0 rfl) ?_
  refine sd_g12_10 (k := 130) C X (by decide) sd_w8_8 dX12_people_1 ?_
  refine lv_iconst (v := (2 : Int32)) hx hb dX12_people_4 (by decide) ?_
  obtain ⟨b_1, v_1, e_1, h⟩ := sd_ld_some h
  refine sd_iald C X (by decide) b_1 dX12_people_5 (sd_nmi e_1 ?_)
  cases h
  exact sd_iret C X dX12_people_6
theorem k_X12_people (C : sd_C own cc nL rt D cy ad A b0 p s m args meth c) (X : sd_H D cy ad A s S H locs) (hls : ls.size = nL) {S2 : sd_St} {r : Int32} (h : f_X12_people S = some (r, S2)) (hlink : Cond.methodLink own index yX12_people ∈ sd_wl) (hR : 1 ≤ R.frames ∧ 20 ≤ R.locals ∧ cells ≤ R.cells ∧ slots ≤ R.slots) (hst : (rest.map fun v => v.category).sum ≤ 8) (hdg : decode cc pc = .ok (.invokevirtual index, 3)) (kk : ∀ (H1 : Heap) (locs1 : List Loc), sd_H D cy ad A s S2 H1 locs1 → W p l e R s m args below meth c H1 locs1 cells slots Q (F0 m (pc + 3) ls (.int r :: rest))) : W p l e R s m args below meth c H locs cells slots Q (F0 m pc ls (.ref (ad 130) :: rest)) :=
  sd_goI X (sd_runV C X hls (n := 0) (k := 130) (As := []) (c_X12_people (l := l) (b0 := b0) h) (sd_goodV hlink sd_w24_19 sd_w24_20 sd_w1_5 sd_w24_21) (ci := 12) rfl (by rw [(show sd_kd 130 = 12 by decide)]; decide) (sd_c12 (show sd_kd 130 = 12 by decide)) (by decide +kernel) rfl hR rfl hst hdg) kk
/-! ===== SecretDaysModel.secrets()I ===== -/
def f_X12_secrets (S : sd_St) : Option (Int32 × sd_St) := sd_ld S 136 (88 : Int32) (fun v_1 => (some (v_1, S)))
set_option maxHeartbeats 4000000 in
set_option maxRecDepth 100000 in
theorem c_X12_secrets {S S' : sd_St} {r : Int32} (h : f_X12_secrets S = some (r, S')) : Met l yX12_secrets (Cond.code yX12_secrets cX12_secrets 1 (some .int) :: sd_wl) (sd_rm 0) (sd_P D cy ad A b0 [.ref (ad 130)] S) (sd_Qi D cy ad A r S') 0 0 A := by
  refine sd_met (by decide) (Nat.le_of_ble_eq_true rfl) (fun p e s m args below meth c ls C X hl => ?_)
  obtain ⟨hx, hb, -, hml, hown, hts, -, hG⟩ := id C
  replace C : sd_C RX12 cX12_secrets 1 (some .int) D cy ad A b0 p s m args meth c := C
  replace hl : lv_has ls 1 [(0, .ref (ad 130))] := hl
  unfold f_X12_secrets at h
  refine lv_aload_n hx hb dX12_secrets_0 rfl (lv_at hl 0 rfl) ?_
  refine sd_g12_10 (k := 130) C X (by decide) sd_w8_8 dX12_secrets_1 ?_
  refine lv_bipush (v := (88 : Int32)) hx hb dX12_secrets_4 (by decide) ?_
  obtain ⟨b_1, v_1, e_1, h⟩ := sd_ld_some h
  refine sd_iald C X (by decide) b_1 dX12_secrets_6 (sd_nmi e_1 ?_)
  cases h
  exact sd_iret C X dX12_secrets_7
theorem k_X12_secrets (C : sd_C own cc nL rt D cy ad A b0 p s m args meth c) (X : sd_H D cy ad A s S H locs) (hls : ls.size = nL) {S2 : sd_St} {r : Int32} (h : f_X12_secrets S = some (r, S2)) (hlink : Cond.methodLink own index yX12_secrets ∈ sd_wl) (hR : 1 ≤ R.frames ∧ 20 ≤ R.locals ∧ cells ≤ R.cells ∧ slots ≤ R.slots) (hst : (rest.map fun v => v.category).sum ≤ 8) (hdg : decode cc pc = .ok (.invokevirtual index, 3)) (kk : ∀ (H1 : Heap) (locs1 : List Loc), sd_H D cy ad A s S2 H1 locs1 → W p l e R s m args below meth c H1 locs1 cells slots Q (F0 m (pc + 3) ls (.int r :: rest))) : W p l e R s m args below meth c H locs cells slots Q (F0 m pc ls (.ref (ad 130) :: rest)) :=
  sd_goI X (sd_runV C X hls (n := 0) (k := 130) (As := []) (c_X12_secrets (l := l) (b0 := b0) h) (sd_goodV hlink sd_w31_20 sd_w31_21 sd_w1_5 sd_w31_22) (ci := 12) rfl (by rw [(show sd_kd 130 = 12 by decide)]; decide) (sd_c12 (show sd_kd 130 = 12 by decide)) (by decide +kernel) rfl hR rfl hst hdg) kk
/-! ===== SecretDaysModel.isPerson(I)Z ===== -/
def f_X12_isPerson (x1 : Int32) (S : sd_St) : Option (Int32 × sd_St) := (if x1 < 0 then (some ((0 : Int32), S)) else sd_cl (f_X12_people S) (fun r_3 S_2 => (if r_3 ≤ x1 then (some ((0 : Int32), S_2)) else (some ((1 : Int32), S_2)))))
set_option maxHeartbeats 4000000 in
set_option maxRecDepth 100000 in
theorem c_X12_isPerson {x1 : Int32} {S S' : sd_St} {r : Int32} (h : f_X12_isPerson x1 S = some (r, S')) : Met l yX12_isPerson (Cond.code yX12_isPerson cX12_isPerson 2 (some .boolean) :: sd_wl) (sd_rm 1) (sd_P D cy ad A b0 [.ref (ad 130), .int x1] S) (sd_Qi D cy ad A r S') 0 0 A := by
  refine sd_met (by decide) (Nat.le_of_ble_eq_true rfl) (fun p e s m args below meth c ls C X hl => ?_)
  obtain ⟨hx, hb, -, hml, hown, hts, -, hG⟩ := id C
  replace C : sd_C RX12 cX12_isPerson 2 (some .boolean) D cy ad A b0 p s m args meth c := C
  replace hl : lv_has ls 2 [(0, .ref (ad 130)), (1, .int x1)] := hl
  unfold f_X12_isPerson at h
  refine lv_iload_n hx hb dX12_isPerson_0 rfl (lv_at hl 1 rfl) ?_
  refine lv_if_lt (tgt := 16) hx hb dX12_isPerson_1 (by decide) (fun c_1 => ?_) (fun c_1 => ?_)
  · have h := sd_ifp c_1 h
    refine lv_iconst (v := (0 : Int32)) hx hb dX12_isPerson_16 (by decide) ?_
    cases h
    exact sd_zret C X (by decide) dX12_isPerson_17
  · have h := sd_ifn c_1 h
    refine lv_iload_n hx hb dX12_isPerson_4 rfl (lv_at hl 1 rfl) ?_
    refine lv_aload_n hx hb dX12_isPerson_5 rfl (lv_at hl 0 rfl) ?_
    obtain ⟨r_3, S_2, er_3, h⟩ := sd_cl_some h
    refine k_X12_people C X hl.1 er_3 sd_w24_18 (by decide) (Nat.le_of_ble_eq_true rfl) dX12_isPerson_6 (fun H locs X => ?_)
    refine lv_icmp_ge (tgt := 16) hx hb dX12_isPerson_9 (by decide) (fun c_4 => ?_) (fun c_4 => ?_)
    · have h := sd_ifp c_4 h
      refine lv_iconst (v := (0 : Int32)) hx hb dX12_isPerson_16 (by decide) ?_
      cases h
      exact sd_zret C X (by decide) dX12_isPerson_17
    · have h := sd_ifn c_4 h
      refine lv_iconst (v := (1 : Int32)) hx hb dX12_isPerson_12 (by decide) ?_
      refine lv_goto (tgt := 17) hx hb dX12_isPerson_13 (by decide) ?_
      cases h
      exact sd_zret C X (by decide) dX12_isPerson_17
theorem k_X12_isPerson (C : sd_C own cc nL rt D cy ad A b0 p s m args meth c) (X : sd_H D cy ad A s S H locs) (hls : ls.size = nL) {x1 : Int32} {S2 : sd_St} {r : Int32} (h : f_X12_isPerson x1 S = some (r, S2)) (hlink : Cond.methodLink own index yX12_isPerson ∈ sd_wl) (hR : 2 ≤ R.frames ∧ 61 ≤ R.locals ∧ cells ≤ R.cells ∧ slots ≤ R.slots) (hst : (rest.map fun v => v.category).sum ≤ 8) (hdg : decode cc pc = .ok (.invokevirtual index, 3)) (kk : ∀ (H1 : Heap) (locs1 : List Loc), sd_H D cy ad A s S2 H1 locs1 → W p l e R s m args below meth c H1 locs1 cells slots Q (F0 m (pc + 3) ls (.int r :: rest))) : W p l e R s m args below meth c H locs cells slots Q (F0 m pc ls (.int x1 :: .ref (ad 130) :: rest)) :=
  sd_goI X (sd_runV C X hls (n := 1) (k := 130) (As := [.int x1]) (c_X12_isPerson (l := l) (b0 := b0) h) (sd_goodV hlink sd_w24_15 sd_w24_16 sd_w1_5 sd_w24_17) (ci := 12) rfl (by rw [(show sd_kd 130 = 12 by decide)]; decide) (sd_c12 (show sd_kd 130 = 12 by decide)) (by decide +kernel) rfl hR rfl hst hdg) kk
/-! ===== SecretDaysModel.isSecret(I)Z ===== -/
def f_X12_isSecret (x1 : Int32) (S : sd_St) : Option (Int32 × sd_St) := (if x1 < 0 then (some ((0 : Int32), S)) else sd_cl (f_X12_secrets S) (fun r_3 S_2 => (if r_3 ≤ x1 then (some ((0 : Int32), S_2)) else (some ((1 : Int32), S_2)))))
set_option maxHeartbeats 4000000 in
set_option maxRecDepth 100000 in
theorem c_X12_isSecret {x1 : Int32} {S S' : sd_St} {r : Int32} (h : f_X12_isSecret x1 S = some (r, S')) : Met l yX12_isSecret (Cond.code yX12_isSecret cX12_isSecret 2 (some .boolean) :: sd_wl) (sd_rm 1) (sd_P D cy ad A b0 [.ref (ad 130), .int x1] S) (sd_Qi D cy ad A r S') 0 0 A := by
  refine sd_met (by decide) (Nat.le_of_ble_eq_true rfl) (fun p e s m args below meth c ls C X hl => ?_)
  obtain ⟨hx, hb, -, hml, hown, hts, -, hG⟩ := id C
  replace C : sd_C RX12 cX12_isSecret 2 (some .boolean) D cy ad A b0 p s m args meth c := C
  replace hl : lv_has ls 2 [(0, .ref (ad 130)), (1, .int x1)] := hl
  unfold f_X12_isSecret at h
  refine lv_iload_n hx hb dX12_isSecret_0 rfl (lv_at hl 1 rfl) ?_
  refine lv_if_lt (tgt := 16) hx hb dX12_isSecret_1 (by decide) (fun c_1 => ?_) (fun c_1 => ?_)
  · have h := sd_ifp c_1 h
    refine lv_iconst (v := (0 : Int32)) hx hb dX12_isSecret_16 (by decide) ?_
    cases h
    exact sd_zret C X (by decide) dX12_isSecret_17
  · have h := sd_ifn c_1 h
    refine lv_iload_n hx hb dX12_isSecret_4 rfl (lv_at hl 1 rfl) ?_
    refine lv_aload_n hx hb dX12_isSecret_5 rfl (lv_at hl 0 rfl) ?_
    obtain ⟨r_3, S_2, er_3, h⟩ := sd_cl_some h
    refine k_X12_secrets C X hl.1 er_3 sd_w31_19 (by decide) (Nat.le_of_ble_eq_true rfl) dX12_isSecret_6 (fun H locs X => ?_)
    refine lv_icmp_ge (tgt := 16) hx hb dX12_isSecret_9 (by decide) (fun c_4 => ?_) (fun c_4 => ?_)
    · have h := sd_ifp c_4 h
      refine lv_iconst (v := (0 : Int32)) hx hb dX12_isSecret_16 (by decide) ?_
      cases h
      exact sd_zret C X (by decide) dX12_isSecret_17
    · have h := sd_ifn c_4 h
      refine lv_iconst (v := (1 : Int32)) hx hb dX12_isSecret_12 (by decide) ?_
      refine lv_goto (tgt := 17) hx hb dX12_isSecret_13 (by decide) ?_
      cases h
      exact sd_zret C X (by decide) dX12_isSecret_17
theorem k_X12_isSecret (C : sd_C own cc nL rt D cy ad A b0 p s m args meth c) (X : sd_H D cy ad A s S H locs) (hls : ls.size = nL) {x1 : Int32} {S2 : sd_St} {r : Int32} (h : f_X12_isSecret x1 S = some (r, S2)) (hlink : Cond.methodLink own index yX12_isSecret ∈ sd_wl) (hR : 2 ≤ R.frames ∧ 61 ≤ R.locals ∧ cells ≤ R.cells ∧ slots ≤ R.slots) (hst : (rest.map fun v => v.category).sum ≤ 8) (hdg : decode cc pc = .ok (.invokevirtual index, 3)) (kk : ∀ (H1 : Heap) (locs1 : List Loc), sd_H D cy ad A s S2 H1 locs1 → W p l e R s m args below meth c H1 locs1 cells slots Q (F0 m (pc + 3) ls (.int r :: rest))) : W p l e R s m args below meth c H locs cells slots Q (F0 m pc ls (.int x1 :: .ref (ad 130) :: rest)) :=
  sd_goI X (sd_runV C X hls (n := 1) (k := 130) (As := [.int x1]) (c_X12_isSecret (l := l) (b0 := b0) h) (sd_goodV hlink sd_w31_16 sd_w31_17 sd_w1_5 sd_w31_18) (ci := 12) rfl (by rw [(show sd_kd 130 = 12 by decide)]; decide) (sd_c12 (show sd_kd 130 = 12 by decide)) (by decide +kernel) rfl hR rfl hst hdg) kk
/-! ===== SecretDaysModel.isDate(I)Z ===== -/
def f_X12_isDate (x0 : Int32) (S : sd_St) : Option (Int32 × sd_St) := (if x0 < 0 then (some ((0 : Int32), S)) else (if (4392 : Int32) ≤ x0 then (some ((0 : Int32), S)) else (some ((1 : Int32), S))))
set_option maxHeartbeats 4000000 in
set_option maxRecDepth 100000 in
theorem c_X12_isDate {x0 : Int32} {S S' : sd_St} {r : Int32} (h : f_X12_isDate x0 S = some (r, S')) : Met l yX12_isDate (Cond.code yX12_isDate cX12_isDate 1 (some .boolean) :: sd_wl) (sd_rm 0) (sd_P D cy ad A b0 [.int x0] S) (sd_Qi D cy ad A r S') 0 0 A := by
  refine sd_met (by decide) (Nat.le_of_ble_eq_true rfl) (fun p e s m args below meth c ls C X hl => ?_)
  obtain ⟨hx, hb, -, hml, hown, hts, -, hG⟩ := id C
  replace C : sd_C RX12 cX12_isDate 1 (some .boolean) D cy ad A b0 p s m args meth c := C
  replace hl : lv_has ls 1 [(0, .int x0)] := hl
  unfold f_X12_isDate at h
  refine lv_iload_n hx hb dX12_isDate_0 rfl (lv_at hl 0 rfl) ?_
  refine lv_if_lt (tgt := 15) hx hb dX12_isDate_1 (by decide) (fun c_1 => ?_) (fun c_1 => ?_)
  · have h := sd_ifp c_1 h
    refine lv_iconst (v := (0 : Int32)) hx hb dX12_isDate_15 (by decide) ?_
    cases h
    exact sd_zret C X (by decide) dX12_isDate_16
  · have h := sd_ifn c_1 h
    refine lv_iload_n hx hb dX12_isDate_4 rfl (lv_at hl 0 rfl) ?_
    refine lv_sipush (v := (4392 : Int32)) hx hb dX12_isDate_5 (by decide) ?_
    refine lv_icmp_ge (tgt := 15) hx hb dX12_isDate_8 (by decide) (fun c_2 => ?_) (fun c_2 => ?_)
    · have h := sd_ifp c_2 h
      refine lv_iconst (v := (0 : Int32)) hx hb dX12_isDate_15 (by decide) ?_
      cases h
      exact sd_zret C X (by decide) dX12_isDate_16
    · have h := sd_ifn c_2 h
      refine lv_iconst (v := (1 : Int32)) hx hb dX12_isDate_11 (by decide) ?_
      refine lv_goto (tgt := 16) hx hb dX12_isDate_12 (by decide) ?_
      cases h
      exact sd_zret C X (by decide) dX12_isDate_16
theorem k_X12_isDate (C : sd_C own cc nL rt D cy ad A b0 p s m args meth c) (X : sd_H D cy ad A s S H locs) (hls : ls.size = nL) {x0 : Int32} {S2 : sd_St} {r : Int32} (h : f_X12_isDate x0 S = some (r, S2)) (hlink : Cond.methodLink own index yX12_isDate ∈ sd_wl) (hR : 1 ≤ R.frames ∧ 20 ≤ R.locals ∧ cells ≤ R.cells ∧ slots ≤ R.slots) (hst : (rest.map fun v => v.category).sum ≤ 8) (hdg : decode cc pc = .ok (.invokestatic index, 3)) (kk : ∀ (H1 : Heap) (locs1 : List Loc), sd_H D cy ad A s S2 H1 locs1 → W p l e R s m args below meth c H1 locs1 cells slots Q (F0 m (pc + 3) ls (.int r :: rest))) : W p l e R s m args below meth c H locs cells slots Q (F0 m pc ls (.int x0 :: rest)) :=
  sd_goI X (sd_runJ C X hls (n := 1) (As := [.int x0]) (c_X12_isDate (l := l) (b0 := b0) h) hlink sd_w26_2 sd_w1_5 sd_w26_3 (by decide +kernel) rfl hR rfl hst hdg) kk
/-! ===== SecretDaysModel.isThere(I)Z ===== -/
def f_X12_isThere (x1 : Int32) (S : sd_St) : Option (Int32 × sd_St) := sd_cl (f_X12_isDate x1 S) (fun r_2 S_1 => (if r_2 = 0 then (some ((0 : Int32), S_1)) else (if (sd_rem x1 (366 : Int32)) = (59 : Int32) then sd_ld S_1 136 (0 : Int32) (fun v_5 => (if (sd_rem (x1 / (366 : Int32)) (4 : Int32)) = v_5 then (some ((1 : Int32), S_1)) else (some ((0 : Int32), S_1)))) else (some ((1 : Int32), S_1)))))
set_option maxHeartbeats 4000000 in
set_option maxRecDepth 100000 in
theorem c_X12_isThere {x1 : Int32} {S S' : sd_St} {r : Int32} (h : f_X12_isThere x1 S = some (r, S')) : Met l yX12_isThere (Cond.code yX12_isThere cX12_isThere 2 (some .boolean) :: sd_wl) (sd_rm 1) (sd_P D cy ad A b0 [.ref (ad 130), .int x1] S) (sd_Qi D cy ad A r S') 0 0 A := by
  refine sd_met (by decide) (Nat.le_of_ble_eq_true rfl) (fun p e s m args below meth c ls C X hl => ?_)
  obtain ⟨hx, hb, -, hml, hown, hts, -, hG⟩ := id C
  replace C : sd_C RX12 cX12_isThere 2 (some .boolean) D cy ad A b0 p s m args meth c := C
  replace hl : lv_has ls 2 [(0, .ref (ad 130)), (1, .int x1)] := hl
  unfold f_X12_isThere at h
  refine lv_iload_n hx hb dX12_isThere_0 rfl (lv_at hl 1 rfl) ?_
  obtain ⟨r_2, S_1, er_2, h⟩ := sd_cl_some h
  refine k_X12_isDate C X hl.1 er_2 sd_w26_1 (by decide) (Nat.le_of_ble_eq_true rfl) dX12_isThere_1 (fun H locs X => ?_)
  refine lv_if_eq (tgt := 37) hx hb dX12_isThere_4 (by decide) (fun c_3 => ?_) (fun c_3 => ?_)
  · have h := sd_ifp c_3 h
    refine lv_iconst (v := (0 : Int32)) hx hb dX12_isThere_37 (by decide) ?_
    cases h
    exact sd_zret C X (by decide) dX12_isThere_38
  · have h := sd_ifn c_3 h
    refine lv_iload_n hx hb dX12_isThere_7 rfl (lv_at hl 1 rfl) ?_
    refine lv_sipush (v := (366 : Int32)) hx hb dX12_isThere_8 (by decide) ?_
    refine lv_irem hx hb dX12_isThere_11 (by decide) ?_
    refine lv_bipush (v := (59 : Int32)) hx hb dX12_isThere_12 (by decide) ?_
    refine lv_icmp_ne (tgt := 33) hx hb dX12_isThere_14 (by decide) (fun c_4 => ?_) (fun c_4 => ?_)
    · have h := sd_ifn c_4 h
      refine lv_iconst (v := (1 : Int32)) hx hb dX12_isThere_33 (by decide) ?_
      refine lv_goto (tgt := 38) hx hb dX12_isThere_34 (by decide) ?_
      cases h
      exact sd_zret C X (by decide) dX12_isThere_38
    · have h := sd_ifp c_4 h
      refine lv_iload_n hx hb dX12_isThere_17 rfl (lv_at hl 1 rfl) ?_
      refine lv_sipush (v := (366 : Int32)) hx hb dX12_isThere_18 (by decide) ?_
      refine lv_idiv hx hb dX12_isThere_21 (by decide) ?_
      refine lv_iconst (v := (4 : Int32)) hx hb dX12_isThere_22 (by decide) ?_
      refine lv_irem hx hb dX12_isThere_23 (by decide) ?_
      refine lv_aload_n hx hb dX12_isThere_24 rfl (lv_at hl 0 rfl) ?_
      refine sd_g12_10 (k := 130) C X (by decide) sd_w8_8 dX12_isThere_25 ?_
      refine lv_iconst (v := (0 : Int32)) hx hb dX12_isThere_28 (by decide) ?_
      obtain ⟨b_5, v_5, e_5, h⟩ := sd_ld_some h
      refine sd_iald C X (by decide) b_5 dX12_isThere_29 (sd_nmi e_5 ?_)
      refine lv_icmp_ne (tgt := 37) hx hb dX12_isThere_30 (by decide) (fun c_6 => ?_) (fun c_6 => ?_)
      · have h := sd_ifn c_6 h
        refine lv_iconst (v := (0 : Int32)) hx hb dX12_isThere_37 (by decide) ?_
        cases h
        exact sd_zret C X (by decide) dX12_isThere_38
      · have h := sd_ifp c_6 h
        refine lv_iconst (v := (1 : Int32)) hx hb dX12_isThere_33 (by decide) ?_
        refine lv_goto (tgt := 38) hx hb dX12_isThere_34 (by decide) ?_
        cases h
        exact sd_zret C X (by decide) dX12_isThere_38
theorem k_X12_isThere (C : sd_C own cc nL rt D cy ad A b0 p s m args meth c) (X : sd_H D cy ad A s S H locs) (hls : ls.size = nL) {x1 : Int32} {S2 : sd_St} {r : Int32} (h : f_X12_isThere x1 S = some (r, S2)) (hlink : Cond.methodLink own index yX12_isThere ∈ sd_wl) (hR : 2 ≤ R.frames ∧ 61 ≤ R.locals ∧ cells ≤ R.cells ∧ slots ≤ R.slots) (hst : (rest.map fun v => v.category).sum ≤ 8) (hdg : decode cc pc = .ok (.invokevirtual index, 3)) (kk : ∀ (H1 : Heap) (locs1 : List Loc), sd_H D cy ad A s S2 H1 locs1 → W p l e R s m args below meth c H1 locs1 cells slots Q (F0 m (pc + 3) ls (.int r :: rest))) : W p l e R s m args below meth c H locs cells slots Q (F0 m pc ls (.int x1 :: .ref (ad 130) :: rest)) :=
  sd_goI X (sd_runV C X hls (n := 1) (k := 130) (As := [.int x1]) (c_X12_isThere (l := l) (b0 := b0) h) (sd_goodV hlink sd_w25_22 sd_w25_23 sd_w1_5 sd_w26_0) (ci := 12) rfl (by rw [(show sd_kd 130 = 12 by decide)]; decide) (sd_c12 (show sd_kd 130 = 12 by decide)) (by decide +kernel) rfl hR rfl hst hdg) kk
/-! ===== SecretDaysModel.bornOf(I)I ===== -/
def f_X12_bornOf (x1 : Int32) (S : sd_St) : Option (Int32 × sd_St) := sd_ld S 136 ((3 : Int32) + ((4 : Int32) * x1)) (fun v_1 => (some (v_1, S)))
set_option maxHeartbeats 4000000 in
set_option maxRecDepth 100000 in
theorem c_X12_bornOf {x1 : Int32} {S S' : sd_St} {r : Int32} (h : f_X12_bornOf x1 S = some (r, S')) : Met l yX12_bornOf (Cond.code yX12_bornOf cX12_bornOf 2 (some .int) :: sd_wl) (sd_rm 0) (sd_P D cy ad A b0 [.ref (ad 130), .int x1] S) (sd_Qi D cy ad A r S') 0 0 A := by
  refine sd_met (by decide) (Nat.le_of_ble_eq_true rfl) (fun p e s m args below meth c ls C X hl => ?_)
  obtain ⟨hx, hb, -, hml, hown, hts, -, hG⟩ := id C
  replace C : sd_C RX12 cX12_bornOf 2 (some .int) D cy ad A b0 p s m args meth c := C
  replace hl : lv_has ls 2 [(0, .ref (ad 130)), (1, .int x1)] := hl
  unfold f_X12_bornOf at h
  refine lv_aload_n hx hb dX12_bornOf_0 rfl (lv_at hl 0 rfl) ?_
  refine sd_g12_10 (k := 130) C X (by decide) sd_w8_8 dX12_bornOf_1 ?_
  refine lv_iconst (v := (3 : Int32)) hx hb dX12_bornOf_4 (by decide) ?_
  refine lv_iconst (v := (4 : Int32)) hx hb dX12_bornOf_5 (by decide) ?_
  refine lv_iload_n hx hb dX12_bornOf_6 rfl (lv_at hl 1 rfl) ?_
  refine lv_imul hx hb dX12_bornOf_7 ?_
  refine lv_iadd hx hb dX12_bornOf_8 ?_
  obtain ⟨b_1, v_1, e_1, h⟩ := sd_ld_some h
  refine sd_iald C X (by decide) b_1 dX12_bornOf_9 (sd_nmi e_1 ?_)
  cases h
  exact sd_iret C X dX12_bornOf_10
theorem k_X12_bornOf (C : sd_C own cc nL rt D cy ad A b0 p s m args meth c) (X : sd_H D cy ad A s S H locs) (hls : ls.size = nL) {x1 : Int32} {S2 : sd_St} {r : Int32} (h : f_X12_bornOf x1 S = some (r, S2)) (hlink : Cond.methodLink own index yX12_bornOf ∈ sd_wl) (hR : 1 ≤ R.frames ∧ 21 ≤ R.locals ∧ cells ≤ R.cells ∧ slots ≤ R.slots) (hst : (rest.map fun v => v.category).sum ≤ 8) (hdg : decode cc pc = .ok (.invokevirtual index, 3)) (kk : ∀ (H1 : Heap) (locs1 : List Loc), sd_H D cy ad A s S2 H1 locs1 → W p l e R s m args below meth c H1 locs1 cells slots Q (F0 m (pc + 3) ls (.int r :: rest))) : W p l e R s m args below meth c H locs cells slots Q (F0 m pc ls (.int x1 :: .ref (ad 130) :: rest)) :=
  sd_goI X (sd_runV C X hls (n := 1) (k := 130) (As := [.int x1]) (c_X12_bornOf (l := l) (b0 := b0) h) (sd_goodV hlink sd_w27_14 sd_w27_15 sd_w1_5 sd_w27_16) (ci := 12) rfl (by rw [(show sd_kd 130 = 12 by decide)]; decide) (sd_c12 (show sd_kd 130 = 12 by decide)) (by decide +kernel) rfl hR rfl hst hdg) kk
/-! ===== SecretDaysModel.callers(I)I ===== -/
def f_X12_callers (x1 : Int32) (S : sd_St) : Option (Int32 × sd_St) := sd_ld S 136 (((3 : Int32) + ((4 : Int32) * x1)) + (3 : Int32)) (fun v_1 => (some (v_1, S)))
set_option maxHeartbeats 4000000 in
set_option maxRecDepth 100000 in
theorem c_X12_callers {x1 : Int32} {S S' : sd_St} {r : Int32} (h : f_X12_callers x1 S = some (r, S')) : Met l yX12_callers (Cond.code yX12_callers cX12_callers 2 (some .int) :: sd_wl) (sd_rm 0) (sd_P D cy ad A b0 [.ref (ad 130), .int x1] S) (sd_Qi D cy ad A r S') 0 0 A := by
  refine sd_met (by decide) (Nat.le_of_ble_eq_true rfl) (fun p e s m args below meth c ls C X hl => ?_)
  obtain ⟨hx, hb, -, hml, hown, hts, -, hG⟩ := id C
  replace C : sd_C RX12 cX12_callers 2 (some .int) D cy ad A b0 p s m args meth c := C
  replace hl : lv_has ls 2 [(0, .ref (ad 130)), (1, .int x1)] := hl
  unfold f_X12_callers at h
  refine lv_aload_n hx hb dX12_callers_0 rfl (lv_at hl 0 rfl) ?_
  refine sd_g12_10 (k := 130) C X (by decide) sd_w8_8 dX12_callers_1 ?_
  refine lv_iconst (v := (3 : Int32)) hx hb dX12_callers_4 (by decide) ?_
  refine lv_iconst (v := (4 : Int32)) hx hb dX12_callers_5 (by decide) ?_
  refine lv_iload_n hx hb dX12_callers_6 rfl (lv_at hl 1 rfl) ?_
  refine lv_imul hx hb dX12_callers_7 ?_
  refine lv_iadd hx hb dX12_callers_8 ?_
  refine lv_iconst (v := (3 : Int32)) hx hb dX12_callers_9 (by decide) ?_
  refine lv_iadd hx hb dX12_callers_10 ?_
  obtain ⟨b_1, v_1, e_1, h⟩ := sd_ld_some h
  refine sd_iald C X (by decide) b_1 dX12_callers_11 (sd_nmi e_1 ?_)
  cases h
  exact sd_iret C X dX12_callers_12
theorem k_X12_callers (C : sd_C own cc nL rt D cy ad A b0 p s m args meth c) (X : sd_H D cy ad A s S H locs) (hls : ls.size = nL) {x1 : Int32} {S2 : sd_St} {r : Int32} (h : f_X12_callers x1 S = some (r, S2)) (hlink : Cond.methodLink own index yX12_callers ∈ sd_wl) (hR : 1 ≤ R.frames ∧ 21 ≤ R.locals ∧ cells ≤ R.cells ∧ slots ≤ R.slots) (hst : (rest.map fun v => v.category).sum ≤ 8) (hdg : decode cc pc = .ok (.invokevirtual index, 3)) (kk : ∀ (H1 : Heap) (locs1 : List Loc), sd_H D cy ad A s S2 H1 locs1 → W p l e R s m args below meth c H1 locs1 cells slots Q (F0 m (pc + 3) ls (.int r :: rest))) : W p l e R s m args below meth c H locs cells slots Q (F0 m pc ls (.int x1 :: .ref (ad 130) :: rest)) :=
  sd_goI X (sd_runV C X hls (n := 1) (k := 130) (As := [.int x1]) (c_X12_callers (l := l) (b0 := b0) h) (sd_goodV hlink sd_w25_6 sd_w25_7 sd_w1_5 sd_w25_8) (ci := 12) rfl (by rw [(show sd_kd 130 = 12 by decide)]; decide) (sd_c12 (show sd_kd 130 = 12 by decide)) (by decide +kernel) rfl hR rfl hst hdg) kk
/-! ===== SecretDaysModel.calls(II)Z ===== -/
def f_X12_calls (x1 : Int32) (x2 : Int32) (S : sd_St) : Option (Int32 × sd_St) := sd_cl (f_X12_callers x2 S) (fun r_2 S_1 => (if ((r_2 >>> (x1 &&& 31)) &&& (1 : Int32)) = (1 : Int32) then (some ((1 : Int32), S_1)) else (some ((0 : Int32), S_1))))
set_option maxHeartbeats 4000000 in
set_option maxRecDepth 100000 in
theorem c_X12_calls {x1 : Int32} {x2 : Int32} {S S' : sd_St} {r : Int32} (h : f_X12_calls x1 x2 S = some (r, S')) : Met l yX12_calls (Cond.code yX12_calls cX12_calls 3 (some .boolean) :: sd_wl) (sd_rm 1) (sd_P D cy ad A b0 [.ref (ad 130), .int x1, .int x2] S) (sd_Qi D cy ad A r S') 0 0 A := by
  refine sd_met (by decide) (Nat.le_of_ble_eq_true rfl) (fun p e s m args below meth c ls C X hl => ?_)
  obtain ⟨hx, hb, -, hml, hown, hts, -, hG⟩ := id C
  replace C : sd_C RX12 cX12_calls 3 (some .boolean) D cy ad A b0 p s m args meth c := C
  replace hl : lv_has ls 3 [(0, .ref (ad 130)), (1, .int x1), (2, .int x2)] := hl
  unfold f_X12_calls at h
  refine lv_aload_n hx hb dX12_calls_0 rfl (lv_at hl 0 rfl) ?_
  refine lv_iload_n hx hb dX12_calls_1 rfl (lv_at hl 2 rfl) ?_
  obtain ⟨r_2, S_1, er_2, h⟩ := sd_cl_some h
  refine k_X12_callers C X hl.1 er_2 sd_w25_5 (by decide) (Nat.le_of_ble_eq_true rfl) dX12_calls_2 (fun H locs X => ?_)
  refine lv_iload_n hx hb dX12_calls_5 rfl (lv_at hl 1 rfl) ?_
  refine lv_ishr hx hb dX12_calls_6 ?_
  refine lv_iconst (v := (1 : Int32)) hx hb dX12_calls_7 (by decide) ?_
  refine lv_iand hx hb dX12_calls_8 ?_
  refine lv_iconst (v := (1 : Int32)) hx hb dX12_calls_9 (by decide) ?_
  refine lv_icmp_ne (tgt := 17) hx hb dX12_calls_10 (by decide) (fun c_3 => ?_) (fun c_3 => ?_)
  · have h := sd_ifn c_3 h
    refine lv_iconst (v := (0 : Int32)) hx hb dX12_calls_17 (by decide) ?_
    cases h
    exact sd_zret C X (by decide) dX12_calls_18
  · have h := sd_ifp c_3 h
    refine lv_iconst (v := (1 : Int32)) hx hb dX12_calls_13 (by decide) ?_
    refine lv_goto (tgt := 18) hx hb dX12_calls_14 (by decide) ?_
    cases h
    exact sd_zret C X (by decide) dX12_calls_18
theorem k_X12_calls (C : sd_C own cc nL rt D cy ad A b0 p s m args meth c) (X : sd_H D cy ad A s S H locs) (hls : ls.size = nL) {x1 : Int32} {x2 : Int32} {S2 : sd_St} {r : Int32} (h : f_X12_calls x1 x2 S = some (r, S2)) (hlink : Cond.methodLink own index yX12_calls ∈ sd_wl) (hR : 2 ≤ R.frames ∧ 62 ≤ R.locals ∧ cells ≤ R.cells ∧ slots ≤ R.slots) (hst : (rest.map fun v => v.category).sum ≤ 8) (hdg : decode cc pc = .ok (.invokevirtual index, 3)) (kk : ∀ (H1 : Heap) (locs1 : List Loc), sd_H D cy ad A s S2 H1 locs1 → W p l e R s m args below meth c H1 locs1 cells slots Q (F0 m (pc + 3) ls (.int r :: rest))) : W p l e R s m args below meth c H locs cells slots Q (F0 m pc ls (.int x2 :: .int x1 :: .ref (ad 130) :: rest)) :=
  sd_goI X (sd_runV C X hls (n := 2) (k := 130) (As := [.int x1, .int x2]) (c_X12_calls (l := l) (b0 := b0) h) (sd_goodV hlink sd_w25_2 sd_w25_3 sd_w1_5 sd_w25_4) (ci := 12) rfl (by rw [(show sd_kd 130 = 12 by decide)]; decide) (sd_c12 (show sd_kd 130 = 12 by decide)) (by decide +kernel) rfl hR rfl hst hdg) kk
/-! ===== SecretDaysModel.isGone(II)Z ===== -/
def f_X12_isGone_b72 (q5 : (Int32 → Int32 → Int32 → Int32 → sd_St → Option (Int32 × sd_St))) (x1 : Int32) (x2 : Int32) (x4 : Int32) (w0 : Int32) (S : sd_St) : Option (Int32 × sd_St) := q5 x1 x2 w0 (x4 + (1 : Int32)) S
set_option maxHeartbeats 4000000 in
set_option maxRecDepth 100000 in
theorem t_X12_isGone_b72 (C : sd_C RX12 cX12_isGone 6 (some .boolean) D cy ad A b0 p s m args meth c) {r : Int32} {S' : sd_St} {q5 : (Int32 → Int32 → Int32 → Int32 → sd_St → Option (Int32 × sd_St))} (hq5 : ∀ (x1 : Int32) (x2 : Int32) (x3 : Int32) (x4 : Int32) (S : sd_St) (H : Heap) (locs : List Loc) (ls : Array Slot), q5 x1 x2 x3 x4 S = some (r, S') → sd_H D cy ad A s S H locs → lv_has ls 6 [(0, .ref (ad 130)), (1, .int x1), (2, .int x2), (3, .int x3), (4, .int x4)] → W p l e (sd_rm 0) s m args below meth c H locs 0 0 (MQ below (sd_Qi D cy ad A r S') args s 0 0 A) (F0 m 5 ls [])) : ∀ (x1 : Int32) (x2 : Int32) (x4 : Int32) (w0 : Int32) (S : sd_St) (H : Heap) (locs : List Loc) (ls : Array Slot), f_X12_isGone_b72 q5 x1 x2 x4 w0 S = some (r, S') → sd_H D cy ad A s S H locs → lv_has ls 6 [(0, .ref (ad 130)), (1, .int x1), (2, .int x2), (4, .int x4)] → W p l e (sd_rm 0) s m args below meth c H locs 0 0 (MQ below (sd_Qi D cy ad A r S') args s 0 0 A) (F0 m 72 ls [.int w0]) := by
  obtain ⟨hx, hb, -, hml, hown, hts, -, hG⟩ := id C
  intro x1 x2 x4 w0 S H locs ls h X hl
  unfold f_X12_isGone_b72 at h
  refine lv_istore_n (lv' := [(3, .int w0), (0, .ref (ad 130)), (1, .int x1), (2, .int x2), (4, .int x4)]) hx hb dX12_isGone_72 rfl hl (by decide) rfl (fun ls hl => ?_)
  refine lv_iinc (v := (x4 + (1 : Int32))) (lv' := [(4, .int (x4 + (1 : Int32))), (3, .int w0), (0, .ref (ad 130)), (1, .int x1), (2, .int x2)]) hx hb dX12_isGone_73 hl (k := 4) rfl rfl (by decide) rfl (fun ls hl => ?_)
  refine lv_goto (tgt := 5) hx hb dX12_isGone_76 (by decide) ?_
  exact hq5 x1 x2 w0 (x4 + (1 : Int32)) S _ _ _ h X (lv_sub hl [2, 3, 4, 1, 0] rfl)
def f_X12_isGone_b67 (q5 : (Int32 → Int32 → Int32 → Int32 → sd_St → Option (Int32 × sd_St))) (x1 : Int32) (x2 : Int32) (x4 : Int32) (S : sd_St) : Option (Int32 × sd_St) := f_X12_isGone_b72 q5 x1 x2 x4 (1 : Int32) S
set_option maxHeartbeats 4000000 in
set_option maxRecDepth 100000 in
theorem t_X12_isGone_b67 (C : sd_C RX12 cX12_isGone 6 (some .boolean) D cy ad A b0 p s m args meth c) {r : Int32} {S' : sd_St} {q5 : (Int32 → Int32 → Int32 → Int32 → sd_St → Option (Int32 × sd_St))} (hq5 : ∀ (x1 : Int32) (x2 : Int32) (x3 : Int32) (x4 : Int32) (S : sd_St) (H : Heap) (locs : List Loc) (ls : Array Slot), q5 x1 x2 x3 x4 S = some (r, S') → sd_H D cy ad A s S H locs → lv_has ls 6 [(0, .ref (ad 130)), (1, .int x1), (2, .int x2), (3, .int x3), (4, .int x4)] → W p l e (sd_rm 0) s m args below meth c H locs 0 0 (MQ below (sd_Qi D cy ad A r S') args s 0 0 A) (F0 m 5 ls [])) : ∀ (x1 : Int32) (x2 : Int32) (x4 : Int32) (S : sd_St) (H : Heap) (locs : List Loc) (ls : Array Slot), f_X12_isGone_b67 q5 x1 x2 x4 S = some (r, S') → sd_H D cy ad A s S H locs → lv_has ls 6 [(0, .ref (ad 130)), (1, .int x1), (2, .int x2), (4, .int x4)] → W p l e (sd_rm 0) s m args below meth c H locs 0 0 (MQ below (sd_Qi D cy ad A r S') args s 0 0 A) (F0 m 67 ls []) := by
  obtain ⟨hx, hb, -, hml, hown, hts, -, hG⟩ := id C
  intro x1 x2 x4 S H locs ls h X hl
  unfold f_X12_isGone_b67 at h
  refine lv_iconst (v := (1 : Int32)) hx hb dX12_isGone_67 (by decide) ?_
  refine lv_goto (tgt := 72) hx hb dX12_isGone_68 (by decide) ?_
  exact t_X12_isGone_b72 C hq5 x1 x2 x4 (1 : Int32) S _ _ _ h X (lv_sub hl [0, 1, 2, 3] rfl)
def f_X12_isGone_b71 (q5 : (Int32 → Int32 → Int32 → Int32 → sd_St → Option (Int32 × sd_St))) (x1 : Int32) (x2 : Int32) (x4 : Int32) (S : sd_St) : Option (Int32 × sd_St) := f_X12_isGone_b72 q5 x1 x2 x4 (0 : Int32) S
set_option maxHeartbeats 4000000 in
set_option maxRecDepth 100000 in
theorem t_X12_isGone_b71 (C : sd_C RX12 cX12_isGone 6 (some .boolean) D cy ad A b0 p s m args meth c) {r : Int32} {S' : sd_St} {q5 : (Int32 → Int32 → Int32 → Int32 → sd_St → Option (Int32 × sd_St))} (hq5 : ∀ (x1 : Int32) (x2 : Int32) (x3 : Int32) (x4 : Int32) (S : sd_St) (H : Heap) (locs : List Loc) (ls : Array Slot), q5 x1 x2 x3 x4 S = some (r, S') → sd_H D cy ad A s S H locs → lv_has ls 6 [(0, .ref (ad 130)), (1, .int x1), (2, .int x2), (3, .int x3), (4, .int x4)] → W p l e (sd_rm 0) s m args below meth c H locs 0 0 (MQ below (sd_Qi D cy ad A r S') args s 0 0 A) (F0 m 5 ls [])) : ∀ (x1 : Int32) (x2 : Int32) (x4 : Int32) (S : sd_St) (H : Heap) (locs : List Loc) (ls : Array Slot), f_X12_isGone_b71 q5 x1 x2 x4 S = some (r, S') → sd_H D cy ad A s S H locs → lv_has ls 6 [(0, .ref (ad 130)), (1, .int x1), (2, .int x2), (4, .int x4)] → W p l e (sd_rm 0) s m args below meth c H locs 0 0 (MQ below (sd_Qi D cy ad A r S') args s 0 0 A) (F0 m 71 ls []) := by
  obtain ⟨hx, hb, -, hml, hown, hts, -, hG⟩ := id C
  intro x1 x2 x4 S H locs ls h X hl
  unfold f_X12_isGone_b71 at h
  refine lv_iconst (v := (0 : Int32)) hx hb dX12_isGone_71 (by decide) ?_
  exact t_X12_isGone_b72 C hq5 x1 x2 x4 (0 : Int32) S _ _ _ h X (lv_sub hl [0, 1, 2, 3] rfl)
def f_X12_isGone_l5 : Nat → Int32 → Int32 → Int32 → Int32 → sd_St → Option (Int32 × sd_St)
  | 0 => fun _ _ _ _ _ => none
  | n + 1 => fun x1 x2 x3 x4 S => sd_ld S 136 (51 : Int32) (fun v_1 => (if v_1 ≤ x4 then (sd_ckz x3 (some (x3, S))) else sd_nm (((52 : Int32) + ((3 : Int32) * x4))) (fun v_4 => (if x3 = 0 then sd_ld S 136 v_4 (fun v_6 => (if v_6 = x1 then sd_ld S 136 (v_4 + (1 : Int32)) (fun v_8 => (if x2 < v_8 then f_X12_isGone_b71 (f_X12_isGone_l5 n) x1 x2 x4 S else sd_ld S 136 (v_4 + (2 : Int32)) (fun v_10 => (if v_10 < x2 then f_X12_isGone_b71 (f_X12_isGone_l5 n) x1 x2 x4 S else f_X12_isGone_b67 (f_X12_isGone_l5 n) x1 x2 x4 S)))) else f_X12_isGone_b71 (f_X12_isGone_l5 n) x1 x2 x4 S)) else f_X12_isGone_b67 (f_X12_isGone_l5 n) x1 x2 x4 S))))
set_option maxHeartbeats 4000000 in
set_option maxRecDepth 100000 in
theorem t_X12_isGone_l5 (C : sd_C RX12 cX12_isGone 6 (some .boolean) D cy ad A b0 p s m args meth c) {r : Int32} {S' : sd_St} : ∀ (n : Nat) (x1 : Int32) (x2 : Int32) (x3 : Int32) (x4 : Int32) (S : sd_St) (H : Heap) (locs : List Loc) (ls : Array Slot), f_X12_isGone_l5 n x1 x2 x3 x4 S = some (r, S') → sd_H D cy ad A s S H locs → lv_has ls 6 [(0, .ref (ad 130)), (1, .int x1), (2, .int x2), (3, .int x3), (4, .int x4)] → W p l e (sd_rm 0) s m args below meth c H locs 0 0 (MQ below (sd_Qi D cy ad A r S') args s 0 0 A) (F0 m 5 ls []) := by
  obtain ⟨hx, hb, -, hml, hown, hts, -, hG⟩ := id C
  intro n
  induction n with
  | zero => intro x1 x2 x3 x4 S H locs ls h; cases h
  | succ n ih =>
    intro x1 x2 x3 x4 S H locs ls h X hl
    unfold f_X12_isGone_l5 at h
    refine lv_iload hx hb dX12_isGone_5 (lv_at hl 4 rfl) ?_
    refine lv_aload_n hx hb dX12_isGone_7 rfl (lv_at hl 0 rfl) ?_
    refine sd_g12_10 (k := 130) C X (by decide) sd_w8_8 dX12_isGone_8 ?_
    refine lv_bipush (v := (51 : Int32)) hx hb dX12_isGone_11 (by decide) ?_
    obtain ⟨b_1, v_1, e_1, h⟩ := sd_ld_some h
    refine sd_iald C X (by decide) b_1 dX12_isGone_13 (sd_nmi e_1 ?_)
    refine lv_icmp_ge (tgt := 79) hx hb dX12_isGone_14 (by decide) (fun c_2 => ?_) (fun c_2 => ?_)
    · have h := sd_ifp c_2 h
      refine lv_iload_n hx hb dX12_isGone_79 rfl (lv_at hl 3 rfl) ?_
      obtain ⟨z_3, h⟩ := sd_ckz_some h
      cases h
      exact sd_zret C X z_3 dX12_isGone_80
    · have h := sd_ifn c_2 h
      refine lv_bipush (v := (52 : Int32)) hx hb dX12_isGone_17 (by decide) ?_
      refine lv_iconst (v := (3 : Int32)) hx hb dX12_isGone_19 (by decide) ?_
      refine lv_iload hx hb dX12_isGone_20 (lv_at hl 4 rfl) ?_
      refine lv_imul hx hb dX12_isGone_22 ?_
      refine lv_iadd hx hb dX12_isGone_23 ?_
      obtain ⟨v_4, e_4, h⟩ := sd_nm_some h
      refine sd_nmi e_4 ?_
      refine lv_istore (lv' := [(5, .int v_4), (0, .ref (ad 130)), (1, .int x1), (2, .int x2), (3, .int x3), (4, .int x4)]) hx hb dX12_isGone_24 hl (by decide) rfl (fun ls hl => ?_)
      refine lv_iload_n hx hb dX12_isGone_26 rfl (lv_at hl 4 rfl) ?_
      refine lv_if_ne (tgt := 67) hx hb dX12_isGone_27 (by decide) (fun c_5 => ?_) (fun c_5 => ?_)
      · have h := sd_ifn c_5 h
        exact t_X12_isGone_b67 C ih x1 x2 x4 S _ _ _ h X (lv_sub hl [1, 2, 3, 5] rfl)
      · have h := sd_ifp c_5 h
        refine lv_aload_n hx hb dX12_isGone_30 rfl (lv_at hl 1 rfl) ?_
        refine sd_g12_10 (k := 130) C X (by decide) sd_w8_8 dX12_isGone_31 ?_
        refine lv_iload hx hb dX12_isGone_34 (lv_at hl 0 rfl) ?_
        obtain ⟨b_6, v_6, e_6, h⟩ := sd_ld_some h
        refine sd_iald C X (by decide) b_6 dX12_isGone_36 (sd_nmi e_6 ?_)
        refine lv_iload_n hx hb dX12_isGone_37 rfl (lv_at hl 2 rfl) ?_
        refine lv_icmp_ne (tgt := 71) hx hb dX12_isGone_38 (by decide) (fun c_7 => ?_) (fun c_7 => ?_)
        · have h := sd_ifn c_7 h
          exact t_X12_isGone_b71 C ih x1 x2 x4 S _ _ _ h X (lv_sub hl [1, 2, 3, 5] rfl)
        · have h := sd_ifp c_7 h
          refine lv_iload_n hx hb dX12_isGone_41 rfl (lv_at hl 3 rfl) ?_
          refine lv_aload_n hx hb dX12_isGone_42 rfl (lv_at hl 1 rfl) ?_
          refine sd_g12_10 (k := 130) C X (by decide) sd_w8_8 dX12_isGone_43 ?_
          refine lv_iload hx hb dX12_isGone_46 (lv_at hl 0 rfl) ?_
          refine lv_iconst (v := (1 : Int32)) hx hb dX12_isGone_48 (by decide) ?_
          refine lv_iadd hx hb dX12_isGone_49 ?_
          obtain ⟨b_8, v_8, e_8, h⟩ := sd_ld_some h
          refine sd_iald C X (by decide) b_8 dX12_isGone_50 (sd_nmi e_8 ?_)
          refine lv_icmp_lt (tgt := 71) hx hb dX12_isGone_51 (by decide) (fun c_9 => ?_) (fun c_9 => ?_)
          · have h := sd_ifp c_9 h
            exact t_X12_isGone_b71 C ih x1 x2 x4 S _ _ _ h X (lv_sub hl [1, 2, 3, 5] rfl)
          · have h := sd_ifn c_9 h
            refine lv_iload_n hx hb dX12_isGone_54 rfl (lv_at hl 3 rfl) ?_
            refine lv_aload_n hx hb dX12_isGone_55 rfl (lv_at hl 1 rfl) ?_
            refine sd_g12_10 (k := 130) C X (by decide) sd_w8_8 dX12_isGone_56 ?_
            refine lv_iload hx hb dX12_isGone_59 (lv_at hl 0 rfl) ?_
            refine lv_iconst (v := (2 : Int32)) hx hb dX12_isGone_61 (by decide) ?_
            refine lv_iadd hx hb dX12_isGone_62 ?_
            obtain ⟨b_10, v_10, e_10, h⟩ := sd_ld_some h
            refine sd_iald C X (by decide) b_10 dX12_isGone_63 (sd_nmi e_10 ?_)
            refine lv_icmp_gt (tgt := 71) hx hb dX12_isGone_64 (by decide) (fun c_11 => ?_) (fun c_11 => ?_)
            · have h := sd_ifp c_11 h
              exact t_X12_isGone_b71 C ih x1 x2 x4 S _ _ _ h X (lv_sub hl [1, 2, 3, 5] rfl)
            · have h := sd_ifn c_11 h
              exact t_X12_isGone_b67 C ih x1 x2 x4 S _ _ _ h X (lv_sub hl [1, 2, 3, 5] rfl)
def f_X12_isGone (x1 : Int32) (x2 : Int32) (S : sd_St) : Option (Int32 × sd_St) := f_X12_isGone_l5 sd_FU x1 x2 (0 : Int32) (0 : Int32) S
set_option maxHeartbeats 4000000 in
set_option maxRecDepth 100000 in
theorem c_X12_isGone {x1 : Int32} {x2 : Int32} {S S' : sd_St} {r : Int32} (h : f_X12_isGone x1 x2 S = some (r, S')) : Met l yX12_isGone (Cond.code yX12_isGone cX12_isGone 6 (some .boolean) :: sd_wl) (sd_rm 0) (sd_P D cy ad A b0 [.ref (ad 130), .int x1, .int x2] S) (sd_Qi D cy ad A r S') 0 0 A := by
  refine sd_met (by decide) (Nat.le_of_ble_eq_true rfl) (fun p e s m args below meth c ls C X hl => ?_)
  obtain ⟨hx, hb, -, hml, hown, hts, -, hG⟩ := id C
  replace C : sd_C RX12 cX12_isGone 6 (some .boolean) D cy ad A b0 p s m args meth c := C
  replace hl : lv_has ls 6 [(0, .ref (ad 130)), (1, .int x1), (2, .int x2)] := hl
  unfold f_X12_isGone at h
  refine lv_iconst (v := (0 : Int32)) hx hb dX12_isGone_0 (by decide) ?_
  refine lv_istore_n (lv' := [(3, .int (0 : Int32)), (0, .ref (ad 130)), (1, .int x1), (2, .int x2)]) hx hb dX12_isGone_1 rfl hl (by decide) rfl (fun ls hl => ?_)
  refine lv_iconst (v := (0 : Int32)) hx hb dX12_isGone_2 (by decide) ?_
  refine lv_istore (lv' := [(4, .int (0 : Int32)), (3, .int (0 : Int32)), (0, .ref (ad 130)), (1, .int x1), (2, .int x2)]) hx hb dX12_isGone_3 hl (by decide) rfl (fun ls hl => ?_)
  exact t_X12_isGone_l5 C sd_FU x1 x2 (0 : Int32) (0 : Int32) S _ _ _ h X (lv_sub hl [2, 3, 4, 1, 0] rfl)
theorem k_X12_isGone (C : sd_C own cc nL rt D cy ad A b0 p s m args meth c) (X : sd_H D cy ad A s S H locs) (hls : ls.size = nL) {x1 : Int32} {x2 : Int32} {S2 : sd_St} {r : Int32} (h : f_X12_isGone x1 x2 S = some (r, S2)) (hlink : Cond.methodLink own index yX12_isGone ∈ sd_wl) (hR : 1 ≤ R.frames ∧ 25 ≤ R.locals ∧ cells ≤ R.cells ∧ slots ≤ R.slots) (hst : (rest.map fun v => v.category).sum ≤ 8) (hdg : decode cc pc = .ok (.invokevirtual index, 3)) (kk : ∀ (H1 : Heap) (locs1 : List Loc), sd_H D cy ad A s S2 H1 locs1 → W p l e R s m args below meth c H1 locs1 cells slots Q (F0 m (pc + 3) ls (.int r :: rest))) : W p l e R s m args below meth c H locs cells slots Q (F0 m pc ls (.int x2 :: .int x1 :: .ref (ad 130) :: rest)) :=
  sd_goI X (sd_runV C X hls (n := 2) (k := 130) (As := [.int x1, .int x2]) (c_X12_isGone (l := l) (b0 := b0) h) (sd_goodV hlink sd_w27_18 sd_w27_19 sd_w1_5 sd_w27_20) (ci := 12) rfl (by rw [(show sd_kd 130 = 12 by decide)]; decide) (sd_c12 (show sd_kd 130 = 12 by decide)) (by decide +kernel) rfl hR rfl hst hdg) kk
/-! ===== SecretDaysModel.isDayOf(II)Z ===== -/
def f_X12_isDayOf (x1 : Int32) (x2 : Int32) (S : sd_St) : Option (Int32 × sd_St) := sd_cl (f_X12_bornOf x1 S) (fun r_2 S_1 => (if r_2 = x2 then (some ((1 : Int32), S_1)) else sd_ld S_1 136 (1 : Int32) (fun v_4 => (if v_4 = (1 : Int32) then sd_ld S_1 136 (((3 : Int32) + ((4 : Int32) * x1)) + (1 : Int32)) (fun v_6 => (if v_6 = (x2 + (1 : Int32)) then (some ((1 : Int32), S_1)) else (some ((0 : Int32), S_1)))) else (some ((0 : Int32), S_1))))))
set_option maxHeartbeats 4000000 in
set_option maxRecDepth 100000 in
theorem c_X12_isDayOf {x1 : Int32} {x2 : Int32} {S S' : sd_St} {r : Int32} (h : f_X12_isDayOf x1 x2 S = some (r, S')) : Met l yX12_isDayOf (Cond.code yX12_isDayOf cX12_isDayOf 3 (some .boolean) :: sd_wl) (sd_rm 1) (sd_P D cy ad A b0 [.ref (ad 130), .int x1, .int x2] S) (sd_Qi D cy ad A r S') 0 0 A := by
  refine sd_met (by decide) (Nat.le_of_ble_eq_true rfl) (fun p e s m args below meth c ls C X hl => ?_)
  obtain ⟨hx, hb, -, hml, hown, hts, -, hG⟩ := id C
  replace C : sd_C RX12 cX12_isDayOf 3 (some .boolean) D cy ad A b0 p s m args meth c := C
  replace hl : lv_has ls 3 [(0, .ref (ad 130)), (1, .int x1), (2, .int x2)] := hl
  unfold f_X12_isDayOf at h
  refine lv_aload_n hx hb dX12_isDayOf_0 rfl (lv_at hl 0 rfl) ?_
  refine lv_iload_n hx hb dX12_isDayOf_1 rfl (lv_at hl 1 rfl) ?_
  obtain ⟨r_2, S_1, er_2, h⟩ := sd_cl_some h
  refine k_X12_bornOf C X hl.1 er_2 sd_w27_13 (by decide) (Nat.le_of_ble_eq_true rfl) dX12_isDayOf_2 (fun H locs X => ?_)
  refine lv_iload_n hx hb dX12_isDayOf_5 rfl (lv_at hl 2 rfl) ?_
  refine lv_icmp_eq (tgt := 37) hx hb dX12_isDayOf_6 (by decide) (fun c_3 => ?_) (fun c_3 => ?_)
  · have h := sd_ifp c_3 h
    refine lv_iconst (v := (1 : Int32)) hx hb dX12_isDayOf_37 (by decide) ?_
    refine lv_goto (tgt := 42) hx hb dX12_isDayOf_38 (by decide) ?_
    cases h
    exact sd_zret C X (by decide) dX12_isDayOf_42
  · have h := sd_ifn c_3 h
    refine lv_aload_n hx hb dX12_isDayOf_9 rfl (lv_at hl 0 rfl) ?_
    refine sd_g12_10 (k := 130) C X (by decide) sd_w8_8 dX12_isDayOf_10 ?_
    refine lv_iconst (v := (1 : Int32)) hx hb dX12_isDayOf_13 (by decide) ?_
    obtain ⟨b_4, v_4, e_4, h⟩ := sd_ld_some h
    refine sd_iald C X (by decide) b_4 dX12_isDayOf_14 (sd_nmi e_4 ?_)
    refine lv_iconst (v := (1 : Int32)) hx hb dX12_isDayOf_15 (by decide) ?_
    refine lv_icmp_ne (tgt := 41) hx hb dX12_isDayOf_16 (by decide) (fun c_5 => ?_) (fun c_5 => ?_)
    · have h := sd_ifn c_5 h
      refine lv_iconst (v := (0 : Int32)) hx hb dX12_isDayOf_41 (by decide) ?_
      cases h
      exact sd_zret C X (by decide) dX12_isDayOf_42
    · have h := sd_ifp c_5 h
      refine lv_aload_n hx hb dX12_isDayOf_19 rfl (lv_at hl 0 rfl) ?_
      refine sd_g12_10 (k := 130) C X (by decide) sd_w8_8 dX12_isDayOf_20 ?_
      refine lv_iconst (v := (3 : Int32)) hx hb dX12_isDayOf_23 (by decide) ?_
      refine lv_iconst (v := (4 : Int32)) hx hb dX12_isDayOf_24 (by decide) ?_
      refine lv_iload_n hx hb dX12_isDayOf_25 rfl (lv_at hl 1 rfl) ?_
      refine lv_imul hx hb dX12_isDayOf_26 ?_
      refine lv_iadd hx hb dX12_isDayOf_27 ?_
      refine lv_iconst (v := (1 : Int32)) hx hb dX12_isDayOf_28 (by decide) ?_
      refine lv_iadd hx hb dX12_isDayOf_29 ?_
      obtain ⟨b_6, v_6, e_6, h⟩ := sd_ld_some h
      refine sd_iald C X (by decide) b_6 dX12_isDayOf_30 (sd_nmi e_6 ?_)
      refine lv_iload_n hx hb dX12_isDayOf_31 rfl (lv_at hl 2 rfl) ?_
      refine lv_iconst (v := (1 : Int32)) hx hb dX12_isDayOf_32 (by decide) ?_
      refine lv_iadd hx hb dX12_isDayOf_33 ?_
      refine lv_icmp_ne (tgt := 41) hx hb dX12_isDayOf_34 (by decide) (fun c_7 => ?_) (fun c_7 => ?_)
      · have h := sd_ifn c_7 h
        refine lv_iconst (v := (0 : Int32)) hx hb dX12_isDayOf_41 (by decide) ?_
        cases h
        exact sd_zret C X (by decide) dX12_isDayOf_42
      · have h := sd_ifp c_7 h
        refine lv_iconst (v := (1 : Int32)) hx hb dX12_isDayOf_37 (by decide) ?_
        refine lv_goto (tgt := 42) hx hb dX12_isDayOf_38 (by decide) ?_
        cases h
        exact sd_zret C X (by decide) dX12_isDayOf_42
theorem k_X12_isDayOf (C : sd_C own cc nL rt D cy ad A b0 p s m args meth c) (X : sd_H D cy ad A s S H locs) (hls : ls.size = nL) {x1 : Int32} {x2 : Int32} {S2 : sd_St} {r : Int32} (h : f_X12_isDayOf x1 x2 S = some (r, S2)) (hlink : Cond.methodLink own index yX12_isDayOf ∈ sd_wl) (hR : 2 ≤ R.frames ∧ 62 ≤ R.locals ∧ cells ≤ R.cells ∧ slots ≤ R.slots) (hst : (rest.map fun v => v.category).sum ≤ 8) (hdg : decode cc pc = .ok (.invokevirtual index, 3)) (kk : ∀ (H1 : Heap) (locs1 : List Loc), sd_H D cy ad A s S2 H1 locs1 → W p l e R s m args below meth c H1 locs1 cells slots Q (F0 m (pc + 3) ls (.int r :: rest))) : W p l e R s m args below meth c H locs cells slots Q (F0 m pc ls (.int x2 :: .int x1 :: .ref (ad 130) :: rest)) :=
  sd_goI X (sd_runV C X hls (n := 2) (k := 130) (As := [.int x1, .int x2]) (c_X12_isDayOf (l := l) (b0 := b0) h) (sd_goodV hlink sd_w27_10 sd_w27_11 sd_w1_5 sd_w27_12) (ci := 12) rfl (by rw [(show sd_kd 130 = 12 by decide)]; decide) (sd_c12 (show sd_kd 130 = 12 by decide)) (by decide +kernel) rfl hR rfl hst hdg) kk
/-! ===== SecretDaysModel.isFree(II)Z ===== -/
def f_X12_isFree (x1 : Int32) (x2 : Int32) (S : sd_St) : Option (Int32 × sd_St) := sd_cl (f_X12_isThere x2 S) (fun r_2 S_1 => (if r_2 = 0 then (some ((0 : Int32), S_1)) else sd_cl (f_X12_isDayOf x1 (sd_rem x2 (366 : Int32)) S_1) (fun r_5 S_4 => (if r_5 = 0 then (some ((0 : Int32), S_4)) else sd_cl (f_X12_isGone x1 x2 S_4) (fun r_8 S_7 => (if r_8 = 0 then (some ((1 : Int32), S_7)) else (some ((0 : Int32), S_7))))))))
set_option maxHeartbeats 4000000 in
set_option maxRecDepth 100000 in
theorem c_X12_isFree {x1 : Int32} {x2 : Int32} {S S' : sd_St} {r : Int32} (h : f_X12_isFree x1 x2 S = some (r, S')) : Met l yX12_isFree (Cond.code yX12_isFree cX12_isFree 3 (some .boolean) :: sd_wl) (sd_rm 2) (sd_P D cy ad A b0 [.ref (ad 130), .int x1, .int x2] S) (sd_Qi D cy ad A r S') 0 0 A := by
  refine sd_met (by decide) (Nat.le_of_ble_eq_true rfl) (fun p e s m args below meth c ls C X hl => ?_)
  obtain ⟨hx, hb, -, hml, hown, hts, -, hG⟩ := id C
  replace C : sd_C RX12 cX12_isFree 3 (some .boolean) D cy ad A b0 p s m args meth c := C
  replace hl : lv_has ls 3 [(0, .ref (ad 130)), (1, .int x1), (2, .int x2)] := hl
  unfold f_X12_isFree at h
  refine lv_aload_n hx hb dX12_isFree_0 rfl (lv_at hl 0 rfl) ?_
  refine lv_iload_n hx hb dX12_isFree_1 rfl (lv_at hl 2 rfl) ?_
  obtain ⟨r_2, S_1, er_2, h⟩ := sd_cl_some h
  refine k_X12_isThere C X hl.1 er_2 sd_w25_21 (by decide) (Nat.le_of_ble_eq_true rfl) dX12_isFree_2 (fun H locs X => ?_)
  refine lv_if_eq (tgt := 34) hx hb dX12_isFree_5 (by decide) (fun c_3 => ?_) (fun c_3 => ?_)
  · have h := sd_ifp c_3 h
    refine lv_iconst (v := (0 : Int32)) hx hb dX12_isFree_34 (by decide) ?_
    cases h
    exact sd_zret C X (by decide) dX12_isFree_35
  · have h := sd_ifn c_3 h
    refine lv_aload_n hx hb dX12_isFree_8 rfl (lv_at hl 0 rfl) ?_
    refine lv_iload_n hx hb dX12_isFree_9 rfl (lv_at hl 1 rfl) ?_
    refine lv_iload_n hx hb dX12_isFree_10 rfl (lv_at hl 2 rfl) ?_
    refine lv_sipush (v := (366 : Int32)) hx hb dX12_isFree_11 (by decide) ?_
    refine lv_irem hx hb dX12_isFree_14 (by decide) ?_
    obtain ⟨r_5, S_4, er_5, h⟩ := sd_cl_some h
    refine k_X12_isDayOf C X hl.1 er_5 sd_w27_9 (by decide) (Nat.le_of_ble_eq_true rfl) dX12_isFree_15 (fun H locs X => ?_)
    refine lv_if_eq (tgt := 34) hx hb dX12_isFree_18 (by decide) (fun c_6 => ?_) (fun c_6 => ?_)
    · have h := sd_ifp c_6 h
      refine lv_iconst (v := (0 : Int32)) hx hb dX12_isFree_34 (by decide) ?_
      cases h
      exact sd_zret C X (by decide) dX12_isFree_35
    · have h := sd_ifn c_6 h
      refine lv_aload_n hx hb dX12_isFree_21 rfl (lv_at hl 0 rfl) ?_
      refine lv_iload_n hx hb dX12_isFree_22 rfl (lv_at hl 1 rfl) ?_
      refine lv_iload_n hx hb dX12_isFree_23 rfl (lv_at hl 2 rfl) ?_
      obtain ⟨r_8, S_7, er_8, h⟩ := sd_cl_some h
      refine k_X12_isGone C X hl.1 er_8 sd_w27_17 (by decide) (Nat.le_of_ble_eq_true rfl) dX12_isFree_24 (fun H locs X => ?_)
      refine lv_if_ne (tgt := 34) hx hb dX12_isFree_27 (by decide) (fun c_9 => ?_) (fun c_9 => ?_)
      · have h := sd_ifn c_9 h
        refine lv_iconst (v := (0 : Int32)) hx hb dX12_isFree_34 (by decide) ?_
        cases h
        exact sd_zret C X (by decide) dX12_isFree_35
      · have h := sd_ifp c_9 h
        refine lv_iconst (v := (1 : Int32)) hx hb dX12_isFree_30 (by decide) ?_
        refine lv_goto (tgt := 35) hx hb dX12_isFree_31 (by decide) ?_
        cases h
        exact sd_zret C X (by decide) dX12_isFree_35
theorem k_X12_isFree (C : sd_C own cc nL rt D cy ad A b0 p s m args meth c) (X : sd_H D cy ad A s S H locs) (hls : ls.size = nL) {x1 : Int32} {x2 : Int32} {S2 : sd_St} {r : Int32} (h : f_X12_isFree x1 x2 S = some (r, S2)) (hlink : Cond.methodLink own index yX12_isFree ∈ sd_wl) (hR : 3 ≤ R.frames ∧ 102 ≤ R.locals ∧ cells ≤ R.cells ∧ slots ≤ R.slots) (hst : (rest.map fun v => v.category).sum ≤ 8) (hdg : decode cc pc = .ok (.invokevirtual index, 3)) (kk : ∀ (H1 : Heap) (locs1 : List Loc), sd_H D cy ad A s S2 H1 locs1 → W p l e R s m args below meth c H1 locs1 cells slots Q (F0 m (pc + 3) ls (.int r :: rest))) : W p l e R s m args below meth c H locs cells slots Q (F0 m pc ls (.int x2 :: .int x1 :: .ref (ad 130) :: rest)) :=
  sd_goI X (sd_runV C X hls (n := 2) (k := 130) (As := [.int x1, .int x2]) (c_X12_isFree (l := l) (b0 := b0) h) (sd_goodV hlink sd_w27_6 sd_w27_7 sd_w1_5 sd_w27_8) (ci := 12) rfl (by rw [(show sd_kd 130 = 12 by decide)]; decide) (sd_c12 (show sd_kd 130 = 12 by decide)) (by decide +kernel) rfl hR rfl hst hdg) kk
/-! ===== SecretDaysModel.law(Z)Z ===== -/
def f_X12_law_b19 (w1 : Int32) (w2 : Int32) (S : sd_St) : Option (Int32 × sd_St) := sd_st S 136 w1 w2 (fun S_1 => (some ((1 : Int32), S_1)))
set_option maxHeartbeats 4000000 in
set_option maxRecDepth 100000 in
theorem t_X12_law_b19 (C : sd_C RX12 cX12_law 2 (some .boolean) D cy ad A b0 p s m args meth c) {r : Int32} {S' : sd_St} : ∀ (w1 : Int32) (w2 : Int32) (S : sd_St) (H : Heap) (locs : List Loc) (ls : Array Slot), f_X12_law_b19 w1 w2 S = some (r, S') → sd_H D cy ad A s S H locs → lv_has ls 2 [] → W p l e (sd_rm 0) s m args below meth c H locs 0 0 (MQ below (sd_Qi D cy ad A r S') args s 0 0 A) (F0 m 19 ls [.int w2, .int w1, .ref (ad 136)]) := by
  obtain ⟨hx, hb, -, hml, hown, hts, -, hG⟩ := id C
  intro w1 w2 S H locs ls h X hl
  unfold f_X12_law_b19 at h
  obtain ⟨bS_1, S_1, eS_1, h⟩ := sd_st_some h
  refine sd_iast C X (by decide) bS_1 dX12_law_19 (fun H locs X => ?_)
  rw [← eS_1] at X
  refine lv_iconst (v := (1 : Int32)) hx hb dX12_law_20 (by decide) ?_
  cases h
  exact sd_zret C X (by decide) dX12_law_21
def f_X12_law (x1 : Int32) (S : sd_St) : Option (Int32 × sd_St) := sd_nm (sd_I S 130 0 (0 : Int32)) (fun S_2 => (if x1 = 0 then f_X12_law_b19 (1 : Int32) (0 : Int32) S_2 else f_X12_law_b19 (1 : Int32) (1 : Int32) S_2))
set_option maxHeartbeats 4000000 in
set_option maxRecDepth 100000 in
theorem c_X12_law {x1 : Int32} {S S' : sd_St} {r : Int32} (h : f_X12_law x1 S = some (r, S')) : Met l yX12_law (Cond.code yX12_law cX12_law 2 (some .boolean) :: sd_wl) (sd_rm 0) (sd_P D cy ad A b0 [.ref (ad 130), .int x1] S) (sd_Qi D cy ad A r S') 0 0 A := by
  refine sd_met (by decide) (Nat.le_of_ble_eq_true rfl) (fun p e s m args below meth c ls C X hl => ?_)
  obtain ⟨hx, hb, -, hml, hown, hts, -, hG⟩ := id C
  replace C : sd_C RX12 cX12_law 2 (some .boolean) D cy ad A b0 p s m args meth c := C
  replace hl : lv_has ls 2 [(0, .ref (ad 130)), (1, .int x1)] := hl
  unfold f_X12_law at h
  refine lv_aload_n hx hb dX12_law_0 rfl (lv_at hl 0 rfl) ?_
  refine lv_iconst (v := (0 : Int32)) hx hb dX12_law_1 (by decide) ?_
  obtain ⟨S_2, eS_2, h⟩ := sd_nm_some h
  refine sd_p12_0 C X (by decide) sd_w9_3 dX12_law_2 (fun H locs X => ?_)
  rw [← eS_2] at X
  refine lv_aload_n hx hb dX12_law_5 rfl (lv_at hl 0 rfl) ?_
  refine sd_g12_10 (k := 130) C X (by decide) sd_w8_8 dX12_law_6 ?_
  refine lv_iconst (v := (1 : Int32)) hx hb dX12_law_9 (by decide) ?_
  refine lv_iload_n hx hb dX12_law_10 rfl (lv_at hl 1 rfl) ?_
  refine lv_if_eq (tgt := 18) hx hb dX12_law_11 (by decide) (fun c_3 => ?_) (fun c_3 => ?_)
  · have h := sd_ifp c_3 h
    refine lv_iconst (v := (0 : Int32)) hx hb dX12_law_18 (by decide) ?_
    exact t_X12_law_b19 C (1 : Int32) (0 : Int32) S_2 _ _ _ h X (lv_sub hl [] rfl)
  · have h := sd_ifn c_3 h
    refine lv_iconst (v := (1 : Int32)) hx hb dX12_law_14 (by decide) ?_
    refine lv_goto (tgt := 19) hx hb dX12_law_15 (by decide) ?_
    exact t_X12_law_b19 C (1 : Int32) (1 : Int32) S_2 _ _ _ h X (lv_sub hl [] rfl)
theorem k_X12_law (C : sd_C own cc nL rt D cy ad A b0 p s m args meth c) (X : sd_H D cy ad A s S H locs) (hls : ls.size = nL) {x1 : Int32} {S2 : sd_St} {r : Int32} (h : f_X12_law x1 S = some (r, S2)) (hlink : Cond.methodLink own index yX12_law ∈ sd_wl) (hR : 1 ≤ R.frames ∧ 21 ≤ R.locals ∧ cells ≤ R.cells ∧ slots ≤ R.slots) (hst : (rest.map fun v => v.category).sum ≤ 8) (hdg : decode cc pc = .ok (.invokevirtual index, 3)) (kk : ∀ (H1 : Heap) (locs1 : List Loc), sd_H D cy ad A s S2 H1 locs1 → W p l e R s m args below meth c H1 locs1 cells slots Q (F0 m (pc + 3) ls (.int r :: rest))) : W p l e R s m args below meth c H locs cells slots Q (F0 m pc ls (.int x1 :: .ref (ad 130) :: rest)) :=
  sd_goI X (sd_runV C X hls (n := 1) (k := 130) (As := [.int x1]) (c_X12_law (l := l) (b0 := b0) h) (sd_goodV hlink sd_w23_17 sd_w23_18 sd_w1_5 sd_w23_19) (ci := 12) rfl (by rw [(show sd_kd 130 = 12 by decide)]; decide) (sd_c12 (show sd_kd 130 = 12 by decide)) (by decide +kernel) rfl hR rfl hst hdg) kk
/-! ===== SecretDaysModel.person(II)I ===== -/
def f_X12_person_b57 (q29 : (Int32 → Int32 → Int32 → Int32 → sd_St → Option (Int32 × sd_St))) (x1 : Int32) (x2 : Int32) (x4 : Int32) (w0 : Int32) (w1 : Int32) (S : sd_St) : Option (Int32 × sd_St) := sd_nm ((w0 ||| w1)) (fun v_1 => q29 x1 x2 v_1 (x4 + (1 : Int32)) S)
set_option maxHeartbeats 4000000 in
set_option maxRecDepth 100000 in
theorem t_X12_person_b57 (C : sd_C RX12 cX12_person 5 (some .int) D cy ad A b0 p s m args meth c) {r : Int32} {S' : sd_St} {q29 : (Int32 → Int32 → Int32 → Int32 → sd_St → Option (Int32 × sd_St))} (hq29 : ∀ (x1 : Int32) (x2 : Int32) (x3 : Int32) (x4 : Int32) (S : sd_St) (H : Heap) (locs : List Loc) (ls : Array Slot), q29 x1 x2 x3 x4 S = some (r, S') → sd_H D cy ad A s S H locs → lv_has ls 5 [(0, .ref (ad 130)), (1, .int x1), (2, .int x2), (3, .int x3), (4, .int x4)] → W p l e (sd_rm 2) s m args below meth c H locs 0 0 (MQ below (sd_Qi D cy ad A r S') args s 0 0 A) (F0 m 29 ls [])) : ∀ (x1 : Int32) (x2 : Int32) (x4 : Int32) (w0 : Int32) (w1 : Int32) (S : sd_St) (H : Heap) (locs : List Loc) (ls : Array Slot), f_X12_person_b57 q29 x1 x2 x4 w0 w1 S = some (r, S') → sd_H D cy ad A s S H locs → lv_has ls 5 [(0, .ref (ad 130)), (1, .int x1), (2, .int x2), (4, .int x4)] → W p l e (sd_rm 2) s m args below meth c H locs 0 0 (MQ below (sd_Qi D cy ad A r S') args s 0 0 A) (F0 m 57 ls [.int w1, .int w0]) := by
  obtain ⟨hx, hb, -, hml, hown, hts, -, hG⟩ := id C
  intro x1 x2 x4 w0 w1 S H locs ls h X hl
  unfold f_X12_person_b57 at h
  refine lv_ior hx hb dX12_person_57 ?_
  obtain ⟨v_1, e_1, h⟩ := sd_nm_some h
  refine sd_nmi e_1 ?_
  refine lv_istore_n (lv' := [(3, .int v_1), (0, .ref (ad 130)), (1, .int x1), (2, .int x2), (4, .int x4)]) hx hb dX12_person_58 rfl hl (by decide) rfl (fun ls hl => ?_)
  refine lv_iinc (v := (x4 + (1 : Int32))) (lv' := [(4, .int (x4 + (1 : Int32))), (3, .int v_1), (0, .ref (ad 130)), (1, .int x1), (2, .int x2)]) hx hb dX12_person_59 hl (k := 4) rfl rfl (by decide) rfl (fun ls hl => ?_)
  refine lv_goto (tgt := 29) hx hb dX12_person_62 (by decide) ?_
  exact hq29 x1 x2 v_1 (x4 + (1 : Int32)) S _ _ _ h X (lv_sub hl [2, 3, 4, 1, 0] rfl)
def f_X12_person_l29 : Nat → Int32 → Int32 → Int32 → Int32 → sd_St → Option (Int32 × sd_St)
  | 0 => fun _ _ _ _ _ => none
  | n + 1 => fun x1 x2 x3 x4 S => sd_cl (f_X12_people S) (fun r_3 S_2 => (if r_3 ≤ x4 then sd_nm (((3 : Int32) + ((4 : Int32) * x1))) (fun v_5 => (if x2 = (4 : Int32) then (some (x3, S_2)) else (if x2 = (1 : Int32) then sd_ld S_2 136 (v_5 + (1 : Int32)) (fun v_9 => (some ((v_9 - (1 : Int32)), S_2))) else sd_ld S_2 136 (v_5 + x2) (fun v_8 => (some (v_8, S_2)))))) else sd_cl (f_X12_calls x1 x4 S_2) (fun r_11 S_10 => (if r_11 = 0 then f_X12_person_b57 (f_X12_person_l29 n) x1 x2 x4 x3 (0 : Int32) S_10 else f_X12_person_b57 (f_X12_person_l29 n) x1 x2 x4 x3 ((1 : Int32) <<< (x4 &&& 31)) S_10))))
set_option maxHeartbeats 4000000 in
set_option maxRecDepth 100000 in
theorem t_X12_person_l29 (C : sd_C RX12 cX12_person 5 (some .int) D cy ad A b0 p s m args meth c) {r : Int32} {S' : sd_St} : ∀ (n : Nat) (x1 : Int32) (x2 : Int32) (x3 : Int32) (x4 : Int32) (S : sd_St) (H : Heap) (locs : List Loc) (ls : Array Slot), f_X12_person_l29 n x1 x2 x3 x4 S = some (r, S') → sd_H D cy ad A s S H locs → lv_has ls 5 [(0, .ref (ad 130)), (1, .int x1), (2, .int x2), (3, .int x3), (4, .int x4)] → W p l e (sd_rm 2) s m args below meth c H locs 0 0 (MQ below (sd_Qi D cy ad A r S') args s 0 0 A) (F0 m 29 ls []) := by
  obtain ⟨hx, hb, -, hml, hown, hts, -, hG⟩ := id C
  intro n
  induction n with
  | zero => intro x1 x2 x3 x4 S H locs ls h; cases h
  | succ n ih =>
    intro x1 x2 x3 x4 S H locs ls h X hl
    unfold f_X12_person_l29 at h
    refine lv_iload hx hb dX12_person_29 (lv_at hl 4 rfl) ?_
    refine lv_aload_n hx hb dX12_person_31 rfl (lv_at hl 0 rfl) ?_
    obtain ⟨r_3, S_2, er_3, h⟩ := sd_cl_some h
    refine k_X12_people C X hl.1 er_3 sd_w24_18 (by decide) (Nat.le_of_ble_eq_true rfl) dX12_person_32 (fun H locs X => ?_)
    refine lv_icmp_ge (tgt := 65) hx hb dX12_person_35 (by decide) (fun c_4 => ?_) (fun c_4 => ?_)
    · have h := sd_ifp c_4 h
      refine lv_iconst (v := (3 : Int32)) hx hb dX12_person_65 (by decide) ?_
      refine lv_iconst (v := (4 : Int32)) hx hb dX12_person_66 (by decide) ?_
      refine lv_iload_n hx hb dX12_person_67 rfl (lv_at hl 1 rfl) ?_
      refine lv_imul hx hb dX12_person_68 ?_
      refine lv_iadd hx hb dX12_person_69 ?_
      obtain ⟨v_5, e_5, h⟩ := sd_nm_some h
      refine sd_nmi e_5 ?_
      refine lv_istore (lv' := [(4, .int v_5), (0, .ref (ad 130)), (1, .int x1), (2, .int x2), (3, .int x3)]) hx hb dX12_person_70 hl (by decide) rfl (fun ls hl => ?_)
      refine lv_iload_n hx hb dX12_person_72 rfl (lv_at hl 3 rfl) ?_
      refine lv_iconst (v := (4 : Int32)) hx hb dX12_person_73 (by decide) ?_
      refine lv_icmp_ne (tgt := 81) hx hb dX12_person_74 (by decide) (fun c_6 => ?_) (fun c_6 => ?_)
      · have h := sd_ifn c_6 h
        refine lv_iload_n hx hb dX12_person_81 rfl (lv_at hl 3 rfl) ?_
        refine lv_iconst (v := (1 : Int32)) hx hb dX12_person_82 (by decide) ?_
        refine lv_icmp_ne (tgt := 100) hx hb dX12_person_83 (by decide) (fun c_7 => ?_) (fun c_7 => ?_)
        · have h := sd_ifn c_7 h
          refine lv_aload_n hx hb dX12_person_100 rfl (lv_at hl 1 rfl) ?_
          refine sd_g12_10 (k := 130) C X (by decide) sd_w8_8 dX12_person_101 ?_
          refine lv_iload hx hb dX12_person_104 (lv_at hl 0 rfl) ?_
          refine lv_iload_n hx hb dX12_person_106 rfl (lv_at hl 3 rfl) ?_
          refine lv_iadd hx hb dX12_person_107 ?_
          obtain ⟨b_8, v_8, e_8, h⟩ := sd_ld_some h
          refine sd_iald C X (by decide) b_8 dX12_person_108 (sd_nmi e_8 ?_)
          cases h
          exact sd_iret C X dX12_person_109
        · have h := sd_ifp c_7 h
          refine lv_aload_n hx hb dX12_person_86 rfl (lv_at hl 1 rfl) ?_
          refine sd_g12_10 (k := 130) C X (by decide) sd_w8_8 dX12_person_87 ?_
          refine lv_iload hx hb dX12_person_90 (lv_at hl 0 rfl) ?_
          refine lv_iconst (v := (1 : Int32)) hx hb dX12_person_92 (by decide) ?_
          refine lv_iadd hx hb dX12_person_93 ?_
          obtain ⟨b_9, v_9, e_9, h⟩ := sd_ld_some h
          refine sd_iald C X (by decide) b_9 dX12_person_94 (sd_nmi e_9 ?_)
          refine lv_iconst (v := (1 : Int32)) hx hb dX12_person_95 (by decide) ?_
          refine lv_isub hx hb dX12_person_96 ?_
          refine lv_goto (tgt := 109) hx hb dX12_person_97 (by decide) ?_
          cases h
          exact sd_iret C X dX12_person_109
      · have h := sd_ifp c_6 h
        refine lv_iload_n hx hb dX12_person_77 rfl (lv_at hl 4 rfl) ?_
        refine lv_goto (tgt := 109) hx hb dX12_person_78 (by decide) ?_
        cases h
        exact sd_iret C X dX12_person_109
    · have h := sd_ifn c_4 h
      refine lv_iload_n hx hb dX12_person_38 rfl (lv_at hl 3 rfl) ?_
      refine lv_aload_n hx hb dX12_person_39 rfl (lv_at hl 0 rfl) ?_
      refine lv_iload_n hx hb dX12_person_40 rfl (lv_at hl 1 rfl) ?_
      refine lv_iload hx hb dX12_person_41 (lv_at hl 4 rfl) ?_
      obtain ⟨r_11, S_10, er_11, h⟩ := sd_cl_some h
      refine k_X12_calls C X hl.1 er_11 sd_w25_1 (by decide) (Nat.le_of_ble_eq_true rfl) dX12_person_43 (fun H locs X => ?_)
      refine lv_if_eq (tgt := 56) hx hb dX12_person_46 (by decide) (fun c_12 => ?_) (fun c_12 => ?_)
      · have h := sd_ifp c_12 h
        refine lv_iconst (v := (0 : Int32)) hx hb dX12_person_56 (by decide) ?_
        exact t_X12_person_b57 C ih x1 x2 x4 x3 (0 : Int32) S_10 _ _ _ h X (lv_sub hl [0, 1, 2, 4] rfl)
      · have h := sd_ifn c_12 h
        refine lv_iconst (v := (1 : Int32)) hx hb dX12_person_49 (by decide) ?_
        refine lv_iload hx hb dX12_person_50 (lv_at hl 4 rfl) ?_
        refine lv_ishl hx hb dX12_person_52 ?_
        refine lv_goto (tgt := 57) hx hb dX12_person_53 (by decide) ?_
        exact t_X12_person_b57 C ih x1 x2 x4 x3 ((1 : Int32) <<< (x4 &&& 31)) S_10 _ _ _ h X (lv_sub hl [0, 1, 2, 4] rfl)
def f_X12_person (x1 : Int32) (x2 : Int32) (S : sd_St) : Option (Int32 × sd_St) := sd_nm (sd_I S 130 0 (0 : Int32)) (fun S_13 => sd_cl (f_X12_isPerson x1 S_13) (fun r_15 S_14 => (if r_15 = 0 then (some ((-1 : Int32), S_14)) else sd_cl (f_X12_within x2 (0 : Int32) (4 : Int32) S_14) (fun r_18 S_17 => (if r_18 = 0 then (some ((-1 : Int32), S_17)) else f_X12_person_l29 sd_FU x1 x2 (0 : Int32) (0 : Int32) S_17)))))
set_option maxHeartbeats 4000000 in
set_option maxRecDepth 100000 in
theorem c_X12_person {x1 : Int32} {x2 : Int32} {S S' : sd_St} {r : Int32} (h : f_X12_person x1 x2 S = some (r, S')) : Met l yX12_person (Cond.code yX12_person cX12_person 5 (some .int) :: sd_wl) (sd_rm 2) (sd_P D cy ad A b0 [.ref (ad 130), .int x1, .int x2] S) (sd_Qi D cy ad A r S') 0 0 A := by
  refine sd_met (by decide) (Nat.le_of_ble_eq_true rfl) (fun p e s m args below meth c ls C X hl => ?_)
  obtain ⟨hx, hb, -, hml, hown, hts, -, hG⟩ := id C
  replace C : sd_C RX12 cX12_person 5 (some .int) D cy ad A b0 p s m args meth c := C
  replace hl : lv_has ls 5 [(0, .ref (ad 130)), (1, .int x1), (2, .int x2)] := hl
  unfold f_X12_person at h
  refine lv_aload_n hx hb dX12_person_0 rfl (lv_at hl 0 rfl) ?_
  refine lv_iconst (v := (0 : Int32)) hx hb dX12_person_1 (by decide) ?_
  obtain ⟨S_13, eS_13, h⟩ := sd_nm_some h
  refine sd_p12_0 C X (by decide) sd_w9_3 dX12_person_2 (fun H locs X => ?_)
  rw [← eS_13] at X
  refine lv_aload_n hx hb dX12_person_5 rfl (lv_at hl 0 rfl) ?_
  refine lv_iload_n hx hb dX12_person_6 rfl (lv_at hl 1 rfl) ?_
  obtain ⟨r_15, S_14, er_15, h⟩ := sd_cl_some h
  refine k_X12_isPerson C X hl.1 er_15 sd_w24_14 (by decide) (Nat.le_of_ble_eq_true rfl) dX12_person_7 (fun H locs X => ?_)
  refine lv_if_eq (tgt := 22) hx hb dX12_person_10 (by decide) (fun c_16 => ?_) (fun c_16 => ?_)
  · have h := sd_ifp c_16 h
    refine lv_iconst (v := (-1 : Int32)) hx hb dX12_person_22 (by decide) ?_
    cases h
    exact sd_iret C X dX12_person_23
  · have h := sd_ifn c_16 h
    refine lv_iload_n hx hb dX12_person_13 rfl (lv_at hl 2 rfl) ?_
    refine lv_iconst (v := (0 : Int32)) hx hb dX12_person_14 (by decide) ?_
    refine lv_iconst (v := (4 : Int32)) hx hb dX12_person_15 (by decide) ?_
    obtain ⟨r_18, S_17, er_18, h⟩ := sd_cl_some h
    refine k_X12_within C X hl.1 er_18 sd_w24_22 (by decide) (Nat.le_of_ble_eq_true rfl) dX12_person_16 (fun H locs X => ?_)
    refine lv_if_ne (tgt := 24) hx hb dX12_person_19 (by decide) (fun c_19 => ?_) (fun c_19 => ?_)
    · have h := sd_ifn c_19 h
      refine lv_iconst (v := (0 : Int32)) hx hb dX12_person_24 (by decide) ?_
      refine lv_istore_n (lv' := [(3, .int (0 : Int32)), (0, .ref (ad 130)), (1, .int x1), (2, .int x2)]) hx hb dX12_person_25 rfl hl (by decide) rfl (fun ls hl => ?_)
      refine lv_iconst (v := (0 : Int32)) hx hb dX12_person_26 (by decide) ?_
      refine lv_istore (lv' := [(4, .int (0 : Int32)), (3, .int (0 : Int32)), (0, .ref (ad 130)), (1, .int x1), (2, .int x2)]) hx hb dX12_person_27 hl (by decide) rfl (fun ls hl => ?_)
      exact t_X12_person_l29 C sd_FU x1 x2 (0 : Int32) (0 : Int32) S_17 _ _ _ h X (lv_sub hl [2, 3, 4, 1, 0] rfl)
    · have h := sd_ifp c_19 h
      refine lv_iconst (v := (-1 : Int32)) hx hb dX12_person_22 (by decide) ?_
      cases h
      exact sd_iret C X dX12_person_23
theorem k_X12_person (C : sd_C own cc nL rt D cy ad A b0 p s m args meth c) (X : sd_H D cy ad A s S H locs) (hls : ls.size = nL) {x1 : Int32} {x2 : Int32} {S2 : sd_St} {r : Int32} (h : f_X12_person x1 x2 S = some (r, S2)) (hlink : Cond.methodLink own index yX12_person ∈ sd_wl) (hR : 3 ≤ R.frames ∧ 104 ≤ R.locals ∧ cells ≤ R.cells ∧ slots ≤ R.slots) (hst : (rest.map fun v => v.category).sum ≤ 8) (hdg : decode cc pc = .ok (.invokevirtual index, 3)) (kk : ∀ (H1 : Heap) (locs1 : List Loc), sd_H D cy ad A s S2 H1 locs1 → W p l e R s m args below meth c H1 locs1 cells slots Q (F0 m (pc + 3) ls (.int r :: rest))) : W p l e R s m args below meth c H locs cells slots Q (F0 m pc ls (.int x2 :: .int x1 :: .ref (ad 130) :: rest)) :=
  sd_goI X (sd_runV C X hls (n := 2) (k := 130) (As := [.int x1, .int x2]) (c_X12_person (l := l) (b0 := b0) h) (sd_goodV hlink sd_w24_11 sd_w24_12 sd_w1_5 sd_w24_13) (ci := 12) rfl (by rw [(show sd_kd 130 = 12 by decide)]; decide) (sd_c12 (show sd_kd 130 = 12 by decide)) (by decide +kernel) rfl hR rfl hst hdg) kk
/-! ===== SecretDaysModel.date(II)I ===== -/
def f_X12_date (x1 : Int32) (x2 : Int32) (S : sd_St) : Option (Int32 × sd_St) := sd_nm (sd_I S 130 0 (0 : Int32)) (fun S_1 => sd_cl (f_X12_within x1 (0 : Int32) (11 : Int32) S_1) (fun r_3 S_2 => (if r_3 = 0 then (some ((-1 : Int32), S_2)) else sd_cl (f_X12_within x2 (0 : Int32) (365 : Int32) S_2) (fun r_6 S_5 => (if r_6 = 0 then (some ((-1 : Int32), S_5)) else sd_cl (f_X12_isThere (((366 : Int32) * x1) + x2) S_5) (fun r_9 S_8 => (if r_9 = 0 then (some ((-1 : Int32), S_8)) else (some ((((366 : Int32) * x1) + x2), S_8)))))))))
set_option maxHeartbeats 4000000 in
set_option maxRecDepth 100000 in
theorem c_X12_date {x1 : Int32} {x2 : Int32} {S S' : sd_St} {r : Int32} (h : f_X12_date x1 x2 S = some (r, S')) : Met l yX12_date (Cond.code yX12_date cX12_date 3 (some .int) :: sd_wl) (sd_rm 2) (sd_P D cy ad A b0 [.ref (ad 130), .int x1, .int x2] S) (sd_Qi D cy ad A r S') 0 0 A := by
  refine sd_met (by decide) (Nat.le_of_ble_eq_true rfl) (fun p e s m args below meth c ls C X hl => ?_)
  obtain ⟨hx, hb, -, hml, hown, hts, -, hG⟩ := id C
  replace C : sd_C RX12 cX12_date 3 (some .int) D cy ad A b0 p s m args meth c := C
  replace hl : lv_has ls 3 [(0, .ref (ad 130)), (1, .int x1), (2, .int x2)] := hl
  unfold f_X12_date at h
  refine lv_aload_n hx hb dX12_date_0 rfl (lv_at hl 0 rfl) ?_
  refine lv_iconst (v := (0 : Int32)) hx hb dX12_date_1 (by decide) ?_
  obtain ⟨S_1, eS_1, h⟩ := sd_nm_some h
  refine sd_p12_0 C X (by decide) sd_w9_3 dX12_date_2 (fun H locs X => ?_)
  rw [← eS_1] at X
  refine lv_iload_n hx hb dX12_date_5 rfl (lv_at hl 1 rfl) ?_
  refine lv_iconst (v := (0 : Int32)) hx hb dX12_date_6 (by decide) ?_
  refine lv_bipush (v := (11 : Int32)) hx hb dX12_date_7 (by decide) ?_
  obtain ⟨r_3, S_2, er_3, h⟩ := sd_cl_some h
  refine k_X12_within C X hl.1 er_3 sd_w24_22 (by decide) (Nat.le_of_ble_eq_true rfl) dX12_date_9 (fun H locs X => ?_)
  refine lv_if_eq (tgt := 50) hx hb dX12_date_12 (by decide) (fun c_4 => ?_) (fun c_4 => ?_)
  · have h := sd_ifp c_4 h
    refine lv_iconst (v := (-1 : Int32)) hx hb dX12_date_50 (by decide) ?_
    cases h
    exact sd_iret C X dX12_date_51
  · have h := sd_ifn c_4 h
    refine lv_iload_n hx hb dX12_date_15 rfl (lv_at hl 2 rfl) ?_
    refine lv_iconst (v := (0 : Int32)) hx hb dX12_date_16 (by decide) ?_
    refine lv_sipush (v := (365 : Int32)) hx hb dX12_date_17 (by decide) ?_
    obtain ⟨r_6, S_5, er_6, h⟩ := sd_cl_some h
    refine k_X12_within C X hl.1 er_6 sd_w24_22 (by decide) (Nat.le_of_ble_eq_true rfl) dX12_date_20 (fun H locs X => ?_)
    refine lv_if_eq (tgt := 50) hx hb dX12_date_23 (by decide) (fun c_7 => ?_) (fun c_7 => ?_)
    · have h := sd_ifp c_7 h
      refine lv_iconst (v := (-1 : Int32)) hx hb dX12_date_50 (by decide) ?_
      cases h
      exact sd_iret C X dX12_date_51
    · have h := sd_ifn c_7 h
      refine lv_aload_n hx hb dX12_date_26 rfl (lv_at hl 0 rfl) ?_
      refine lv_sipush (v := (366 : Int32)) hx hb dX12_date_27 (by decide) ?_
      refine lv_iload_n hx hb dX12_date_30 rfl (lv_at hl 1 rfl) ?_
      refine lv_imul hx hb dX12_date_31 ?_
      refine lv_iload_n hx hb dX12_date_32 rfl (lv_at hl 2 rfl) ?_
      refine lv_iadd hx hb dX12_date_33 ?_
      obtain ⟨r_9, S_8, er_9, h⟩ := sd_cl_some h
      refine k_X12_isThere C X hl.1 er_9 sd_w25_21 (by decide) (Nat.le_of_ble_eq_true rfl) dX12_date_34 (fun H locs X => ?_)
      refine lv_if_eq (tgt := 50) hx hb dX12_date_37 (by decide) (fun c_10 => ?_) (fun c_10 => ?_)
      · have h := sd_ifp c_10 h
        refine lv_iconst (v := (-1 : Int32)) hx hb dX12_date_50 (by decide) ?_
        cases h
        exact sd_iret C X dX12_date_51
      · have h := sd_ifn c_10 h
        refine lv_sipush (v := (366 : Int32)) hx hb dX12_date_40 (by decide) ?_
        refine lv_iload_n hx hb dX12_date_43 rfl (lv_at hl 1 rfl) ?_
        refine lv_imul hx hb dX12_date_44 ?_
        refine lv_iload_n hx hb dX12_date_45 rfl (lv_at hl 2 rfl) ?_
        refine lv_iadd hx hb dX12_date_46 ?_
        refine lv_goto (tgt := 51) hx hb dX12_date_47 (by decide) ?_
        cases h
        exact sd_iret C X dX12_date_51
theorem k_X12_date (C : sd_C own cc nL rt D cy ad A b0 p s m args meth c) (X : sd_H D cy ad A s S H locs) (hls : ls.size = nL) {x1 : Int32} {x2 : Int32} {S2 : sd_St} {r : Int32} (h : f_X12_date x1 x2 S = some (r, S2)) (hlink : Cond.methodLink own index yX12_date ∈ sd_wl) (hR : 3 ≤ R.frames ∧ 102 ≤ R.locals ∧ cells ≤ R.cells ∧ slots ≤ R.slots) (hst : (rest.map fun v => v.category).sum ≤ 8) (hdg : decode cc pc = .ok (.invokevirtual index, 3)) (kk : ∀ (H1 : Heap) (locs1 : List Loc), sd_H D cy ad A s S2 H1 locs1 → W p l e R s m args below meth c H1 locs1 cells slots Q (F0 m (pc + 3) ls (.int r :: rest))) : W p l e R s m args below meth c H locs cells slots Q (F0 m pc ls (.int x2 :: .int x1 :: .ref (ad 130) :: rest)) :=
  sd_goI X (sd_runV C X hls (n := 2) (k := 130) (As := [.int x1, .int x2]) (c_X12_date (l := l) (b0 := b0) h) (sd_goodV hlink sd_w25_18 sd_w25_19 sd_w1_5 sd_w25_20) (ci := 12) rfl (by rw [(show sd_kd 130 = 12 by decide)]; decide) (sd_c12 (show sd_kd 130 = 12 by decide)) (by decide +kernel) rfl hR rfl hst hdg) kk
/-! ===== SecretDaysModel.free(II)I ===== -/
def f_X12_free (x1 : Int32) (x2 : Int32) (S : sd_St) : Option (Int32 × sd_St) := sd_nm (sd_I S 130 0 (0 : Int32)) (fun S_1 => sd_cl (f_X12_isPerson x1 S_1) (fun r_3 S_2 => (if r_3 = 0 then (some ((-1 : Int32), S_2)) else sd_cl (f_X12_isThere x2 S_2) (fun r_6 S_5 => (if r_6 = 0 then (some ((-1 : Int32), S_5)) else sd_cl (f_X12_isFree x1 x2 S_5) (fun r_9 S_8 => (if r_9 = 0 then (some ((0 : Int32), S_8)) else (some ((1 : Int32), S_8)))))))))
set_option maxHeartbeats 4000000 in
set_option maxRecDepth 100000 in
theorem c_X12_free {x1 : Int32} {x2 : Int32} {S S' : sd_St} {r : Int32} (h : f_X12_free x1 x2 S = some (r, S')) : Met l yX12_free (Cond.code yX12_free cX12_free 3 (some .int) :: sd_wl) (sd_rm 3) (sd_P D cy ad A b0 [.ref (ad 130), .int x1, .int x2] S) (sd_Qi D cy ad A r S') 0 0 A := by
  refine sd_met (by decide) (Nat.le_of_ble_eq_true rfl) (fun p e s m args below meth c ls C X hl => ?_)
  obtain ⟨hx, hb, -, hml, hown, hts, -, hG⟩ := id C
  replace C : sd_C RX12 cX12_free 3 (some .int) D cy ad A b0 p s m args meth c := C
  replace hl : lv_has ls 3 [(0, .ref (ad 130)), (1, .int x1), (2, .int x2)] := hl
  unfold f_X12_free at h
  refine lv_aload_n hx hb dX12_free_0 rfl (lv_at hl 0 rfl) ?_
  refine lv_iconst (v := (0 : Int32)) hx hb dX12_free_1 (by decide) ?_
  obtain ⟨S_1, eS_1, h⟩ := sd_nm_some h
  refine sd_p12_0 C X (by decide) sd_w9_3 dX12_free_2 (fun H locs X => ?_)
  rw [← eS_1] at X
  refine lv_aload_n hx hb dX12_free_5 rfl (lv_at hl 0 rfl) ?_
  refine lv_iload_n hx hb dX12_free_6 rfl (lv_at hl 1 rfl) ?_
  obtain ⟨r_3, S_2, er_3, h⟩ := sd_cl_some h
  refine k_X12_isPerson C X hl.1 er_3 sd_w24_14 (by decide) (Nat.le_of_ble_eq_true rfl) dX12_free_7 (fun H locs X => ?_)
  refine lv_if_eq (tgt := 38) hx hb dX12_free_10 (by decide) (fun c_4 => ?_) (fun c_4 => ?_)
  · have h := sd_ifp c_4 h
    refine lv_iconst (v := (-1 : Int32)) hx hb dX12_free_38 (by decide) ?_
    cases h
    exact sd_iret C X dX12_free_39
  · have h := sd_ifn c_4 h
    refine lv_aload_n hx hb dX12_free_13 rfl (lv_at hl 0 rfl) ?_
    refine lv_iload_n hx hb dX12_free_14 rfl (lv_at hl 2 rfl) ?_
    obtain ⟨r_6, S_5, er_6, h⟩ := sd_cl_some h
    refine k_X12_isThere C X hl.1 er_6 sd_w25_21 (by decide) (Nat.le_of_ble_eq_true rfl) dX12_free_15 (fun H locs X => ?_)
    refine lv_if_eq (tgt := 38) hx hb dX12_free_18 (by decide) (fun c_7 => ?_) (fun c_7 => ?_)
    · have h := sd_ifp c_7 h
      refine lv_iconst (v := (-1 : Int32)) hx hb dX12_free_38 (by decide) ?_
      cases h
      exact sd_iret C X dX12_free_39
    · have h := sd_ifn c_7 h
      refine lv_aload_n hx hb dX12_free_21 rfl (lv_at hl 0 rfl) ?_
      refine lv_iload_n hx hb dX12_free_22 rfl (lv_at hl 1 rfl) ?_
      refine lv_iload_n hx hb dX12_free_23 rfl (lv_at hl 2 rfl) ?_
      obtain ⟨r_9, S_8, er_9, h⟩ := sd_cl_some h
      refine k_X12_isFree C X hl.1 er_9 sd_w27_5 (by decide) (Nat.le_of_ble_eq_true rfl) dX12_free_24 (fun H locs X => ?_)
      refine lv_if_eq (tgt := 34) hx hb dX12_free_27 (by decide) (fun c_10 => ?_) (fun c_10 => ?_)
      · have h := sd_ifp c_10 h
        refine lv_iconst (v := (0 : Int32)) hx hb dX12_free_34 (by decide) ?_
        refine lv_goto (tgt := 39) hx hb dX12_free_35 (by decide) ?_
        cases h
        exact sd_iret C X dX12_free_39
      · have h := sd_ifn c_10 h
        refine lv_iconst (v := (1 : Int32)) hx hb dX12_free_30 (by decide) ?_
        refine lv_goto (tgt := 39) hx hb dX12_free_31 (by decide) ?_
        cases h
        exact sd_iret C X dX12_free_39
theorem k_X12_free (C : sd_C own cc nL rt D cy ad A b0 p s m args meth c) (X : sd_H D cy ad A s S H locs) (hls : ls.size = nL) {x1 : Int32} {x2 : Int32} {S2 : sd_St} {r : Int32} (h : f_X12_free x1 x2 S = some (r, S2)) (hlink : Cond.methodLink own index yX12_free ∈ sd_wl) (hR : 4 ≤ R.frames ∧ 142 ≤ R.locals ∧ cells ≤ R.cells ∧ slots ≤ R.slots) (hst : (rest.map fun v => v.category).sum ≤ 8) (hdg : decode cc pc = .ok (.invokevirtual index, 3)) (kk : ∀ (H1 : Heap) (locs1 : List Loc), sd_H D cy ad A s S2 H1 locs1 → W p l e R s m args below meth c H1 locs1 cells slots Q (F0 m (pc + 3) ls (.int r :: rest))) : W p l e R s m args below meth c H locs cells slots Q (F0 m pc ls (.int x2 :: .int x1 :: .ref (ad 130) :: rest)) :=
  sd_goI X (sd_runV C X hls (n := 2) (k := 130) (As := [.int x1, .int x2]) (c_X12_free (l := l) (b0 := b0) h) (sd_goodV hlink sd_w27_2 sd_w27_3 sd_w1_5 sd_w27_4) (ci := 12) rfl (by rw [(show sd_kd 130 = 12 by decide)]; decide) (sd_c12 (show sd_kd 130 = 12 by decide)) (by decide +kernel) rfl hR rfl hst hdg) kk
/-! ===== SecretDaysModel.away(II)I ===== -/
def f_X12_away (x1 : Int32) (x2 : Int32) (S : sd_St) : Option (Int32 × sd_St) := sd_nm (sd_I S 130 0 (0 : Int32)) (fun S_1 => sd_cl (f_X12_isPerson x1 S_1) (fun r_3 S_2 => (if r_3 = 0 then (some ((-1 : Int32), S_2)) else sd_cl (f_X12_isThere x2 S_2) (fun r_6 S_5 => (if r_6 = 0 then (some ((-1 : Int32), S_5)) else sd_cl (f_X12_isGone x1 x2 S_5) (fun r_9 S_8 => (if r_9 = 0 then (some ((0 : Int32), S_8)) else (some ((1 : Int32), S_8)))))))))
set_option maxHeartbeats 4000000 in
set_option maxRecDepth 100000 in
theorem c_X12_away {x1 : Int32} {x2 : Int32} {S S' : sd_St} {r : Int32} (h : f_X12_away x1 x2 S = some (r, S')) : Met l yX12_away (Cond.code yX12_away cX12_away 3 (some .int) :: sd_wl) (sd_rm 2) (sd_P D cy ad A b0 [.ref (ad 130), .int x1, .int x2] S) (sd_Qi D cy ad A r S') 0 0 A := by
  refine sd_met (by decide) (Nat.le_of_ble_eq_true rfl) (fun p e s m args below meth c ls C X hl => ?_)
  obtain ⟨hx, hb, -, hml, hown, hts, -, hG⟩ := id C
  replace C : sd_C RX12 cX12_away 3 (some .int) D cy ad A b0 p s m args meth c := C
  replace hl : lv_has ls 3 [(0, .ref (ad 130)), (1, .int x1), (2, .int x2)] := hl
  unfold f_X12_away at h
  refine lv_aload_n hx hb dX12_away_0 rfl (lv_at hl 0 rfl) ?_
  refine lv_iconst (v := (0 : Int32)) hx hb dX12_away_1 (by decide) ?_
  obtain ⟨S_1, eS_1, h⟩ := sd_nm_some h
  refine sd_p12_0 C X (by decide) sd_w9_3 dX12_away_2 (fun H locs X => ?_)
  rw [← eS_1] at X
  refine lv_aload_n hx hb dX12_away_5 rfl (lv_at hl 0 rfl) ?_
  refine lv_iload_n hx hb dX12_away_6 rfl (lv_at hl 1 rfl) ?_
  obtain ⟨r_3, S_2, er_3, h⟩ := sd_cl_some h
  refine k_X12_isPerson C X hl.1 er_3 sd_w24_14 (by decide) (Nat.le_of_ble_eq_true rfl) dX12_away_7 (fun H locs X => ?_)
  refine lv_if_eq (tgt := 38) hx hb dX12_away_10 (by decide) (fun c_4 => ?_) (fun c_4 => ?_)
  · have h := sd_ifp c_4 h
    refine lv_iconst (v := (-1 : Int32)) hx hb dX12_away_38 (by decide) ?_
    cases h
    exact sd_iret C X dX12_away_39
  · have h := sd_ifn c_4 h
    refine lv_aload_n hx hb dX12_away_13 rfl (lv_at hl 0 rfl) ?_
    refine lv_iload_n hx hb dX12_away_14 rfl (lv_at hl 2 rfl) ?_
    obtain ⟨r_6, S_5, er_6, h⟩ := sd_cl_some h
    refine k_X12_isThere C X hl.1 er_6 sd_w25_21 (by decide) (Nat.le_of_ble_eq_true rfl) dX12_away_15 (fun H locs X => ?_)
    refine lv_if_eq (tgt := 38) hx hb dX12_away_18 (by decide) (fun c_7 => ?_) (fun c_7 => ?_)
    · have h := sd_ifp c_7 h
      refine lv_iconst (v := (-1 : Int32)) hx hb dX12_away_38 (by decide) ?_
      cases h
      exact sd_iret C X dX12_away_39
    · have h := sd_ifn c_7 h
      refine lv_aload_n hx hb dX12_away_21 rfl (lv_at hl 0 rfl) ?_
      refine lv_iload_n hx hb dX12_away_22 rfl (lv_at hl 1 rfl) ?_
      refine lv_iload_n hx hb dX12_away_23 rfl (lv_at hl 2 rfl) ?_
      obtain ⟨r_9, S_8, er_9, h⟩ := sd_cl_some h
      refine k_X12_isGone C X hl.1 er_9 sd_w27_17 (by decide) (Nat.le_of_ble_eq_true rfl) dX12_away_24 (fun H locs X => ?_)
      refine lv_if_eq (tgt := 34) hx hb dX12_away_27 (by decide) (fun c_10 => ?_) (fun c_10 => ?_)
      · have h := sd_ifp c_10 h
        refine lv_iconst (v := (0 : Int32)) hx hb dX12_away_34 (by decide) ?_
        refine lv_goto (tgt := 39) hx hb dX12_away_35 (by decide) ?_
        cases h
        exact sd_iret C X dX12_away_39
      · have h := sd_ifn c_10 h
        refine lv_iconst (v := (1 : Int32)) hx hb dX12_away_30 (by decide) ?_
        refine lv_goto (tgt := 39) hx hb dX12_away_31 (by decide) ?_
        cases h
        exact sd_iret C X dX12_away_39
theorem k_X12_away (C : sd_C own cc nL rt D cy ad A b0 p s m args meth c) (X : sd_H D cy ad A s S H locs) (hls : ls.size = nL) {x1 : Int32} {x2 : Int32} {S2 : sd_St} {r : Int32} (h : f_X12_away x1 x2 S = some (r, S2)) (hlink : Cond.methodLink own index yX12_away ∈ sd_wl) (hR : 3 ≤ R.frames ∧ 102 ≤ R.locals ∧ cells ≤ R.cells ∧ slots ≤ R.slots) (hst : (rest.map fun v => v.category).sum ≤ 8) (hdg : decode cc pc = .ok (.invokevirtual index, 3)) (kk : ∀ (H1 : Heap) (locs1 : List Loc), sd_H D cy ad A s S2 H1 locs1 → W p l e R s m args below meth c H1 locs1 cells slots Q (F0 m (pc + 3) ls (.int r :: rest))) : W p l e R s m args below meth c H locs cells slots Q (F0 m pc ls (.int x2 :: .int x1 :: .ref (ad 130) :: rest)) :=
  sd_goI X (sd_runV C X hls (n := 2) (k := 130) (As := [.int x1, .int x2]) (c_X12_away (l := l) (b0 := b0) h) (sd_goodV hlink sd_w28_2 sd_w28_3 sd_w1_5 sd_w28_4) (ci := 12) rfl (by rw [(show sd_kd 130 = 12 by decide)]; decide) (sd_c12 (show sd_kd 130 = 12 by decide)) (by decide +kernel) rfl hR rfl hst hdg) kk
/-! ===== SecretDaysModel.adds(I)V ===== -/
def f_X12_adds_l49 : Nat → Int32 → Int32 → Int32 → sd_St → Option (Unit × sd_St)
  | 0 => fun _ _ _ _ => none
  | n + 1 => fun x1 x2 x3 S => (if x3 ≤ x2 then sd_st S 139 x2 x1 (fun S_2 => sd_nm (sd_I S_2 130 16 ((S_2.1 130 16) + (1 : Int32))) (fun S_3 => (some ((), S_3)))) else sd_ld S 139 (x3 - (1 : Int32)) (fun v_4 => sd_st S 139 x3 v_4 (fun S_5 => (f_X12_adds_l49 n) x1 x2 (x3 + (-1 : Int32)) S_5)))
set_option maxHeartbeats 4000000 in
set_option maxRecDepth 100000 in
theorem t_X12_adds_l49 (C : sd_C RX12 cX12_adds 4 none D cy ad A b0 p s m args meth c) {S' : sd_St} : ∀ (n : Nat) (x1 : Int32) (x2 : Int32) (x3 : Int32) (S : sd_St) (H : Heap) (locs : List Loc) (ls : Array Slot), f_X12_adds_l49 n x1 x2 x3 S = some ((), S') → sd_H D cy ad A s S H locs → lv_has ls 4 [(0, .ref (ad 130)), (1, .int x1), (2, .int x2), (3, .int x3)] → W p l e (sd_rm 0) s m args below meth c H locs 0 0 (MQ below (sd_Qv D cy ad A S') args s 0 0 A) (F0 m 49 ls []) := by
  obtain ⟨hx, hb, -, hml, hown, hts, -, hG⟩ := id C
  intro n
  induction n with
  | zero => intro x1 x2 x3 S H locs ls h; cases h
  | succ n ih =>
    intro x1 x2 x3 S H locs ls h X hl
    unfold f_X12_adds_l49 at h
    refine lv_iload_n hx hb dX12_adds_49 rfl (lv_at hl 3 rfl) ?_
    refine lv_iload_n hx hb dX12_adds_50 rfl (lv_at hl 2 rfl) ?_
    refine lv_icmp_le (tgt := 74) hx hb dX12_adds_51 (by decide) (fun c_1 => ?_) (fun c_1 => ?_)
    · have h := sd_ifp c_1 h
      refine lv_aload_n hx hb dX12_adds_74 rfl (lv_at hl 0 rfl) ?_
      refine sd_g12_15 (k := 130) C X (by decide) sd_w8_11 dX12_adds_75 ?_
      refine lv_iload_n hx hb dX12_adds_78 rfl (lv_at hl 2 rfl) ?_
      refine lv_iload_n hx hb dX12_adds_79 rfl (lv_at hl 1 rfl) ?_
      obtain ⟨bS_2, S_2, eS_2, h⟩ := sd_st_some h
      refine sd_iast C X (by decide) bS_2 dX12_adds_80 (fun H locs X => ?_)
      rw [← eS_2] at X
      refine lv_aload_n hx hb dX12_adds_81 rfl (lv_at hl 0 rfl) ?_
      refine lv_dup hx hb dX12_adds_82 rfl ?_
      refine sd_g12_16 C X (by decide) sd_w32_15 dX12_adds_83 ?_
      refine lv_iconst (v := (1 : Int32)) hx hb dX12_adds_86 (by decide) ?_
      refine lv_iadd hx hb dX12_adds_87 ?_
      obtain ⟨S_3, eS_3, h⟩ := sd_nm_some h
      refine sd_p12_16 C X (by decide) sd_w32_15 dX12_adds_88 (fun H locs X => ?_)
      rw [← eS_3] at X
      cases h
      exact sd_vret C X dX12_adds_91
    · have h := sd_ifn c_1 h
      refine lv_aload_n hx hb dX12_adds_54 rfl (lv_at hl 0 rfl) ?_
      refine sd_g12_15 (k := 130) C X (by decide) sd_w8_11 dX12_adds_55 ?_
      refine lv_iload_n hx hb dX12_adds_58 rfl (lv_at hl 3 rfl) ?_
      refine lv_aload_n hx hb dX12_adds_59 rfl (lv_at hl 0 rfl) ?_
      refine sd_g12_15 (k := 130) C X (by decide) sd_w8_11 dX12_adds_60 ?_
      refine lv_iload_n hx hb dX12_adds_63 rfl (lv_at hl 3 rfl) ?_
      refine lv_iconst (v := (1 : Int32)) hx hb dX12_adds_64 (by decide) ?_
      refine lv_isub hx hb dX12_adds_65 ?_
      obtain ⟨b_4, v_4, e_4, h⟩ := sd_ld_some h
      refine sd_iald C X (by decide) b_4 dX12_adds_66 (sd_nmi e_4 ?_)
      obtain ⟨bS_5, S_5, eS_5, h⟩ := sd_st_some h
      refine sd_iast C X (by decide) bS_5 dX12_adds_67 (fun H locs X => ?_)
      rw [← eS_5] at X
      refine lv_iinc (v := (x3 + (-1 : Int32))) (lv' := [(3, .int (x3 + (-1 : Int32))), (0, .ref (ad 130)), (1, .int x1), (2, .int x2)]) hx hb dX12_adds_68 hl (k := 3) rfl rfl (by decide) rfl (fun ls hl => ?_)
      refine lv_goto (tgt := 49) hx hb dX12_adds_71 (by decide) ?_
      exact ih x1 x2 (x3 + (-1 : Int32)) S_5 _ _ _ h X (lv_sub hl [1, 2, 3, 0] rfl)
def f_X12_adds_b44 (x1 : Int32) (x2 : Int32) (S : sd_St) : Option (Unit × sd_St) := sd_nm ((S.1 130 16)) (fun v_6 => f_X12_adds_l49 sd_FU x1 x2 v_6 S)
set_option maxHeartbeats 4000000 in
set_option maxRecDepth 100000 in
theorem t_X12_adds_b44 (C : sd_C RX12 cX12_adds 4 none D cy ad A b0 p s m args meth c) {S' : sd_St} : ∀ (x1 : Int32) (x2 : Int32) (S : sd_St) (H : Heap) (locs : List Loc) (ls : Array Slot), f_X12_adds_b44 x1 x2 S = some ((), S') → sd_H D cy ad A s S H locs → lv_has ls 4 [(0, .ref (ad 130)), (1, .int x1), (2, .int x2)] → W p l e (sd_rm 0) s m args below meth c H locs 0 0 (MQ below (sd_Qv D cy ad A S') args s 0 0 A) (F0 m 44 ls []) := by
  obtain ⟨hx, hb, -, hml, hown, hts, -, hG⟩ := id C
  intro x1 x2 S H locs ls h X hl
  unfold f_X12_adds_b44 at h
  refine lv_aload_n hx hb dX12_adds_44 rfl (lv_at hl 0 rfl) ?_
  refine sd_g12_16 C X (by decide) sd_w32_15 dX12_adds_45 ?_
  obtain ⟨v_6, e_6, h⟩ := sd_nm_some h
  refine sd_nmi e_6 ?_
  refine lv_istore_n (lv' := [(3, .int v_6), (0, .ref (ad 130)), (1, .int x1), (2, .int x2)]) hx hb dX12_adds_48 rfl hl (by decide) rfl (fun ls hl => ?_)
  exact t_X12_adds_l49 C sd_FU x1 x2 v_6 S _ _ _ h X (lv_sub hl [1, 2, 3, 0] rfl)
def f_X12_adds_b26 (x1 : Int32) (x2 : Int32) (S : sd_St) : Option (Unit × sd_St) := (if x2 = (S.1 130 16) then f_X12_adds_b44 x1 x2 S else sd_ld S 139 x2 (fun v_8 => (if v_8 = x1 then (some ((), S)) else f_X12_adds_b44 x1 x2 S)))
set_option maxHeartbeats 4000000 in
set_option maxRecDepth 100000 in
theorem t_X12_adds_b26 (C : sd_C RX12 cX12_adds 4 none D cy ad A b0 p s m args meth c) {S' : sd_St} : ∀ (x1 : Int32) (x2 : Int32) (S : sd_St) (H : Heap) (locs : List Loc) (ls : Array Slot), f_X12_adds_b26 x1 x2 S = some ((), S') → sd_H D cy ad A s S H locs → lv_has ls 4 [(0, .ref (ad 130)), (1, .int x1), (2, .int x2)] → W p l e (sd_rm 0) s m args below meth c H locs 0 0 (MQ below (sd_Qv D cy ad A S') args s 0 0 A) (F0 m 26 ls []) := by
  obtain ⟨hx, hb, -, hml, hown, hts, -, hG⟩ := id C
  intro x1 x2 S H locs ls h X hl
  unfold f_X12_adds_b26 at h
  refine lv_iload_n hx hb dX12_adds_26 rfl (lv_at hl 2 rfl) ?_
  refine lv_aload_n hx hb dX12_adds_27 rfl (lv_at hl 0 rfl) ?_
  refine sd_g12_16 C X (by decide) sd_w32_15 dX12_adds_28 ?_
  refine lv_icmp_eq (tgt := 44) hx hb dX12_adds_31 (by decide) (fun c_7 => ?_) (fun c_7 => ?_)
  · have h := sd_ifp c_7 h
    exact t_X12_adds_b44 C x1 x2 S _ _ _ h X (lv_sub hl [0, 1, 2] rfl)
  · have h := sd_ifn c_7 h
    refine lv_aload_n hx hb dX12_adds_34 rfl (lv_at hl 0 rfl) ?_
    refine sd_g12_15 (k := 130) C X (by decide) sd_w8_11 dX12_adds_35 ?_
    refine lv_iload_n hx hb dX12_adds_38 rfl (lv_at hl 2 rfl) ?_
    obtain ⟨b_8, v_8, e_8, h⟩ := sd_ld_some h
    refine sd_iald C X (by decide) b_8 dX12_adds_39 (sd_nmi e_8 ?_)
    refine lv_iload_n hx hb dX12_adds_40 rfl (lv_at hl 1 rfl) ?_
    refine lv_icmp_eq (tgt := 91) hx hb dX12_adds_41 (by decide) (fun c_9 => ?_) (fun c_9 => ?_)
    · have h := sd_ifp c_9 h
      cases h
      exact sd_vret C X dX12_adds_91
    · have h := sd_ifn c_9 h
      exact t_X12_adds_b44 C x1 x2 S _ _ _ h X (lv_sub hl [0, 1, 2] rfl)
def f_X12_adds_l2 : Nat → Int32 → Int32 → sd_St → Option (Unit × sd_St)
  | 0 => fun _ _ _ => none
  | n + 1 => fun x1 x2 S => (if (S.1 130 16) ≤ x2 then f_X12_adds_b26 x1 x2 S else sd_ld S 139 x2 (fun v_11 => (if x1 ≤ v_11 then f_X12_adds_b26 x1 x2 S else (f_X12_adds_l2 n) x1 (x2 + (1 : Int32)) S)))
set_option maxHeartbeats 4000000 in
set_option maxRecDepth 100000 in
theorem t_X12_adds_l2 (C : sd_C RX12 cX12_adds 4 none D cy ad A b0 p s m args meth c) {S' : sd_St} : ∀ (n : Nat) (x1 : Int32) (x2 : Int32) (S : sd_St) (H : Heap) (locs : List Loc) (ls : Array Slot), f_X12_adds_l2 n x1 x2 S = some ((), S') → sd_H D cy ad A s S H locs → lv_has ls 4 [(0, .ref (ad 130)), (1, .int x1), (2, .int x2)] → W p l e (sd_rm 0) s m args below meth c H locs 0 0 (MQ below (sd_Qv D cy ad A S') args s 0 0 A) (F0 m 2 ls []) := by
  obtain ⟨hx, hb, -, hml, hown, hts, -, hG⟩ := id C
  intro n
  induction n with
  | zero => intro x1 x2 S H locs ls h; cases h
  | succ n ih =>
    intro x1 x2 S H locs ls h X hl
    unfold f_X12_adds_l2 at h
    refine lv_iload_n hx hb dX12_adds_2 rfl (lv_at hl 2 rfl) ?_
    refine lv_aload_n hx hb dX12_adds_3 rfl (lv_at hl 0 rfl) ?_
    refine sd_g12_16 C X (by decide) sd_w32_15 dX12_adds_4 ?_
    refine lv_icmp_ge (tgt := 26) hx hb dX12_adds_7 (by decide) (fun c_10 => ?_) (fun c_10 => ?_)
    · have h := sd_ifp c_10 h
      exact t_X12_adds_b26 C x1 x2 S _ _ _ h X (lv_sub hl [0, 1, 2] rfl)
    · have h := sd_ifn c_10 h
      refine lv_aload_n hx hb dX12_adds_10 rfl (lv_at hl 0 rfl) ?_
      refine sd_g12_15 (k := 130) C X (by decide) sd_w8_11 dX12_adds_11 ?_
      refine lv_iload_n hx hb dX12_adds_14 rfl (lv_at hl 2 rfl) ?_
      obtain ⟨b_11, v_11, e_11, h⟩ := sd_ld_some h
      refine sd_iald C X (by decide) b_11 dX12_adds_15 (sd_nmi e_11 ?_)
      refine lv_iload_n hx hb dX12_adds_16 rfl (lv_at hl 1 rfl) ?_
      refine lv_icmp_ge (tgt := 26) hx hb dX12_adds_17 (by decide) (fun c_12 => ?_) (fun c_12 => ?_)
      · have h := sd_ifp c_12 h
        exact t_X12_adds_b26 C x1 x2 S _ _ _ h X (lv_sub hl [0, 1, 2] rfl)
      · have h := sd_ifn c_12 h
        refine lv_iinc (v := (x2 + (1 : Int32))) (lv' := [(2, .int (x2 + (1 : Int32))), (0, .ref (ad 130)), (1, .int x1)]) hx hb dX12_adds_20 hl (k := 2) rfl rfl (by decide) rfl (fun ls hl => ?_)
        refine lv_goto (tgt := 2) hx hb dX12_adds_23 (by decide) ?_
        exact ih x1 (x2 + (1 : Int32)) S _ _ _ h X (lv_sub hl [1, 2, 0] rfl)
def f_X12_adds (x1 : Int32) (S : sd_St) : Option (Unit × sd_St) := f_X12_adds_l2 sd_FU x1 (0 : Int32) S
set_option maxHeartbeats 4000000 in
set_option maxRecDepth 100000 in
theorem c_X12_adds {x1 : Int32} {S S' : sd_St} (h : f_X12_adds x1 S = some ((), S')) : Met l yX12_adds (Cond.code yX12_adds cX12_adds 4 none :: sd_wl) (sd_rm 0) (sd_P D cy ad A b0 [.ref (ad 130), .int x1] S) (sd_Qv D cy ad A S') 0 0 A := by
  refine sd_met (by decide) (Nat.le_of_ble_eq_true rfl) (fun p e s m args below meth c ls C X hl => ?_)
  obtain ⟨hx, hb, -, hml, hown, hts, -, hG⟩ := id C
  replace C : sd_C RX12 cX12_adds 4 none D cy ad A b0 p s m args meth c := C
  replace hl : lv_has ls 4 [(0, .ref (ad 130)), (1, .int x1)] := hl
  unfold f_X12_adds at h
  refine lv_iconst (v := (0 : Int32)) hx hb dX12_adds_0 (by decide) ?_
  refine lv_istore_n (lv' := [(2, .int (0 : Int32)), (0, .ref (ad 130)), (1, .int x1)]) hx hb dX12_adds_1 rfl hl (by decide) rfl (fun ls hl => ?_)
  exact t_X12_adds_l2 C sd_FU x1 (0 : Int32) S _ _ _ h X (lv_sub hl [1, 2, 0] rfl)
theorem k_X12_adds (C : sd_C own cc nL rt D cy ad A b0 p s m args meth c) (X : sd_H D cy ad A s S H locs) (hls : ls.size = nL) {x1 : Int32} {S2 : sd_St} (h : f_X12_adds x1 S = some ((), S2)) (hlink : Cond.methodLink own index yX12_adds ∈ sd_wl) (hR : 1 ≤ R.frames ∧ 23 ≤ R.locals ∧ cells ≤ R.cells ∧ slots ≤ R.slots) (hst : (rest.map fun v => v.category).sum ≤ 8) (hdg : decode cc pc = .ok (.invokevirtual index, 3)) (kk : ∀ (H1 : Heap) (locs1 : List Loc), sd_H D cy ad A s S2 H1 locs1 → W p l e R s m args below meth c H1 locs1 cells slots Q (F0 m (pc + 3) ls rest)) : W p l e R s m args below meth c H locs cells slots Q (F0 m pc ls (.int x1 :: .ref (ad 130) :: rest)) :=
  sd_goV X (sd_runV C X hls (n := 1) (k := 130) (As := [.int x1]) (c_X12_adds (l := l) (b0 := b0) h) (sd_goodV hlink sd_w32_21 sd_w32_22 sd_w1_5 sd_w32_23) (ci := 12) rfl (by rw [(show sd_kd 130 = 12 by decide)]; decide) (sd_c12 (show sd_kd 130 = 12 by decide)) (by decide +kernel) rfl hR rfl hst hdg) kk
/-! ===== SecretDaysModel.findDays()V ===== -/
def f_X12_findDays_b67 (q7 : (Int32 → sd_St → Option (Unit × sd_St))) (x1 : Int32) (S : sd_St) : Option (Unit × sd_St) := q7 (x1 + (1 : Int32)) S
set_option maxHeartbeats 4000000 in
set_option maxRecDepth 100000 in
theorem t_X12_findDays_b67 (C : sd_C RX12 cX12_findDays 2 none D cy ad A b0 p s m args meth c) {S' : sd_St} {q7 : (Int32 → sd_St → Option (Unit × sd_St))} (hq7 : ∀ (x1 : Int32) (S : sd_St) (H : Heap) (locs : List Loc) (ls : Array Slot), q7 x1 S = some ((), S') → sd_H D cy ad A s S H locs → lv_has ls 2 [(0, .ref (ad 130)), (1, .int x1)] → W p l e (sd_rm 1) s m args below meth c H locs 0 0 (MQ below (sd_Qv D cy ad A S') args s 0 0 A) (F0 m 7 ls [])) : ∀ (x1 : Int32) (S : sd_St) (H : Heap) (locs : List Loc) (ls : Array Slot), f_X12_findDays_b67 q7 x1 S = some ((), S') → sd_H D cy ad A s S H locs → lv_has ls 2 [(0, .ref (ad 130)), (1, .int x1)] → W p l e (sd_rm 1) s m args below meth c H locs 0 0 (MQ below (sd_Qv D cy ad A S') args s 0 0 A) (F0 m 67 ls []) := by
  obtain ⟨hx, hb, -, hml, hown, hts, -, hG⟩ := id C
  intro x1 S H locs ls h X hl
  unfold f_X12_findDays_b67 at h
  refine lv_iinc (v := (x1 + (1 : Int32))) (lv' := [(1, .int (x1 + (1 : Int32))), (0, .ref (ad 130))]) hx hb dX12_findDays_67 hl (k := 1) rfl rfl (by decide) rfl (fun ls hl => ?_)
  refine lv_goto (tgt := 7) hx hb dX12_findDays_70 (by decide) ?_
  exact hq7 (x1 + (1 : Int32)) S _ _ _ h X (lv_sub hl [1, 0] rfl)
def f_X12_findDays_l7 : Nat → Int32 → sd_St → Option (Unit × sd_St)
  | 0 => fun _ _ => none
  | n + 1 => fun x1 S => sd_cl (f_X12_people S) (fun r_2 S_1 => (if r_2 ≤ x1 then (some ((), S_1)) else sd_cl (f_X12_bornOf x1 S_1) (fun r_5 S_4 => sd_cl (f_X12_adds r_5 S_4) (fun _ S_6 => sd_ld S_6 136 (1 : Int32) (fun v_8 => (if v_8 = (1 : Int32) then sd_ld S_6 136 (((3 : Int32) + ((4 : Int32) * x1)) + (1 : Int32)) (fun v_10 => (if v_10 ≤ 0 then f_X12_findDays_b67 (f_X12_findDays_l7 n) x1 S_6 else sd_ld S_6 136 (((3 : Int32) + ((4 : Int32) * x1)) + (1 : Int32)) (fun v_12 => sd_cl (f_X12_adds (v_12 - (1 : Int32)) S_6) (fun _ S_13 => f_X12_findDays_b67 (f_X12_findDays_l7 n) x1 S_13)))) else f_X12_findDays_b67 (f_X12_findDays_l7 n) x1 S_6))))))
set_option maxHeartbeats 4000000 in
set_option maxRecDepth 100000 in
theorem t_X12_findDays_l7 (C : sd_C RX12 cX12_findDays 2 none D cy ad A b0 p s m args meth c) {S' : sd_St} : ∀ (n : Nat) (x1 : Int32) (S : sd_St) (H : Heap) (locs : List Loc) (ls : Array Slot), f_X12_findDays_l7 n x1 S = some ((), S') → sd_H D cy ad A s S H locs → lv_has ls 2 [(0, .ref (ad 130)), (1, .int x1)] → W p l e (sd_rm 1) s m args below meth c H locs 0 0 (MQ below (sd_Qv D cy ad A S') args s 0 0 A) (F0 m 7 ls []) := by
  obtain ⟨hx, hb, -, hml, hown, hts, -, hG⟩ := id C
  intro n
  induction n with
  | zero => intro x1 S H locs ls h; cases h
  | succ n ih =>
    intro x1 S H locs ls h X hl
    unfold f_X12_findDays_l7 at h
    refine lv_iload_n hx hb dX12_findDays_7 rfl (lv_at hl 1 rfl) ?_
    refine lv_aload_n hx hb dX12_findDays_8 rfl (lv_at hl 0 rfl) ?_
    obtain ⟨r_2, S_1, er_2, h⟩ := sd_cl_some h
    refine k_X12_people C X hl.1 er_2 sd_w24_18 (by decide) (Nat.le_of_ble_eq_true rfl) dX12_findDays_9 (fun H locs X => ?_)
    refine lv_icmp_ge (tgt := 73) hx hb dX12_findDays_12 (by decide) (fun c_3 => ?_) (fun c_3 => ?_)
    · have h := sd_ifp c_3 h
      cases h
      exact sd_vret C X dX12_findDays_73
    · have h := sd_ifn c_3 h
      refine lv_aload_n hx hb dX12_findDays_15 rfl (lv_at hl 0 rfl) ?_
      refine lv_aload_n hx hb dX12_findDays_16 rfl (lv_at hl 0 rfl) ?_
      refine lv_iload_n hx hb dX12_findDays_17 rfl (lv_at hl 1 rfl) ?_
      obtain ⟨r_5, S_4, er_5, h⟩ := sd_cl_some h
      refine k_X12_bornOf C X hl.1 er_5 sd_w27_13 (by decide) (Nat.le_of_ble_eq_true rfl) dX12_findDays_18 (fun H locs X => ?_)
      obtain ⟨r_7, S_6, er_7, h⟩ := sd_cl_some h
      refine k_X12_adds C X hl.1 er_7 sd_w32_20 (by decide) (Nat.le_of_ble_eq_true rfl) dX12_findDays_21 (fun H locs X => ?_)
      refine lv_aload_n hx hb dX12_findDays_24 rfl (lv_at hl 0 rfl) ?_
      refine sd_g12_10 (k := 130) C X (by decide) sd_w8_8 dX12_findDays_25 ?_
      refine lv_iconst (v := (1 : Int32)) hx hb dX12_findDays_28 (by decide) ?_
      obtain ⟨b_8, v_8, e_8, h⟩ := sd_ld_some h
      refine sd_iald C X (by decide) b_8 dX12_findDays_29 (sd_nmi e_8 ?_)
      refine lv_iconst (v := (1 : Int32)) hx hb dX12_findDays_30 (by decide) ?_
      refine lv_icmp_ne (tgt := 67) hx hb dX12_findDays_31 (by decide) (fun c_9 => ?_) (fun c_9 => ?_)
      · have h := sd_ifn c_9 h
        exact t_X12_findDays_b67 C ih x1 S_6 _ _ _ h X (lv_sub hl [0, 1] rfl)
      · have h := sd_ifp c_9 h
        refine lv_aload_n hx hb dX12_findDays_34 rfl (lv_at hl 0 rfl) ?_
        refine sd_g12_10 (k := 130) C X (by decide) sd_w8_8 dX12_findDays_35 ?_
        refine lv_iconst (v := (3 : Int32)) hx hb dX12_findDays_38 (by decide) ?_
        refine lv_iconst (v := (4 : Int32)) hx hb dX12_findDays_39 (by decide) ?_
        refine lv_iload_n hx hb dX12_findDays_40 rfl (lv_at hl 1 rfl) ?_
        refine lv_imul hx hb dX12_findDays_41 ?_
        refine lv_iadd hx hb dX12_findDays_42 ?_
        refine lv_iconst (v := (1 : Int32)) hx hb dX12_findDays_43 (by decide) ?_
        refine lv_iadd hx hb dX12_findDays_44 ?_
        obtain ⟨b_10, v_10, e_10, h⟩ := sd_ld_some h
        refine sd_iald C X (by decide) b_10 dX12_findDays_45 (sd_nmi e_10 ?_)
        refine lv_if_le (tgt := 67) hx hb dX12_findDays_46 (by decide) (fun c_11 => ?_) (fun c_11 => ?_)
        · have h := sd_ifp c_11 h
          exact t_X12_findDays_b67 C ih x1 S_6 _ _ _ h X (lv_sub hl [0, 1] rfl)
        · have h := sd_ifn c_11 h
          refine lv_aload_n hx hb dX12_findDays_49 rfl (lv_at hl 0 rfl) ?_
          refine lv_aload_n hx hb dX12_findDays_50 rfl (lv_at hl 0 rfl) ?_
          refine sd_g12_10 (k := 130) C X (by decide) sd_w8_8 dX12_findDays_51 ?_
          refine lv_iconst (v := (3 : Int32)) hx hb dX12_findDays_54 (by decide) ?_
          refine lv_iconst (v := (4 : Int32)) hx hb dX12_findDays_55 (by decide) ?_
          refine lv_iload_n hx hb dX12_findDays_56 rfl (lv_at hl 1 rfl) ?_
          refine lv_imul hx hb dX12_findDays_57 ?_
          refine lv_iadd hx hb dX12_findDays_58 ?_
          refine lv_iconst (v := (1 : Int32)) hx hb dX12_findDays_59 (by decide) ?_
          refine lv_iadd hx hb dX12_findDays_60 ?_
          obtain ⟨b_12, v_12, e_12, h⟩ := sd_ld_some h
          refine sd_iald C X (by decide) b_12 dX12_findDays_61 (sd_nmi e_12 ?_)
          refine lv_iconst (v := (1 : Int32)) hx hb dX12_findDays_62 (by decide) ?_
          refine lv_isub hx hb dX12_findDays_63 ?_
          obtain ⟨r_14, S_13, er_14, h⟩ := sd_cl_some h
          refine k_X12_adds C X hl.1 er_14 sd_w32_20 (by decide) (Nat.le_of_ble_eq_true rfl) dX12_findDays_64 (fun H locs X => ?_)
          exact t_X12_findDays_b67 C ih x1 S_13 _ _ _ h X (lv_sub hl [0, 1] rfl)
def f_X12_findDays (S : sd_St) : Option (Unit × sd_St) := sd_nm (sd_I S 130 16 (0 : Int32)) (fun S_15 => f_X12_findDays_l7 sd_FU (0 : Int32) S_15)
set_option maxHeartbeats 4000000 in
set_option maxRecDepth 100000 in
theorem c_X12_findDays {S S' : sd_St} (h : f_X12_findDays S = some ((), S')) : Met l yX12_findDays (Cond.code yX12_findDays cX12_findDays 2 none :: sd_wl) (sd_rm 1) (sd_P D cy ad A b0 [.ref (ad 130)] S) (sd_Qv D cy ad A S') 0 0 A := by
  refine sd_met (by decide) (Nat.le_of_ble_eq_true rfl) (fun p e s m args below meth c ls C X hl => ?_)
  obtain ⟨hx, hb, -, hml, hown, hts, -, hG⟩ := id C
  replace C : sd_C RX12 cX12_findDays 2 none D cy ad A b0 p s m args meth c := C
  replace hl : lv_has ls 2 [(0, .ref (ad 130))] := hl
  unfold f_X12_findDays at h
  refine lv_aload_n hx hb dX12_findDays_0 rfl (lv_at hl 0 rfl) ?_
  refine lv_iconst (v := (0 : Int32)) hx hb dX12_findDays_1 (by decide) ?_
  obtain ⟨S_15, eS_15, h⟩ := sd_nm_some h
  refine sd_p12_16 C X (by decide) sd_w32_15 dX12_findDays_2 (fun H locs X => ?_)
  rw [← eS_15] at X
  refine lv_iconst (v := (0 : Int32)) hx hb dX12_findDays_5 (by decide) ?_
  refine lv_istore_n (lv' := [(1, .int (0 : Int32)), (0, .ref (ad 130))]) hx hb dX12_findDays_6 rfl hl (by decide) rfl (fun ls hl => ?_)
  exact t_X12_findDays_l7 C sd_FU (0 : Int32) S_15 _ _ _ h X (lv_sub hl [1, 0] rfl)
theorem k_X12_findDays (C : sd_C own cc nL rt D cy ad A b0 p s m args meth c) (X : sd_H D cy ad A s S H locs) (hls : ls.size = nL) {S2 : sd_St} (h : f_X12_findDays S = some ((), S2)) (hlink : Cond.methodLink own index yX12_findDays ∈ sd_wl) (hR : 2 ≤ R.frames ∧ 61 ≤ R.locals ∧ cells ≤ R.cells ∧ slots ≤ R.slots) (hst : (rest.map fun v => v.category).sum ≤ 8) (hdg : decode cc pc = .ok (.invokevirtual index, 3)) (kk : ∀ (H1 : Heap) (locs1 : List Loc), sd_H D cy ad A s S2 H1 locs1 → W p l e R s m args below meth c H1 locs1 cells slots Q (F0 m (pc + 3) ls rest)) : W p l e R s m args below meth c H locs cells slots Q (F0 m pc ls (.ref (ad 130) :: rest)) :=
  sd_goV X (sd_runV C X hls (n := 0) (k := 130) (As := []) (c_X12_findDays (l := l) (b0 := b0) h) (sd_goodV hlink sd_w32_17 sd_w32_18 sd_w1_5 sd_w32_19) (ci := 12) rfl (by rw [(show sd_kd 130 = 12 by decide)]; decide) (sd_c12 (show sd_kd 130 = 12 by decide)) (by decide +kernel) rfl hR rfl hst hdg) kk
end SM4
