section SM2
variable {p : Program} {l : Launch} {e : Env} {R : Room} {s : State} {m : MethodId} {args : Array Value} {below : List Frame} {meth : Method} {c : Code} {H : Heap} {locs : List Loc} {Q : State → Prop}
variable {cc : ByteArray} {pc nL index cells slots : Nat} {ls : Array Slot} {rest : List Value} {D : va_G} {cy : Nat → ClassId} {ad : Nat → Nat} {A : Nat → Prop} {b0 : Nat} {own : String} {rt : Option FieldType} {S : sd_St}
/-! ===== SecretDays$TownReader.takePerson()I ===== -/
def f_X9_takePerson (k0 : Nat) (S : sd_St) : Option (Int32 × sd_St) := sd_cl (f_X9_findPerson k0 S) (fun r_2 S_1 => sd_cl (f_X7_step (k0 + 12) S_1) (fun _ S_3 => (some (r_2, S_3))))
set_option maxHeartbeats 4000000 in
set_option maxRecDepth 100000 in
theorem c_X9_takePerson {k0 : Nat} (hk0 : sd_kd k0 = 9) {S S' : sd_St} {r : Int32} (h : f_X9_takePerson k0 S = some (r, S')) : Met l yX9_takePerson (Cond.code yX9_takePerson cX9_takePerson 2 (some .int) :: sd_wl) (sd_rm 3) (sd_P D cy ad A b0 [.ref (ad k0)] S) (sd_Qi D cy ad A r S') 0 0 A := by
  refine sd_met (by decide) (Nat.le_of_ble_eq_true rfl) (fun p e s m args below meth c ls C X hl => ?_)
  obtain ⟨hx, hb, -, hml, hown, hts, -, hG⟩ := id C
  replace C : sd_C RX9 cX9_takePerson 2 (some .int) D cy ad A b0 p s m args meth c := C
  replace hl : lv_has ls 2 [(0, .ref (ad k0))] := hl
  unfold f_X9_takePerson at h
  refine lv_aload_n hx hb dX9_takePerson_0 rfl (lv_at hl 0 rfl) ?_
  obtain ⟨r_2, S_1, er_2, h⟩ := sd_cl_some h
  refine k_X9_findPerson C X hl.1 hk0 er_2 sd_w15_4 (by decide) (Nat.le_of_ble_eq_true rfl) dX9_takePerson_1 (fun H locs X => ?_)
  refine lv_istore_n (lv' := [(1, .int r_2), (0, .ref (ad k0))]) hx hb dX9_takePerson_4 rfl hl (by decide) rfl (fun ls hl => ?_)
  refine lv_aload_n hx hb dX9_takePerson_5 rfl (lv_at hl 1 rfl) ?_
  refine sd_g9_1 (k := k0) C X hk0 sd_w3_14 dX9_takePerson_6 ?_
  obtain ⟨r_4, S_3, er_4, h⟩ := sd_cl_some h
  refine k_X7_step C X hl.1 (sd_k9_12 hk0) er_4 sd_w13_1 (by decide) (Nat.le_of_ble_eq_true rfl) dX9_takePerson_9 (fun H locs X => ?_)
  refine lv_iload_n hx hb dX9_takePerson_12 rfl (lv_at hl 0 rfl) ?_
  cases h
  exact sd_iret C X dX9_takePerson_13
theorem k_X9_takePerson (C : sd_C own cc nL rt D cy ad A b0 p s m args meth c) (X : sd_H D cy ad A s S H locs) (hls : ls.size = nL) {k0 : Nat} {S2 : sd_St} {r : Int32} (hk0 : sd_kd k0 = 9) (h : f_X9_takePerson k0 S = some (r, S2)) (hlink : Cond.methodLink own index yX9_takePerson ∈ sd_wl) (hR : 4 ≤ R.frames ∧ 141 ≤ R.locals ∧ cells ≤ R.cells ∧ slots ≤ R.slots) (hst : (rest.map fun v => v.category).sum ≤ 8) (hdg : decode cc pc = .ok (.invokevirtual index, 3)) (kk : ∀ (H1 : Heap) (locs1 : List Loc), sd_H D cy ad A s S2 H1 locs1 → W p l e R s m args below meth c H1 locs1 cells slots Q (F0 m (pc + 3) ls (.int r :: rest))) : W p l e R s m args below meth c H locs cells slots Q (F0 m pc ls (.ref (ad k0) :: rest)) :=
  sd_goI X (sd_runV C X hls (n := 0) (k := k0) (As := []) (c_X9_takePerson (l := l) (b0 := b0) hk0 h) (sd_goodV hlink sd_w15_1 sd_w15_2 sd_w1_15 sd_w15_3) (ci := 9) rfl (by rw [hk0]; decide) (sd_c9 hk0) (by decide +kernel) rfl hR rfl hst hdg) kk
/-! ===== java/lang/Integer.bitCount(I)I ===== -/
def f_J6_bitCount_0f7a4 (x0 : Int32) (S : sd_St) : Option (Int32 × sd_St) := sd_nm ((x0 - (((x0.toUInt32 >>> ((1 : Int32).toUInt32 &&& Int32.toUInt32 31)).toInt32) &&& (1431655765 : Int32)))) (fun v_1 => sd_nm (((v_1 &&& (858993459 : Int32)) + (((v_1.toUInt32 >>> ((2 : Int32).toUInt32 &&& Int32.toUInt32 31)).toInt32) &&& (858993459 : Int32)))) (fun v_2 => sd_nm (((v_2 + ((v_2.toUInt32 >>> ((4 : Int32).toUInt32 &&& Int32.toUInt32 31)).toInt32)) &&& (252645135 : Int32))) (fun v_3 => sd_nm ((v_3 + ((v_3.toUInt32 >>> ((8 : Int32).toUInt32 &&& Int32.toUInt32 31)).toInt32))) (fun v_4 => sd_nm ((v_4 + ((v_4.toUInt32 >>> ((16 : Int32).toUInt32 &&& Int32.toUInt32 31)).toInt32))) (fun v_5 => (some ((v_5 &&& (63 : Int32)), S)))))))
set_option maxHeartbeats 4000000 in
set_option maxRecDepth 100000 in
theorem c_J6_bitCount_0f7a4 {x0 : Int32} {S S' : sd_St} {r : Int32} (h : f_J6_bitCount_0f7a4 x0 S = some (r, S')) : Met l yJ6_bitCount_0f7a4 (Cond.code yJ6_bitCount_0f7a4 cJ6_bitCount_0f7a4 1 (some .int) :: sd_wl) (sd_rm 0) (sd_P D cy ad A b0 [.int x0] S) (sd_Qi D cy ad A r S') 0 0 A := by
  refine sd_met (by decide) (Nat.le_of_ble_eq_true rfl) (fun p e s m args below meth c ls C X hl => ?_)
  obtain ⟨hx, hb, -, hml, hown, hts, -, hG⟩ := id C
  replace C : sd_C RJ6 cJ6_bitCount_0f7a4 1 (some .int) D cy ad A b0 p s m args meth c := C
  replace hl : lv_has ls 1 [(0, .int x0)] := hl
  unfold f_J6_bitCount_0f7a4 at h
  refine lv_iload_n hx hb dJ6_bitCount_0f7a4_0 rfl (lv_at hl 0 rfl) ?_
  refine lv_iload_n hx hb dJ6_bitCount_0f7a4_1 rfl (lv_at hl 0 rfl) ?_
  refine lv_iconst (v := (1 : Int32)) hx hb dJ6_bitCount_0f7a4_2 (by decide) ?_
  refine lv_iushr (v := (x0.toUInt32 >>> ((1 : Int32).toUInt32 &&& Int32.toUInt32 31)).toInt32) hx hb dJ6_bitCount_0f7a4_3 rfl ?_
  refine lv_ldcw (v := (1431655765 : Int32)) hx hb hown (hts _ sd_w15_20) dJ6_bitCount_0f7a4_4 ?_
  refine lv_iand hx hb dJ6_bitCount_0f7a4_7 ?_
  refine lv_isub hx hb dJ6_bitCount_0f7a4_8 ?_
  obtain ⟨v_1, e_1, h⟩ := sd_nm_some h
  refine sd_nmi e_1 ?_
  refine lv_istore_n (lv' := [(0, .int v_1)]) hx hb dJ6_bitCount_0f7a4_9 rfl hl (by decide) rfl (fun ls hl => ?_)
  refine lv_iload_n hx hb dJ6_bitCount_0f7a4_10 rfl (lv_at hl 0 rfl) ?_
  refine lv_ldcw (v := (858993459 : Int32)) hx hb hown (hts _ sd_w15_21) dJ6_bitCount_0f7a4_11 ?_
  refine lv_iand hx hb dJ6_bitCount_0f7a4_14 ?_
  refine lv_iload_n hx hb dJ6_bitCount_0f7a4_15 rfl (lv_at hl 0 rfl) ?_
  refine lv_iconst (v := (2 : Int32)) hx hb dJ6_bitCount_0f7a4_16 (by decide) ?_
  refine lv_iushr (v := (v_1.toUInt32 >>> ((2 : Int32).toUInt32 &&& Int32.toUInt32 31)).toInt32) hx hb dJ6_bitCount_0f7a4_17 rfl ?_
  refine lv_ldcw (v := (858993459 : Int32)) hx hb hown (hts _ sd_w15_21) dJ6_bitCount_0f7a4_18 ?_
  refine lv_iand hx hb dJ6_bitCount_0f7a4_21 ?_
  refine lv_iadd hx hb dJ6_bitCount_0f7a4_22 ?_
  obtain ⟨v_2, e_2, h⟩ := sd_nm_some h
  refine sd_nmi e_2 ?_
  refine lv_istore_n (lv' := [(0, .int v_2)]) hx hb dJ6_bitCount_0f7a4_23 rfl hl (by decide) rfl (fun ls hl => ?_)
  refine lv_iload_n hx hb dJ6_bitCount_0f7a4_24 rfl (lv_at hl 0 rfl) ?_
  refine lv_iload_n hx hb dJ6_bitCount_0f7a4_25 rfl (lv_at hl 0 rfl) ?_
  refine lv_iconst (v := (4 : Int32)) hx hb dJ6_bitCount_0f7a4_26 (by decide) ?_
  refine lv_iushr (v := (v_2.toUInt32 >>> ((4 : Int32).toUInt32 &&& Int32.toUInt32 31)).toInt32) hx hb dJ6_bitCount_0f7a4_27 rfl ?_
  refine lv_iadd hx hb dJ6_bitCount_0f7a4_28 ?_
  refine lv_ldcw (v := (252645135 : Int32)) hx hb hown (hts _ sd_w15_22) dJ6_bitCount_0f7a4_29 ?_
  refine lv_iand hx hb dJ6_bitCount_0f7a4_32 ?_
  obtain ⟨v_3, e_3, h⟩ := sd_nm_some h
  refine sd_nmi e_3 ?_
  refine lv_istore_n (lv' := [(0, .int v_3)]) hx hb dJ6_bitCount_0f7a4_33 rfl hl (by decide) rfl (fun ls hl => ?_)
  refine lv_iload_n hx hb dJ6_bitCount_0f7a4_34 rfl (lv_at hl 0 rfl) ?_
  refine lv_iload_n hx hb dJ6_bitCount_0f7a4_35 rfl (lv_at hl 0 rfl) ?_
  refine lv_bipush (v := (8 : Int32)) hx hb dJ6_bitCount_0f7a4_36 (by decide) ?_
  refine lv_iushr (v := (v_3.toUInt32 >>> ((8 : Int32).toUInt32 &&& Int32.toUInt32 31)).toInt32) hx hb dJ6_bitCount_0f7a4_38 rfl ?_
  refine lv_iadd hx hb dJ6_bitCount_0f7a4_39 ?_
  obtain ⟨v_4, e_4, h⟩ := sd_nm_some h
  refine sd_nmi e_4 ?_
  refine lv_istore_n (lv' := [(0, .int v_4)]) hx hb dJ6_bitCount_0f7a4_40 rfl hl (by decide) rfl (fun ls hl => ?_)
  refine lv_iload_n hx hb dJ6_bitCount_0f7a4_41 rfl (lv_at hl 0 rfl) ?_
  refine lv_iload_n hx hb dJ6_bitCount_0f7a4_42 rfl (lv_at hl 0 rfl) ?_
  refine lv_bipush (v := (16 : Int32)) hx hb dJ6_bitCount_0f7a4_43 (by decide) ?_
  refine lv_iushr (v := (v_4.toUInt32 >>> ((16 : Int32).toUInt32 &&& Int32.toUInt32 31)).toInt32) hx hb dJ6_bitCount_0f7a4_45 rfl ?_
  refine lv_iadd hx hb dJ6_bitCount_0f7a4_46 ?_
  obtain ⟨v_5, e_5, h⟩ := sd_nm_some h
  refine sd_nmi e_5 ?_
  refine lv_istore_n (lv' := [(0, .int v_5)]) hx hb dJ6_bitCount_0f7a4_47 rfl hl (by decide) rfl (fun ls hl => ?_)
  refine lv_iload_n hx hb dJ6_bitCount_0f7a4_48 rfl (lv_at hl 0 rfl) ?_
  refine lv_bipush (v := (63 : Int32)) hx hb dJ6_bitCount_0f7a4_49 (by decide) ?_
  refine lv_iand hx hb dJ6_bitCount_0f7a4_51 ?_
  cases h
  exact sd_iret C X dJ6_bitCount_0f7a4_52
theorem k_J6_bitCount_0f7a4 (C : sd_C own cc nL rt D cy ad A b0 p s m args meth c) (X : sd_H D cy ad A s S H locs) (hls : ls.size = nL) {x0 : Int32} {S2 : sd_St} {r : Int32} (h : f_J6_bitCount_0f7a4 x0 S = some (r, S2)) (hlink : Cond.methodLink own index yJ6_bitCount_0f7a4 ∈ sd_wl) (hR : 1 ≤ R.frames ∧ 20 ≤ R.locals ∧ cells ≤ R.cells ∧ slots ≤ R.slots) (hst : (rest.map fun v => v.category).sum ≤ 8) (hdg : decode cc pc = .ok (.invokestatic index, 3)) (kk : ∀ (H1 : Heap) (locs1 : List Loc), sd_H D cy ad A s S2 H1 locs1 → W p l e R s m args below meth c H1 locs1 cells slots Q (F0 m (pc + 3) ls (.int r :: rest))) : W p l e R s m args below meth c H locs cells slots Q (F0 m pc ls (.int x0 :: rest)) :=
  sd_goI X (sd_runJ C X hls (n := 1) (As := [.int x0]) (c_J6_bitCount_0f7a4 (l := l) (b0 := b0) h) hlink sd_w15_17 sd_w15_18 sd_w15_19 (by decide +kernel) rfl hR rfl hst hdg) kk
/-! ===== SecretDays$TownReader.readHost(I)V ===== -/
def f_X9_readHost_b67 (k0 : Nat) (x1 : Int32) (x2 : Int32) (w1 : Int32) (S : sd_St) : Option (Unit × sd_St) := sd_cl (f_X9_failIf k0 w1 (5 : Int32) S) (fun _ S_1 => (if (S_1.1 k0 5) = 0 then sd_cl (f_X8_addCall (k0 + 1) x1 x2 S_1) (fun _ S_4 => sd_cl (f_X7_step (k0 + 12) S_4) (fun _ S_6 => (some ((), S_6)))) else (some ((), S_1))))
set_option maxHeartbeats 4000000 in
set_option maxRecDepth 100000 in
theorem t_X9_readHost_b67 (C : sd_C RX9 cX9_readHost 3 none D cy ad A b0 p s m args meth c) {k0 : Nat} (hk0 : sd_kd k0 = 9) {S' : sd_St} : ∀ (x1 : Int32) (x2 : Int32) (w1 : Int32) (S : sd_St) (H : Heap) (locs : List Loc) (ls : Array Slot), f_X9_readHost_b67 k0 x1 x2 w1 S = some ((), S') → sd_H D cy ad A s S H locs → lv_has ls 3 [(0, .ref (ad k0)), (1, .int x1), (2, .int x2)] → W p l e (sd_rm 3) s m args below meth c H locs 0 0 (MQ below (sd_Qv D cy ad A S') args s 0 0 A) (F0 m 67 ls [.int w1, .ref (ad k0)]) := by
  obtain ⟨hx, hb, -, hml, hown, hts, -, hG⟩ := id C
  intro x1 x2 w1 S H locs ls h X hl
  unfold f_X9_readHost_b67 at h
  refine lv_iconst (v := (5 : Int32)) hx hb dX9_readHost_67 (by decide) ?_
  obtain ⟨r_2, S_1, er_2, h⟩ := sd_cl_some h
  refine k_X9_failIf C X hl.1 hk0 er_2 sd_w12_20 (by decide) (Nat.le_of_ble_eq_true rfl) dX9_readHost_68 (fun H locs X => ?_)
  refine lv_aload_n hx hb dX9_readHost_71 rfl (lv_at hl 0 rfl) ?_
  refine sd_g9_5 C X hk0 sd_w10_14 dX9_readHost_72 ?_
  refine lv_if_ne (tgt := 94) hx hb dX9_readHost_75 (by decide) (fun c_3 => ?_) (fun c_3 => ?_)
  · have h := sd_ifn c_3 h
    cases h
    exact sd_vret C X dX9_readHost_94
  · have h := sd_ifp c_3 h
    refine lv_aload_n hx hb dX9_readHost_78 rfl (lv_at hl 0 rfl) ?_
    refine sd_g9_0 (k := k0) C X hk0 sd_w3_10 dX9_readHost_79 ?_
    refine lv_iload_n hx hb dX9_readHost_82 rfl (lv_at hl 1 rfl) ?_
    refine lv_iload_n hx hb dX9_readHost_83 rfl (lv_at hl 2 rfl) ?_
    obtain ⟨r_5, S_4, er_5, h⟩ := sd_cl_some h
    refine k_X8_addCall C X hl.1 (sd_k9_1 hk0) er_5 sd_w15_23 (by decide) (Nat.le_of_ble_eq_true rfl) dX9_readHost_84 (fun H locs X => ?_)
    refine lv_aload_n hx hb dX9_readHost_87 rfl (lv_at hl 0 rfl) ?_
    refine sd_g9_1 (k := k0) C X hk0 sd_w3_14 dX9_readHost_88 ?_
    obtain ⟨r_7, S_6, er_7, h⟩ := sd_cl_some h
    refine k_X7_step C X hl.1 (sd_k9_12 hk0) er_7 sd_w13_1 (by decide) (Nat.le_of_ble_eq_true rfl) dX9_readHost_91 (fun H locs X => ?_)
    cases h
    exact sd_vret C X dX9_readHost_94
def f_X9_readHost_b40 (k0 : Nat) (x1 : Int32) (x2 : Int32) (w1 : Int32) (S : sd_St) : Option (Unit × sd_St) := sd_cl (f_X9_failIf k0 w1 (3 : Int32) S) (fun _ S_8 => sd_ld S_8 (k0 + 5) x2 (fun v_10 => sd_cl (f_J6_bitCount_0f7a4 v_10 S_8) (fun r_12 S_11 => (if r_12 < (6 : Int32) then f_X9_readHost_b67 k0 x1 x2 (0 : Int32) S_11 else f_X9_readHost_b67 k0 x1 x2 (1 : Int32) S_11))))
set_option maxHeartbeats 4000000 in
set_option maxRecDepth 100000 in
theorem t_X9_readHost_b40 (C : sd_C RX9 cX9_readHost 3 none D cy ad A b0 p s m args meth c) {k0 : Nat} (hk0 : sd_kd k0 = 9) {S' : sd_St} : ∀ (x1 : Int32) (x2 : Int32) (w1 : Int32) (S : sd_St) (H : Heap) (locs : List Loc) (ls : Array Slot), f_X9_readHost_b40 k0 x1 x2 w1 S = some ((), S') → sd_H D cy ad A s S H locs → lv_has ls 3 [(0, .ref (ad k0)), (1, .int x1), (2, .int x2)] → W p l e (sd_rm 3) s m args below meth c H locs 0 0 (MQ below (sd_Qv D cy ad A S') args s 0 0 A) (F0 m 40 ls [.int w1, .ref (ad k0)]) := by
  obtain ⟨hx, hb, -, hml, hown, hts, -, hG⟩ := id C
  intro x1 x2 w1 S H locs ls h X hl
  unfold f_X9_readHost_b40 at h
  refine lv_iconst (v := (3 : Int32)) hx hb dX9_readHost_40 (by decide) ?_
  obtain ⟨r_9, S_8, er_9, h⟩ := sd_cl_some h
  refine k_X9_failIf C X hl.1 hk0 er_9 sd_w12_20 (by decide) (Nat.le_of_ble_eq_true rfl) dX9_readHost_41 (fun H locs X => ?_)
  refine lv_aload_n hx hb dX9_readHost_44 rfl (lv_at hl 0 rfl) ?_
  refine lv_aload_n hx hb dX9_readHost_45 rfl (lv_at hl 0 rfl) ?_
  refine sd_g9_0 (k := k0) C X hk0 sd_w3_10 dX9_readHost_46 ?_
  refine sd_g8_4 (k := (k0 + 1)) C X (sd_k9_1 hk0) sd_w15_13 dX9_readHost_49 ?_
  refine lv_iload_n hx hb dX9_readHost_52 rfl (lv_at hl 2 rfl) ?_
  obtain ⟨b_10, v_10, e_10, h⟩ := sd_ld_some h
  refine sd_iald C X (sd_k9_5 hk0) b_10 dX9_readHost_53 (sd_nmi e_10 ?_)
  obtain ⟨r_12, S_11, er_12, h⟩ := sd_cl_some h
  refine k_J6_bitCount_0f7a4 C X hl.1 er_12 sd_w15_16 (by decide) (Nat.le_of_ble_eq_true rfl) dX9_readHost_54 (fun H locs X => ?_)
  refine lv_bipush (v := (6 : Int32)) hx hb dX9_readHost_57 (by decide) ?_
  refine lv_icmp_lt (tgt := 66) hx hb dX9_readHost_59 (by decide) (fun c_13 => ?_) (fun c_13 => ?_)
  · have h := sd_ifp c_13 h
    refine lv_iconst (v := (0 : Int32)) hx hb dX9_readHost_66 (by decide) ?_
    exact t_X9_readHost_b67 C hk0 x1 x2 (0 : Int32) S_11 _ _ _ h X (lv_sub hl [0, 1, 2] rfl)
  · have h := sd_ifn c_13 h
    refine lv_iconst (v := (1 : Int32)) hx hb dX9_readHost_62 (by decide) ?_
    refine lv_goto (tgt := 67) hx hb dX9_readHost_63 (by decide) ?_
    exact t_X9_readHost_b67 C hk0 x1 x2 (1 : Int32) S_11 _ _ _ h X (lv_sub hl [0, 1, 2] rfl)
def f_X9_readHost_b35 (k0 : Nat) (x1 : Int32) (x2 : Int32) (S : sd_St) : Option (Unit × sd_St) := f_X9_readHost_b40 k0 x1 x2 (1 : Int32) S
set_option maxHeartbeats 4000000 in
set_option maxRecDepth 100000 in
theorem t_X9_readHost_b35 (C : sd_C RX9 cX9_readHost 3 none D cy ad A b0 p s m args meth c) {k0 : Nat} (hk0 : sd_kd k0 = 9) {S' : sd_St} : ∀ (x1 : Int32) (x2 : Int32) (S : sd_St) (H : Heap) (locs : List Loc) (ls : Array Slot), f_X9_readHost_b35 k0 x1 x2 S = some ((), S') → sd_H D cy ad A s S H locs → lv_has ls 3 [(0, .ref (ad k0)), (1, .int x1), (2, .int x2)] → W p l e (sd_rm 3) s m args below meth c H locs 0 0 (MQ below (sd_Qv D cy ad A S') args s 0 0 A) (F0 m 35 ls [.ref (ad k0)]) := by
  obtain ⟨hx, hb, -, hml, hown, hts, -, hG⟩ := id C
  intro x1 x2 S H locs ls h X hl
  unfold f_X9_readHost_b35 at h
  refine lv_iconst (v := (1 : Int32)) hx hb dX9_readHost_35 (by decide) ?_
  refine lv_goto (tgt := 40) hx hb dX9_readHost_36 (by decide) ?_
  exact t_X9_readHost_b40 C hk0 x1 x2 (1 : Int32) S _ _ _ h X (lv_sub hl [0, 1, 2] rfl)
def f_X9_readHost (k0 : Nat) (x1 : Int32) (S : sd_St) : Option (Unit × sd_St) := sd_cl (f_X9_findPerson k0 S) (fun r_15 S_14 => (if (S_14.1 k0 5) = 0 then (if r_15 = x1 then f_X9_readHost_b35 k0 x1 r_15 S_14 else sd_ld S_14 (k0 + 6) x1 (fun v_18 => sd_cl (f_X11_has v_18 r_15 S_14) (fun r_20 S_19 => (if r_20 = 0 then f_X9_readHost_b40 k0 x1 r_15 (0 : Int32) S_19 else f_X9_readHost_b35 k0 x1 r_15 S_19)))) else (some ((), S_14))))
set_option maxHeartbeats 4000000 in
set_option maxRecDepth 100000 in
theorem c_X9_readHost {k0 : Nat} {x1 : Int32} (hk0 : sd_kd k0 = 9) {S S' : sd_St} (h : f_X9_readHost k0 x1 S = some ((), S')) : Met l yX9_readHost (Cond.code yX9_readHost cX9_readHost 3 none :: sd_wl) (sd_rm 3) (sd_P D cy ad A b0 [.ref (ad k0), .int x1] S) (sd_Qv D cy ad A S') 0 0 A := by
  refine sd_met (by decide) (Nat.le_of_ble_eq_true rfl) (fun p e s m args below meth c ls C X hl => ?_)
  obtain ⟨hx, hb, -, hml, hown, hts, -, hG⟩ := id C
  replace C : sd_C RX9 cX9_readHost 3 none D cy ad A b0 p s m args meth c := C
  replace hl : lv_has ls 3 [(0, .ref (ad k0)), (1, .int x1)] := hl
  unfold f_X9_readHost at h
  refine lv_aload_n hx hb dX9_readHost_0 rfl (lv_at hl 0 rfl) ?_
  obtain ⟨r_15, S_14, er_15, h⟩ := sd_cl_some h
  refine k_X9_findPerson C X hl.1 hk0 er_15 sd_w15_4 (by decide) (Nat.le_of_ble_eq_true rfl) dX9_readHost_1 (fun H locs X => ?_)
  refine lv_istore_n (lv' := [(2, .int r_15), (0, .ref (ad k0)), (1, .int x1)]) hx hb dX9_readHost_4 rfl hl (by decide) rfl (fun ls hl => ?_)
  refine lv_aload_n hx hb dX9_readHost_5 rfl (lv_at hl 1 rfl) ?_
  refine sd_g9_5 C X hk0 sd_w10_14 dX9_readHost_6 ?_
  refine lv_if_eq (tgt := 13) hx hb dX9_readHost_9 (by decide) (fun c_16 => ?_) (fun c_16 => ?_)
  · have h := sd_ifp c_16 h
    refine lv_aload_n hx hb dX9_readHost_13 rfl (lv_at hl 1 rfl) ?_
    refine lv_iload_n hx hb dX9_readHost_14 rfl (lv_at hl 0 rfl) ?_
    refine lv_iload_n hx hb dX9_readHost_15 rfl (lv_at hl 2 rfl) ?_
    refine lv_icmp_eq (tgt := 35) hx hb dX9_readHost_16 (by decide) (fun c_17 => ?_) (fun c_17 => ?_)
    · have h := sd_ifp c_17 h
      exact t_X9_readHost_b35 C hk0 x1 r_15 S_14 _ _ _ h X (lv_sub hl [1, 2, 0] rfl)
    · have h := sd_ifn c_17 h
      refine lv_aload_n hx hb dX9_readHost_19 rfl (lv_at hl 1 rfl) ?_
      refine sd_g9_0 (k := k0) C X hk0 sd_w3_10 dX9_readHost_20 ?_
      refine sd_g8_5 (k := (k0 + 1)) C X (sd_k9_1 hk0) sd_w15_12 dX9_readHost_23 ?_
      refine lv_iload_n hx hb dX9_readHost_26 rfl (lv_at hl 2 rfl) ?_
      obtain ⟨b_18, v_18, e_18, h⟩ := sd_ld_some h
      refine sd_iald C X (sd_k9_6 hk0) b_18 dX9_readHost_27 (sd_nmi e_18 ?_)
      refine lv_iload_n hx hb dX9_readHost_28 rfl (lv_at hl 0 rfl) ?_
      obtain ⟨r_20, S_19, er_20, h⟩ := sd_cl_some h
      refine k_X11_has_n C X hl.1 er_20 (List.mem_of_getElem? (i := 12) rfl) (by decide) (Nat.le_of_ble_eq_true rfl) dX9_readHost_29 (fun H locs X => ?_)
      refine lv_if_eq (tgt := 39) hx hb dX9_readHost_32 (by decide) (fun c_21 => ?_) (fun c_21 => ?_)
      · have h := sd_ifp c_21 h
        refine lv_iconst (v := (0 : Int32)) hx hb dX9_readHost_39 (by decide) ?_
        exact t_X9_readHost_b40 C hk0 x1 r_15 (0 : Int32) S_19 _ _ _ h X (lv_sub hl [1, 2, 0] rfl)
      · have h := sd_ifn c_21 h
        exact t_X9_readHost_b35 C hk0 x1 r_15 S_19 _ _ _ h X (lv_sub hl [1, 2, 0] rfl)
  · have h := sd_ifn c_16 h
    cases h
    exact sd_vret C X dX9_readHost_12
theorem k_X9_readHost (C : sd_C own cc nL rt D cy ad A b0 p s m args meth c) (X : sd_H D cy ad A s S H locs) (hls : ls.size = nL) {k0 : Nat} {x1 : Int32} {S2 : sd_St} (hk0 : sd_kd k0 = 9) (h : f_X9_readHost k0 x1 S = some ((), S2)) (hlink : Cond.methodLink own index yX9_readHost ∈ sd_wl) (hR : 4 ≤ R.frames ∧ 142 ≤ R.locals ∧ cells ≤ R.cells ∧ slots ≤ R.slots) (hst : (rest.map fun v => v.category).sum ≤ 8) (hdg : decode cc pc = .ok (.invokevirtual index, 3)) (kk : ∀ (H1 : Heap) (locs1 : List Loc), sd_H D cy ad A s S2 H1 locs1 → W p l e R s m args below meth c H1 locs1 cells slots Q (F0 m (pc + 3) ls rest)) : W p l e R s m args below meth c H locs cells slots Q (F0 m pc ls (.int x1 :: .ref (ad k0) :: rest)) :=
  sd_goV X (sd_runV C X hls (n := 1) (k := k0) (As := [.int x1]) (c_X9_readHost (l := l) (b0 := b0) hk0 h) (sd_goodV hlink sd_w15_9 sd_w15_10 sd_w1_15 sd_w15_11) (ci := 9) rfl (by rw [hk0]; decide) (sd_c9 hk0) (by decide +kernel) rfl hR rfl hst hdg) kk
/-! ===== SecretDays$TownReader.readCalls()V ===== -/
def f_X9_readCalls_b61 (q23 : (Int32 → Int32 → Int32 → sd_St → Option (Unit × sd_St))) (k0 : Nat) (x1 : Int32) (x3 : Int32) (w0 : Int32) (S : sd_St) : Option (Unit × sd_St) := q23 x1 w0 (x3 + (1 : Int32)) S
set_option maxHeartbeats 4000000 in
set_option maxRecDepth 100000 in
theorem t_X9_readCalls_b61 (C : sd_C RX9 cX9_readCalls 4 none D cy ad A b0 p s m args meth c) {k0 : Nat} (hk0 : sd_kd k0 = 9) {S' : sd_St} {q23 : (Int32 → Int32 → Int32 → sd_St → Option (Unit × sd_St))} (hq23 : ∀ (x1 : Int32) (x2 : Int32) (x3 : Int32) (S : sd_St) (H : Heap) (locs : List Loc) (ls : Array Slot), q23 x1 x2 x3 S = some ((), S') → sd_H D cy ad A s S H locs → lv_has ls 4 [(0, .ref (ad k0)), (1, .int x1), (2, .int x2), (3, .int x3)] → W p l e (sd_rm 4) s m args below meth c H locs 0 0 (MQ below (sd_Qv D cy ad A S') args s 0 0 A) (F0 m 23 ls [])) : ∀ (x1 : Int32) (x3 : Int32) (w0 : Int32) (S : sd_St) (H : Heap) (locs : List Loc) (ls : Array Slot), f_X9_readCalls_b61 q23 k0 x1 x3 w0 S = some ((), S') → sd_H D cy ad A s S H locs → lv_has ls 4 [(0, .ref (ad k0)), (1, .int x1), (3, .int x3)] → W p l e (sd_rm 4) s m args below meth c H locs 0 0 (MQ below (sd_Qv D cy ad A S') args s 0 0 A) (F0 m 61 ls [.int w0]) := by
  obtain ⟨hx, hb, -, hml, hown, hts, -, hG⟩ := id C
  intro x1 x3 w0 S H locs ls h X hl
  unfold f_X9_readCalls_b61 at h
  refine lv_istore_n (lv' := [(2, .int w0), (0, .ref (ad k0)), (1, .int x1), (3, .int x3)]) hx hb dX9_readCalls_61 rfl hl (by decide) rfl (fun ls hl => ?_)
  refine lv_iinc (v := (x3 + (1 : Int32))) (lv' := [(3, .int (x3 + (1 : Int32))), (2, .int w0), (0, .ref (ad k0)), (1, .int x1)]) hx hb dX9_readCalls_62 hl (k := 3) rfl rfl (by decide) rfl (fun ls hl => ?_)
  refine lv_goto (tgt := 23) hx hb dX9_readCalls_65 (by decide) ?_
  exact hq23 x1 w0 (x3 + (1 : Int32)) S _ _ _ h X (lv_sub hl [2, 3, 1, 0] rfl)
def f_X9_readCalls_l23 (k0 : Nat) : Nat → Int32 → Int32 → Int32 → sd_St → Option (Unit × sd_St)
  | 0 => fun _ _ _ _ => none
  | n + 1 => fun x1 x2 x3 S => (if (12 : Int32) ≤ x3 then (some ((), S)) else (if (S.1 k0 5) = 0 then (if x2 = 0 then (some ((), S)) else sd_cl (f_X9_readHost k0 x1 S) (fun _ S_4 => (if (S_4.1 (k0 + 12) 3) = (3 : Int32) then f_X9_readCalls_b61 (f_X9_readCalls_l23 k0 n) k0 x1 x3 (0 : Int32) S_4 else f_X9_readCalls_b61 (f_X9_readCalls_l23 k0 n) k0 x1 x3 (1 : Int32) S_4))) else (some ((), S))))
set_option maxHeartbeats 4000000 in
set_option maxRecDepth 100000 in
theorem t_X9_readCalls_l23 (C : sd_C RX9 cX9_readCalls 4 none D cy ad A b0 p s m args meth c) {k0 : Nat} (hk0 : sd_kd k0 = 9) {S' : sd_St} : ∀ (n : Nat) (x1 : Int32) (x2 : Int32) (x3 : Int32) (S : sd_St) (H : Heap) (locs : List Loc) (ls : Array Slot), f_X9_readCalls_l23 k0 n x1 x2 x3 S = some ((), S') → sd_H D cy ad A s S H locs → lv_has ls 4 [(0, .ref (ad k0)), (1, .int x1), (2, .int x2), (3, .int x3)] → W p l e (sd_rm 4) s m args below meth c H locs 0 0 (MQ below (sd_Qv D cy ad A S') args s 0 0 A) (F0 m 23 ls []) := by
  obtain ⟨hx, hb, -, hml, hown, hts, -, hG⟩ := id C
  intro n
  induction n with
  | zero => intro x1 x2 x3 S H locs ls h; cases h
  | succ n ih =>
    intro x1 x2 x3 S H locs ls h X hl
    unfold f_X9_readCalls_l23 at h
    refine lv_iload_n hx hb dX9_readCalls_23 rfl (lv_at hl 3 rfl) ?_
    refine lv_bipush (v := (12 : Int32)) hx hb dX9_readCalls_24 (by decide) ?_
    refine lv_icmp_ge (tgt := 68) hx hb dX9_readCalls_26 (by decide) (fun c_1 => ?_) (fun c_1 => ?_)
    · have h := sd_ifp c_1 h
      cases h
      exact sd_vret C X dX9_readCalls_68
    · have h := sd_ifn c_1 h
      refine lv_aload_n hx hb dX9_readCalls_29 rfl (lv_at hl 0 rfl) ?_
      refine sd_g9_5 C X hk0 sd_w10_14 dX9_readCalls_30 ?_
      refine lv_if_ne (tgt := 68) hx hb dX9_readCalls_33 (by decide) (fun c_2 => ?_) (fun c_2 => ?_)
      · have h := sd_ifn c_2 h
        cases h
        exact sd_vret C X dX9_readCalls_68
      · have h := sd_ifp c_2 h
        refine lv_iload_n hx hb dX9_readCalls_36 rfl (lv_at hl 2 rfl) ?_
        refine lv_if_eq (tgt := 68) hx hb dX9_readCalls_37 (by decide) (fun c_3 => ?_) (fun c_3 => ?_)
        · have h := sd_ifp c_3 h
          cases h
          exact sd_vret C X dX9_readCalls_68
        · have h := sd_ifn c_3 h
          refine lv_aload_n hx hb dX9_readCalls_40 rfl (lv_at hl 0 rfl) ?_
          refine lv_iload_n hx hb dX9_readCalls_41 rfl (lv_at hl 1 rfl) ?_
          obtain ⟨r_5, S_4, er_5, h⟩ := sd_cl_some h
          refine k_X9_readHost C X hl.1 hk0 er_5 sd_w15_8 (by decide) (Nat.le_of_ble_eq_true rfl) dX9_readCalls_42 (fun H locs X => ?_)
          refine lv_aload_n hx hb dX9_readCalls_45 rfl (lv_at hl 0 rfl) ?_
          refine sd_g9_1 (k := k0) C X hk0 sd_w3_14 dX9_readCalls_46 ?_
          refine sd_g7_3 C X (sd_k9_12 hk0) sd_w10_15 dX9_readCalls_49 ?_
          refine lv_iconst (v := (3 : Int32)) hx hb dX9_readCalls_52 (by decide) ?_
          refine lv_icmp_eq (tgt := 60) hx hb dX9_readCalls_53 (by decide) (fun c_6 => ?_) (fun c_6 => ?_)
          · have h := sd_ifp c_6 h
            refine lv_iconst (v := (0 : Int32)) hx hb dX9_readCalls_60 (by decide) ?_
            exact t_X9_readCalls_b61 C hk0 ih x1 x3 (0 : Int32) S_4 _ _ _ h X (lv_sub hl [0, 1, 3] rfl)
          · have h := sd_ifn c_6 h
            refine lv_iconst (v := (1 : Int32)) hx hb dX9_readCalls_56 (by decide) ?_
            refine lv_goto (tgt := 61) hx hb dX9_readCalls_57 (by decide) ?_
            exact t_X9_readCalls_b61 C hk0 ih x1 x3 (1 : Int32) S_4 _ _ _ h X (lv_sub hl [0, 1, 3] rfl)
def f_X9_readCalls (k0 : Nat) (S : sd_St) : Option (Unit × sd_St) := sd_cl (f_X7_step (k0 + 12) S) (fun _ S_7 => sd_cl (f_X9_takePerson k0 S_7) (fun r_10 S_9 => sd_cl (f_X9_takeWord k0 (28526 : Int64) S_9) (fun _ S_11 => f_X9_readCalls_l23 k0 sd_FU r_10 (1 : Int32) (0 : Int32) S_11)))
set_option maxHeartbeats 4000000 in
set_option maxRecDepth 100000 in
theorem c_X9_readCalls {k0 : Nat} (hk0 : sd_kd k0 = 9) {S S' : sd_St} (h : f_X9_readCalls k0 S = some ((), S')) : Met l yX9_readCalls (Cond.code yX9_readCalls cX9_readCalls 4 none :: sd_wl) (sd_rm 4) (sd_P D cy ad A b0 [.ref (ad k0)] S) (sd_Qv D cy ad A S') 0 0 A := by
  refine sd_met (by decide) (Nat.le_of_ble_eq_true rfl) (fun p e s m args below meth c ls C X hl => ?_)
  obtain ⟨hx, hb, -, hml, hown, hts, -, hG⟩ := id C
  replace C : sd_C RX9 cX9_readCalls 4 none D cy ad A b0 p s m args meth c := C
  replace hl : lv_has ls 4 [(0, .ref (ad k0))] := hl
  unfold f_X9_readCalls at h
  refine lv_aload_n hx hb dX9_readCalls_0 rfl (lv_at hl 0 rfl) ?_
  refine sd_g9_1 (k := k0) C X hk0 sd_w3_14 dX9_readCalls_1 ?_
  obtain ⟨r_8, S_7, er_8, h⟩ := sd_cl_some h
  refine k_X7_step C X hl.1 (sd_k9_12 hk0) er_8 sd_w13_1 (by decide) (Nat.le_of_ble_eq_true rfl) dX9_readCalls_4 (fun H locs X => ?_)
  refine lv_aload_n hx hb dX9_readCalls_7 rfl (lv_at hl 0 rfl) ?_
  obtain ⟨r_10, S_9, er_10, h⟩ := sd_cl_some h
  refine k_X9_takePerson C X hl.1 hk0 er_10 sd_w15_0 (by decide) (Nat.le_of_ble_eq_true rfl) dX9_readCalls_8 (fun H locs X => ?_)
  refine lv_istore_n (lv' := [(1, .int r_10), (0, .ref (ad k0))]) hx hb dX9_readCalls_11 rfl hl (by decide) rfl (fun ls hl => ?_)
  refine lv_aload_n hx hb dX9_readCalls_12 rfl (lv_at hl 1 rfl) ?_
  refine lv_ldc2 (v := (28526 : Int64)) hx hb hown (hts _ sd_w14_23) dX9_readCalls_13 ?_
  obtain ⟨r_12, S_11, er_12, h⟩ := sd_cl_some h
  refine k_X9_takeWord C X hl.1 hk0 er_12 sd_w14_3 (by decide) (Nat.le_of_ble_eq_true rfl) dX9_readCalls_16 (fun H locs X => ?_)
  refine lv_iconst (v := (1 : Int32)) hx hb dX9_readCalls_19 (by decide) ?_
  refine lv_istore_n (lv' := [(2, .int (1 : Int32)), (1, .int r_10), (0, .ref (ad k0))]) hx hb dX9_readCalls_20 rfl hl (by decide) rfl (fun ls hl => ?_)
  refine lv_iconst (v := (0 : Int32)) hx hb dX9_readCalls_21 (by decide) ?_
  refine lv_istore_n (lv' := [(3, .int (0 : Int32)), (2, .int (1 : Int32)), (1, .int r_10), (0, .ref (ad k0))]) hx hb dX9_readCalls_22 rfl hl (by decide) rfl (fun ls hl => ?_)
  exact t_X9_readCalls_l23 C hk0 sd_FU r_10 (1 : Int32) (0 : Int32) S_11 _ _ _ h X (lv_sub hl [3, 2, 1, 0] rfl)
theorem k_X9_readCalls (C : sd_C own cc nL rt D cy ad A b0 p s m args meth c) (X : sd_H D cy ad A s S H locs) (hls : ls.size = nL) {k0 : Nat} {S2 : sd_St} (hk0 : sd_kd k0 = 9) (h : f_X9_readCalls k0 S = some ((), S2)) (hlink : Cond.methodLink own index yX9_readCalls ∈ sd_wl) (hR : 5 ≤ R.frames ∧ 183 ≤ R.locals ∧ cells ≤ R.cells ∧ slots ≤ R.slots) (hst : (rest.map fun v => v.category).sum ≤ 8) (hdg : decode cc pc = .ok (.invokevirtual index, 3)) (kk : ∀ (H1 : Heap) (locs1 : List Loc), sd_H D cy ad A s S2 H1 locs1 → W p l e R s m args below meth c H1 locs1 cells slots Q (F0 m (pc + 3) ls rest)) : W p l e R s m args below meth c H locs cells slots Q (F0 m pc ls (.ref (ad k0) :: rest)) :=
  sd_goV X (sd_runV C X hls (n := 0) (k := k0) (As := []) (c_X9_readCalls (l := l) (b0 := b0) hk0 h) (sd_goodV hlink sd_w14_20 sd_w14_21 sd_w1_15 sd_w14_22) (ci := 9) rfl (by rw [hk0]; decide) (sd_c9 hk0) (by decide +kernel) rfl hR rfl hst hdg) kk
/-! ===== SecretDays$TownReader.takeDate(I)I ===== -/
def f_X9_takeDate_b40 (k0 : Nat) (x2 : Int32) (w0 : Int32) (S : sd_St) : Option (Int32 × sd_St) := sd_cl (f_X9_failIf k0 w0 (4 : Int32) S) (fun _ S_1 => sd_cl (f_X9_takeNumber k0 (365 : Int32) S_1) (fun r_4 S_3 => (some ((x2 + r_4), S_3))))
set_option maxHeartbeats 4000000 in
set_option maxRecDepth 100000 in
theorem t_X9_takeDate_b40 (C : sd_C RX9 cX9_takeDate 4 (some .int) D cy ad A b0 p s m args meth c) {k0 : Nat} (hk0 : sd_kd k0 = 9) {r : Int32} {S' : sd_St} : ∀ (x2 : Int32) (w0 : Int32) (S : sd_St) (H : Heap) (locs : List Loc) (ls : Array Slot), f_X9_takeDate_b40 k0 x2 w0 S = some (r, S') → sd_H D cy ad A s S H locs → lv_has ls 4 [(0, .ref (ad k0)), (2, .int x2)] → W p l e (sd_rm 4) s m args below meth c H locs 0 0 (MQ below (sd_Qi D cy ad A r S') args s 0 0 A) (F0 m 40 ls [.int w0]) := by
  obtain ⟨hx, hb, -, hml, hown, hts, -, hG⟩ := id C
  intro x2 w0 S H locs ls h X hl
  unfold f_X9_takeDate_b40 at h
  refine lv_istore_n (lv' := [(3, .int w0), (0, .ref (ad k0)), (2, .int x2)]) hx hb dX9_takeDate_40 rfl hl (by decide) rfl (fun ls hl => ?_)
  refine lv_aload_n hx hb dX9_takeDate_41 rfl (lv_at hl 1 rfl) ?_
  refine lv_iload_n hx hb dX9_takeDate_42 rfl (lv_at hl 0 rfl) ?_
  refine lv_iconst (v := (4 : Int32)) hx hb dX9_takeDate_43 (by decide) ?_
  obtain ⟨r_2, S_1, er_2, h⟩ := sd_cl_some h
  refine k_X9_failIf C X hl.1 hk0 er_2 sd_w12_20 (by decide) (Nat.le_of_ble_eq_true rfl) dX9_takeDate_44 (fun H locs X => ?_)
  refine lv_iload_n hx hb dX9_takeDate_47 rfl (lv_at hl 2 rfl) ?_
  refine lv_aload_n hx hb dX9_takeDate_48 rfl (lv_at hl 1 rfl) ?_
  refine lv_sipush (v := (365 : Int32)) hx hb dX9_takeDate_49 (by decide) ?_
  obtain ⟨r_4, S_3, er_4, h⟩ := sd_cl_some h
  refine k_X9_takeNumber C X hl.1 hk0 er_4 sd_w13_2 (by decide) (Nat.le_of_ble_eq_true rfl) dX9_takeDate_52 (fun H locs X => ?_)
  refine lv_iadd hx hb dX9_takeDate_55 ?_
  cases h
  exact sd_iret C X dX9_takeDate_56
def f_X9_takeDate_b39 (k0 : Nat) (x2 : Int32) (S : sd_St) : Option (Int32 × sd_St) := f_X9_takeDate_b40 k0 x2 (0 : Int32) S
set_option maxHeartbeats 4000000 in
set_option maxRecDepth 100000 in
theorem t_X9_takeDate_b39 (C : sd_C RX9 cX9_takeDate 4 (some .int) D cy ad A b0 p s m args meth c) {k0 : Nat} (hk0 : sd_kd k0 = 9) {r : Int32} {S' : sd_St} : ∀ (x2 : Int32) (S : sd_St) (H : Heap) (locs : List Loc) (ls : Array Slot), f_X9_takeDate_b39 k0 x2 S = some (r, S') → sd_H D cy ad A s S H locs → lv_has ls 4 [(0, .ref (ad k0)), (2, .int x2)] → W p l e (sd_rm 4) s m args below meth c H locs 0 0 (MQ below (sd_Qi D cy ad A r S') args s 0 0 A) (F0 m 39 ls []) := by
  obtain ⟨hx, hb, -, hml, hown, hts, -, hG⟩ := id C
  intro x2 S H locs ls h X hl
  unfold f_X9_takeDate_b39 at h
  refine lv_iconst (v := (0 : Int32)) hx hb dX9_takeDate_39 (by decide) ?_
  exact t_X9_takeDate_b40 C hk0 x2 (0 : Int32) S _ _ _ h X (lv_sub hl [0, 1] rfl)
def f_X9_takeDate (k0 : Nat) (x1 : Int32) (S : sd_St) : Option (Int32 × sd_St) := sd_cl (f_X9_takeNumber k0 (11 : Int32) S) (fun r_6 S_5 => sd_nm ((r_6 * (366 : Int32))) (fun v_7 => (if (S_5.1 (k0 + 12) 3) = (2 : Int32) then (if x1 ≤ (v_7 + (S_5.1 (k0 + 12) 6)) then f_X9_takeDate_b39 k0 v_7 S_5 else f_X9_takeDate_b40 k0 v_7 (1 : Int32) S_5) else f_X9_takeDate_b39 k0 v_7 S_5)))
set_option maxHeartbeats 4000000 in
set_option maxRecDepth 100000 in
theorem c_X9_takeDate {k0 : Nat} {x1 : Int32} (hk0 : sd_kd k0 = 9) {S S' : sd_St} {r : Int32} (h : f_X9_takeDate k0 x1 S = some (r, S')) : Met l yX9_takeDate (Cond.code yX9_takeDate cX9_takeDate 4 (some .int) :: sd_wl) (sd_rm 4) (sd_P D cy ad A b0 [.ref (ad k0), .int x1] S) (sd_Qi D cy ad A r S') 0 0 A := by
  refine sd_met (by decide) (Nat.le_of_ble_eq_true rfl) (fun p e s m args below meth c ls C X hl => ?_)
  obtain ⟨hx, hb, -, hml, hown, hts, -, hG⟩ := id C
  replace C : sd_C RX9 cX9_takeDate 4 (some .int) D cy ad A b0 p s m args meth c := C
  replace hl : lv_has ls 4 [(0, .ref (ad k0)), (1, .int x1)] := hl
  unfold f_X9_takeDate at h
  refine lv_aload_n hx hb dX9_takeDate_0 rfl (lv_at hl 0 rfl) ?_
  refine lv_bipush (v := (11 : Int32)) hx hb dX9_takeDate_1 (by decide) ?_
  obtain ⟨r_6, S_5, er_6, h⟩ := sd_cl_some h
  refine k_X9_takeNumber C X hl.1 hk0 er_6 sd_w13_2 (by decide) (Nat.le_of_ble_eq_true rfl) dX9_takeDate_3 (fun H locs X => ?_)
  refine lv_sipush (v := (366 : Int32)) hx hb dX9_takeDate_6 (by decide) ?_
  refine lv_imul hx hb dX9_takeDate_9 ?_
  obtain ⟨v_7, e_7, h⟩ := sd_nm_some h
  refine sd_nmi e_7 ?_
  refine lv_istore_n (lv' := [(2, .int v_7), (0, .ref (ad k0)), (1, .int x1)]) hx hb dX9_takeDate_10 rfl hl (by decide) rfl (fun ls hl => ?_)
  refine lv_aload_n hx hb dX9_takeDate_11 rfl (lv_at hl 1 rfl) ?_
  refine sd_g9_1 (k := k0) C X hk0 sd_w3_14 dX9_takeDate_12 ?_
  refine sd_g7_3 C X (sd_k9_12 hk0) sd_w10_15 dX9_takeDate_15 ?_
  refine lv_iconst (v := (2 : Int32)) hx hb dX9_takeDate_18 (by decide) ?_
  refine lv_icmp_ne (tgt := 39) hx hb dX9_takeDate_19 (by decide) (fun c_8 => ?_) (fun c_8 => ?_)
  · have h := sd_ifn c_8 h
    exact t_X9_takeDate_b39 C hk0 v_7 S_5 _ _ _ h X (lv_sub hl [1, 0] rfl)
  · have h := sd_ifp c_8 h
    refine lv_iload_n hx hb dX9_takeDate_22 rfl (lv_at hl 0 rfl) ?_
    refine lv_aload_n hx hb dX9_takeDate_23 rfl (lv_at hl 1 rfl) ?_
    refine sd_g9_1 (k := k0) C X hk0 sd_w3_14 dX9_takeDate_24 ?_
    refine sd_g7_6 C X (sd_k9_12 hk0) sd_w13_6 dX9_takeDate_27 ?_
    refine lv_iadd hx hb dX9_takeDate_30 ?_
    refine lv_iload_n hx hb dX9_takeDate_31 rfl (lv_at hl 2 rfl) ?_
    refine lv_icmp_ge (tgt := 39) hx hb dX9_takeDate_32 (by decide) (fun c_9 => ?_) (fun c_9 => ?_)
    · have h := sd_ifp c_9 h
      exact t_X9_takeDate_b39 C hk0 v_7 S_5 _ _ _ h X (lv_sub hl [1, 0] rfl)
    · have h := sd_ifn c_9 h
      refine lv_iconst (v := (1 : Int32)) hx hb dX9_takeDate_35 (by decide) ?_
      refine lv_goto (tgt := 40) hx hb dX9_takeDate_36 (by decide) ?_
      exact t_X9_takeDate_b40 C hk0 v_7 (1 : Int32) S_5 _ _ _ h X (lv_sub hl [1, 0] rfl)
theorem k_X9_takeDate (C : sd_C own cc nL rt D cy ad A b0 p s m args meth c) (X : sd_H D cy ad A s S H locs) (hls : ls.size = nL) {k0 : Nat} {x1 : Int32} {S2 : sd_St} {r : Int32} (hk0 : sd_kd k0 = 9) (h : f_X9_takeDate k0 x1 S = some (r, S2)) (hlink : Cond.methodLink own index yX9_takeDate ∈ sd_wl) (hR : 5 ≤ R.frames ∧ 183 ≤ R.locals ∧ cells ≤ R.cells ∧ slots ≤ R.slots) (hst : (rest.map fun v => v.category).sum ≤ 8) (hdg : decode cc pc = .ok (.invokevirtual index, 3)) (kk : ∀ (H1 : Heap) (locs1 : List Loc), sd_H D cy ad A s S2 H1 locs1 → W p l e R s m args below meth c H1 locs1 cells slots Q (F0 m (pc + 3) ls (.int r :: rest))) : W p l e R s m args below meth c H locs cells slots Q (F0 m pc ls (.int x1 :: .ref (ad k0) :: rest)) :=
  sd_goI X (sd_runV C X hls (n := 1) (k := k0) (As := [.int x1]) (c_X9_takeDate (l := l) (b0 := b0) hk0 h) (sd_goodV hlink sd_w16_11 sd_w16_12 sd_w1_15 sd_w16_13) (ci := 9) rfl (by rw [hk0]; decide) (sd_c9 hk0) (by decide +kernel) rfl hR rfl hst hdg) kk
/-! ===== SecretDays$TownReader.readAway()V ===== -/
def f_X9_readAway_b18 (k0 : Nat) (w1 : Int32) (S : sd_St) : Option (Unit × sd_St) := sd_cl (f_X9_failIf k0 w1 (5 : Int32) S) (fun _ S_1 => sd_cl (f_X7_step (k0 + 12) S_1) (fun _ S_3 => sd_cl (f_X9_takePerson k0 S_3) (fun r_6 S_5 => sd_cl (f_X9_takeWord k0 (1718775661 : Int64) S_5) (fun _ S_7 => sd_cl (f_X9_takeDate k0 (0 : Int32) S_7) (fun r_10 S_9 => sd_cl (f_X9_takeWord k0 (29807 : Int64) S_9) (fun _ S_11 => sd_cl (f_X9_takeDate k0 r_10 S_11) (fun r_14 S_13 => (if (S_13.1 k0 5) = 0 then sd_cl (f_X8_addAway (k0 + 1) r_6 r_10 r_14 S_13) (fun _ S_16 => (some ((), S_16))) else (some ((), S_13))))))))))
set_option maxHeartbeats 4000000 in
set_option maxRecDepth 100000 in
theorem t_X9_readAway_b18 (C : sd_C RX9 cX9_readAway 4 none D cy ad A b0 p s m args meth c) {k0 : Nat} (hk0 : sd_kd k0 = 9) {S' : sd_St} : ∀ (w1 : Int32) (S : sd_St) (H : Heap) (locs : List Loc) (ls : Array Slot), f_X9_readAway_b18 k0 w1 S = some ((), S') → sd_H D cy ad A s S H locs → lv_has ls 4 [(0, .ref (ad k0))] → W p l e (sd_rm 5) s m args below meth c H locs 0 0 (MQ below (sd_Qv D cy ad A S') args s 0 0 A) (F0 m 18 ls [.int w1, .ref (ad k0)]) := by
  obtain ⟨hx, hb, -, hml, hown, hts, -, hG⟩ := id C
  intro w1 S H locs ls h X hl
  unfold f_X9_readAway_b18 at h
  refine lv_iconst (v := (5 : Int32)) hx hb dX9_readAway_18 (by decide) ?_
  obtain ⟨r_2, S_1, er_2, h⟩ := sd_cl_some h
  refine k_X9_failIf C X hl.1 hk0 er_2 sd_w12_20 (by decide) (Nat.le_of_ble_eq_true rfl) dX9_readAway_19 (fun H locs X => ?_)
  refine lv_aload_n hx hb dX9_readAway_22 rfl (lv_at hl 0 rfl) ?_
  refine sd_g9_1 (k := k0) C X hk0 sd_w3_14 dX9_readAway_23 ?_
  obtain ⟨r_4, S_3, er_4, h⟩ := sd_cl_some h
  refine k_X7_step C X hl.1 (sd_k9_12 hk0) er_4 sd_w13_1 (by decide) (Nat.le_of_ble_eq_true rfl) dX9_readAway_26 (fun H locs X => ?_)
  refine lv_aload_n hx hb dX9_readAway_29 rfl (lv_at hl 0 rfl) ?_
  obtain ⟨r_6, S_5, er_6, h⟩ := sd_cl_some h
  refine k_X9_takePerson C X hl.1 hk0 er_6 sd_w15_0 (by decide) (Nat.le_of_ble_eq_true rfl) dX9_readAway_30 (fun H locs X => ?_)
  refine lv_istore_n (lv' := [(1, .int r_6), (0, .ref (ad k0))]) hx hb dX9_readAway_33 rfl hl (by decide) rfl (fun ls hl => ?_)
  refine lv_aload_n hx hb dX9_readAway_34 rfl (lv_at hl 1 rfl) ?_
  refine lv_ldc2 (v := (1718775661 : Int64)) hx hb hown (hts _ sd_w16_8) dX9_readAway_35 ?_
  obtain ⟨r_8, S_7, er_8, h⟩ := sd_cl_some h
  refine k_X9_takeWord C X hl.1 hk0 er_8 sd_w14_3 (by decide) (Nat.le_of_ble_eq_true rfl) dX9_readAway_38 (fun H locs X => ?_)
  refine lv_aload_n hx hb dX9_readAway_41 rfl (lv_at hl 1 rfl) ?_
  refine lv_iconst (v := (0 : Int32)) hx hb dX9_readAway_42 (by decide) ?_
  obtain ⟨r_10, S_9, er_10, h⟩ := sd_cl_some h
  refine k_X9_takeDate C X hl.1 hk0 er_10 sd_w16_10 (by decide) (Nat.le_of_ble_eq_true rfl) dX9_readAway_43 (fun H locs X => ?_)
  refine lv_istore_n (lv' := [(2, .int r_10), (1, .int r_6), (0, .ref (ad k0))]) hx hb dX9_readAway_46 rfl hl (by decide) rfl (fun ls hl => ?_)
  refine lv_aload_n hx hb dX9_readAway_47 rfl (lv_at hl 2 rfl) ?_
  refine lv_ldc2 (v := (29807 : Int64)) hx hb hown (hts _ sd_w16_9) dX9_readAway_48 ?_
  obtain ⟨r_12, S_11, er_12, h⟩ := sd_cl_some h
  refine k_X9_takeWord C X hl.1 hk0 er_12 sd_w14_3 (by decide) (Nat.le_of_ble_eq_true rfl) dX9_readAway_51 (fun H locs X => ?_)
  refine lv_aload_n hx hb dX9_readAway_54 rfl (lv_at hl 2 rfl) ?_
  refine lv_iload_n hx hb dX9_readAway_55 rfl (lv_at hl 0 rfl) ?_
  obtain ⟨r_14, S_13, er_14, h⟩ := sd_cl_some h
  refine k_X9_takeDate C X hl.1 hk0 er_14 sd_w16_10 (by decide) (Nat.le_of_ble_eq_true rfl) dX9_readAway_56 (fun H locs X => ?_)
  refine lv_istore_n (lv' := [(3, .int r_14), (2, .int r_10), (1, .int r_6), (0, .ref (ad k0))]) hx hb dX9_readAway_59 rfl hl (by decide) rfl (fun ls hl => ?_)
  refine lv_aload_n hx hb dX9_readAway_60 rfl (lv_at hl 3 rfl) ?_
  refine sd_g9_5 C X hk0 sd_w10_14 dX9_readAway_61 ?_
  refine lv_if_ne (tgt := 77) hx hb dX9_readAway_64 (by decide) (fun c_15 => ?_) (fun c_15 => ?_)
  · have h := sd_ifn c_15 h
    cases h
    exact sd_vret C X dX9_readAway_77
  · have h := sd_ifp c_15 h
    refine lv_aload_n hx hb dX9_readAway_67 rfl (lv_at hl 3 rfl) ?_
    refine sd_g9_0 (k := k0) C X hk0 sd_w3_10 dX9_readAway_68 ?_
    refine lv_iload_n hx hb dX9_readAway_71 rfl (lv_at hl 2 rfl) ?_
    refine lv_iload_n hx hb dX9_readAway_72 rfl (lv_at hl 1 rfl) ?_
    refine lv_iload_n hx hb dX9_readAway_73 rfl (lv_at hl 0 rfl) ?_
    obtain ⟨r_17, S_16, er_17, h⟩ := sd_cl_some h
    refine k_X8_addAway C X hl.1 (sd_k9_1 hk0) er_17 sd_w16_14 (by decide) (Nat.le_of_ble_eq_true rfl) dX9_readAway_74 (fun H locs X => ?_)
    cases h
    exact sd_vret C X dX9_readAway_77
def f_X9_readAway (k0 : Nat) (S : sd_St) : Option (Unit × sd_St) := (if (S.1 (k0 + 1) 7) = (12 : Int32) then f_X9_readAway_b18 k0 (1 : Int32) S else f_X9_readAway_b18 k0 (0 : Int32) S)
set_option maxHeartbeats 4000000 in
set_option maxRecDepth 100000 in
theorem c_X9_readAway {k0 : Nat} (hk0 : sd_kd k0 = 9) {S S' : sd_St} (h : f_X9_readAway k0 S = some ((), S')) : Met l yX9_readAway (Cond.code yX9_readAway cX9_readAway 4 none :: sd_wl) (sd_rm 5) (sd_P D cy ad A b0 [.ref (ad k0)] S) (sd_Qv D cy ad A S') 0 0 A := by
  refine sd_met (by decide) (Nat.le_of_ble_eq_true rfl) (fun p e s m args below meth c ls C X hl => ?_)
  obtain ⟨hx, hb, -, hml, hown, hts, -, hG⟩ := id C
  replace C : sd_C RX9 cX9_readAway 4 none D cy ad A b0 p s m args meth c := C
  replace hl : lv_has ls 4 [(0, .ref (ad k0))] := hl
  unfold f_X9_readAway at h
  refine lv_aload_n hx hb dX9_readAway_0 rfl (lv_at hl 0 rfl) ?_
  refine lv_aload_n hx hb dX9_readAway_1 rfl (lv_at hl 0 rfl) ?_
  refine sd_g9_0 (k := k0) C X hk0 sd_w3_10 dX9_readAway_2 ?_
  refine sd_g8_7 C X (sd_k9_1 hk0) sd_w16_7 dX9_readAway_5 ?_
  refine lv_bipush (v := (12 : Int32)) hx hb dX9_readAway_8 (by decide) ?_
  refine lv_icmp_ne (tgt := 17) hx hb dX9_readAway_10 (by decide) (fun c_18 => ?_) (fun c_18 => ?_)
  · have h := sd_ifn c_18 h
    refine lv_iconst (v := (0 : Int32)) hx hb dX9_readAway_17 (by decide) ?_
    exact t_X9_readAway_b18 C hk0 (0 : Int32) S _ _ _ h X (lv_sub hl [0] rfl)
  · have h := sd_ifp c_18 h
    refine lv_iconst (v := (1 : Int32)) hx hb dX9_readAway_13 (by decide) ?_
    refine lv_goto (tgt := 18) hx hb dX9_readAway_14 (by decide) ?_
    exact t_X9_readAway_b18 C hk0 (1 : Int32) S _ _ _ h X (lv_sub hl [0] rfl)
theorem k_X9_readAway (C : sd_C own cc nL rt D cy ad A b0 p s m args meth c) (X : sd_H D cy ad A s S H locs) (hls : ls.size = nL) {k0 : Nat} {S2 : sd_St} (hk0 : sd_kd k0 = 9) (h : f_X9_readAway k0 S = some ((), S2)) (hlink : Cond.methodLink own index yX9_readAway ∈ sd_wl) (hR : 6 ≤ R.frames ∧ 223 ≤ R.locals ∧ cells ≤ R.cells ∧ slots ≤ R.slots) (hst : (rest.map fun v => v.category).sum ≤ 8) (hdg : decode cc pc = .ok (.invokevirtual index, 3)) (kk : ∀ (H1 : Heap) (locs1 : List Loc), sd_H D cy ad A s S2 H1 locs1 → W p l e R s m args below meth c H1 locs1 cells slots Q (F0 m (pc + 3) ls rest)) : W p l e R s m args below meth c H locs cells slots Q (F0 m pc ls (.ref (ad k0) :: rest)) :=
  sd_goV X (sd_runV C X hls (n := 0) (k := k0) (As := []) (c_X9_readAway (l := l) (b0 := b0) hk0 h) (sd_goodV hlink sd_w16_4 sd_w16_5 sd_w1_15 sd_w16_6) (ci := 9) rfl (by rw [hk0]; decide) (sd_c9 hk0) (by decide +kernel) rfl hR rfl hst hdg) kk
/-! ===== SecretDays$TownReader.readSecret()V ===== -/
def f_X9_readSecret_b17 (k0 : Nat) (w1 : Int32) (S : sd_St) : Option (Unit × sd_St) := sd_cl (f_X9_failIf k0 w1 (5 : Int32) S) (fun _ S_1 => sd_cl (f_X7_step (k0 + 12) S_1) (fun _ S_3 => sd_cl (f_X9_takeNewName k0 S_3) (fun r_6 S_5 => sd_cl (f_X9_takeWord k0 (2003399784 : Int64) S_5) (fun _ S_7 => sd_cl (f_X9_takePerson k0 S_7) (fun r_10 S_9 => sd_cl (f_X9_takeWord k0 (1718775661 : Int64) S_9) (fun _ S_11 => sd_cl (f_X9_takeDate k0 (0 : Int32) S_11) (fun r_14 S_13 => (if (S_13.1 k0 5) = 0 then sd_stl S_13 (k0 + 15) (S_13.1 (k0 + 1) 11) r_6 (fun S_16 => sd_cl (f_X8_addSecret (k0 + 1) r_10 r_14 S_16) (fun _ S_17 => (some ((), S_17)))) else (some ((), S_13))))))))))
set_option maxHeartbeats 4000000 in
set_option maxRecDepth 100000 in
theorem t_X9_readSecret_b17 (C : sd_C RX9 cX9_readSecret 5 none D cy ad A b0 p s m args meth c) {k0 : Nat} (hk0 : sd_kd k0 = 9) {S' : sd_St} : ∀ (w1 : Int32) (S : sd_St) (H : Heap) (locs : List Loc) (ls : Array Slot), f_X9_readSecret_b17 k0 w1 S = some ((), S') → sd_H D cy ad A s S H locs → lv_has ls 5 [(0, .ref (ad k0))] → W p l e (sd_rm 5) s m args below meth c H locs 0 0 (MQ below (sd_Qv D cy ad A S') args s 0 0 A) (F0 m 17 ls [.int w1, .ref (ad k0)]) := by
  obtain ⟨hx, hb, -, hml, hown, hts, -, hG⟩ := id C
  intro w1 S H locs ls h X hl
  unfold f_X9_readSecret_b17 at h
  refine lv_iconst (v := (5 : Int32)) hx hb dX9_readSecret_17 (by decide) ?_
  obtain ⟨r_2, S_1, er_2, h⟩ := sd_cl_some h
  refine k_X9_failIf C X hl.1 hk0 er_2 sd_w12_20 (by decide) (Nat.le_of_ble_eq_true rfl) dX9_readSecret_18 (fun H locs X => ?_)
  refine lv_aload_n hx hb dX9_readSecret_21 rfl (lv_at hl 0 rfl) ?_
  refine sd_g9_1 (k := k0) C X hk0 sd_w3_14 dX9_readSecret_22 ?_
  obtain ⟨r_4, S_3, er_4, h⟩ := sd_cl_some h
  refine k_X7_step C X hl.1 (sd_k9_12 hk0) er_4 sd_w13_1 (by decide) (Nat.le_of_ble_eq_true rfl) dX9_readSecret_25 (fun H locs X => ?_)
  refine lv_aload_n hx hb dX9_readSecret_28 rfl (lv_at hl 0 rfl) ?_
  obtain ⟨r_6, S_5, er_6, h⟩ := sd_cl_some h
  refine k_X9_takeNewName C X hl.1 hk0 er_6 sd_w13_13 (by decide) (Nat.le_of_ble_eq_true rfl) dX9_readSecret_29 (fun H locs X => ?_)
  refine lv_lstore_n (lv' := [(1, .long r_6), (0, .ref (ad k0))]) hx hb dX9_readSecret_32 rfl hl (by decide) rfl (fun ls hl => ?_)
  refine lv_aload_n hx hb dX9_readSecret_33 rfl (lv_at hl 1 rfl) ?_
  refine lv_ldc2 (v := (2003399784 : Int64)) hx hb hown (hts _ sd_w16_22) dX9_readSecret_34 ?_
  obtain ⟨r_8, S_7, er_8, h⟩ := sd_cl_some h
  refine k_X9_takeWord C X hl.1 hk0 er_8 sd_w14_3 (by decide) (Nat.le_of_ble_eq_true rfl) dX9_readSecret_37 (fun H locs X => ?_)
  refine lv_aload_n hx hb dX9_readSecret_40 rfl (lv_at hl 1 rfl) ?_
  obtain ⟨r_10, S_9, er_10, h⟩ := sd_cl_some h
  refine k_X9_takePerson C X hl.1 hk0 er_10 sd_w15_0 (by decide) (Nat.le_of_ble_eq_true rfl) dX9_readSecret_41 (fun H locs X => ?_)
  refine lv_istore_n (lv' := [(3, .int r_10), (1, .long r_6), (0, .ref (ad k0))]) hx hb dX9_readSecret_44 rfl hl (by decide) rfl (fun ls hl => ?_)
  refine lv_aload_n hx hb dX9_readSecret_45 rfl (lv_at hl 2 rfl) ?_
  refine lv_ldc2 (v := (1718775661 : Int64)) hx hb hown (hts _ sd_w16_8) dX9_readSecret_46 ?_
  obtain ⟨r_12, S_11, er_12, h⟩ := sd_cl_some h
  refine k_X9_takeWord C X hl.1 hk0 er_12 sd_w14_3 (by decide) (Nat.le_of_ble_eq_true rfl) dX9_readSecret_49 (fun H locs X => ?_)
  refine lv_aload_n hx hb dX9_readSecret_52 rfl (lv_at hl 2 rfl) ?_
  refine lv_iconst (v := (0 : Int32)) hx hb dX9_readSecret_53 (by decide) ?_
  obtain ⟨r_14, S_13, er_14, h⟩ := sd_cl_some h
  refine k_X9_takeDate C X hl.1 hk0 er_14 sd_w16_10 (by decide) (Nat.le_of_ble_eq_true rfl) dX9_readSecret_54 (fun H locs X => ?_)
  refine lv_istore (lv' := [(4, .int r_14), (3, .int r_10), (1, .long r_6), (0, .ref (ad k0))]) hx hb dX9_readSecret_57 hl (by decide) rfl (fun ls hl => ?_)
  refine lv_aload_n hx hb dX9_readSecret_59 rfl (lv_at hl 3 rfl) ?_
  refine sd_g9_5 C X hk0 sd_w10_14 dX9_readSecret_60 ?_
  refine lv_if_ne (tgt := 89) hx hb dX9_readSecret_63 (by decide) (fun c_15 => ?_) (fun c_15 => ?_)
  · have h := sd_ifn c_15 h
    cases h
    exact sd_vret C X dX9_readSecret_89
  · have h := sd_ifp c_15 h
    refine lv_aload_n hx hb dX9_readSecret_66 rfl (lv_at hl 3 rfl) ?_
    refine sd_g9_3 (k := k0) C X hk0 sd_w3_17 dX9_readSecret_67 ?_
    refine lv_aload_n hx hb dX9_readSecret_70 rfl (lv_at hl 3 rfl) ?_
    refine sd_g9_0 (k := k0) C X hk0 sd_w3_10 dX9_readSecret_71 ?_
    refine sd_g8_11 C X (sd_k9_1 hk0) sd_w13_18 dX9_readSecret_74 ?_
    refine lv_lload_n hx hb dX9_readSecret_77 rfl (lv_at hl 2 rfl) ?_
    obtain ⟨bS_16, S_16, eS_16, h⟩ := sd_stl_some h
    refine sd_last C X (sd_k9_15 hk0) bS_16 dX9_readSecret_78 (fun H locs X => ?_)
    rw [← eS_16] at X
    refine lv_aload_n hx hb dX9_readSecret_79 rfl (lv_at hl 3 rfl) ?_
    refine sd_g9_0 (k := k0) C X hk0 sd_w3_10 dX9_readSecret_80 ?_
    refine lv_iload_n hx hb dX9_readSecret_83 rfl (lv_at hl 1 rfl) ?_
    refine lv_iload hx hb dX9_readSecret_84 (lv_at hl 0 rfl) ?_
    obtain ⟨r_18, S_17, er_18, h⟩ := sd_cl_some h
    refine k_X8_addSecret C X hl.1 (sd_k9_1 hk0) er_18 sd_w16_23 (by decide) (Nat.le_of_ble_eq_true rfl) dX9_readSecret_86 (fun H locs X => ?_)
    cases h
    exact sd_vret C X dX9_readSecret_89
def f_X9_readSecret (k0 : Nat) (S : sd_St) : Option (Unit × sd_St) := (if (S.1 (k0 + 1) 11) = (4 : Int32) then f_X9_readSecret_b17 k0 (1 : Int32) S else f_X9_readSecret_b17 k0 (0 : Int32) S)
set_option maxHeartbeats 4000000 in
set_option maxRecDepth 100000 in
theorem c_X9_readSecret {k0 : Nat} (hk0 : sd_kd k0 = 9) {S S' : sd_St} (h : f_X9_readSecret k0 S = some ((), S')) : Met l yX9_readSecret (Cond.code yX9_readSecret cX9_readSecret 5 none :: sd_wl) (sd_rm 5) (sd_P D cy ad A b0 [.ref (ad k0)] S) (sd_Qv D cy ad A S') 0 0 A := by
  refine sd_met (by decide) (Nat.le_of_ble_eq_true rfl) (fun p e s m args below meth c ls C X hl => ?_)
  obtain ⟨hx, hb, -, hml, hown, hts, -, hG⟩ := id C
  replace C : sd_C RX9 cX9_readSecret 5 none D cy ad A b0 p s m args meth c := C
  replace hl : lv_has ls 5 [(0, .ref (ad k0))] := hl
  unfold f_X9_readSecret at h
  refine lv_aload_n hx hb dX9_readSecret_0 rfl (lv_at hl 0 rfl) ?_
  refine lv_aload_n hx hb dX9_readSecret_1 rfl (lv_at hl 0 rfl) ?_
  refine sd_g9_0 (k := k0) C X hk0 sd_w3_10 dX9_readSecret_2 ?_
  refine sd_g8_11 C X (sd_k9_1 hk0) sd_w13_18 dX9_readSecret_5 ?_
  refine lv_iconst (v := (4 : Int32)) hx hb dX9_readSecret_8 (by decide) ?_
  refine lv_icmp_ne (tgt := 16) hx hb dX9_readSecret_9 (by decide) (fun c_19 => ?_) (fun c_19 => ?_)
  · have h := sd_ifn c_19 h
    refine lv_iconst (v := (0 : Int32)) hx hb dX9_readSecret_16 (by decide) ?_
    exact t_X9_readSecret_b17 C hk0 (0 : Int32) S _ _ _ h X (lv_sub hl [0] rfl)
  · have h := sd_ifp c_19 h
    refine lv_iconst (v := (1 : Int32)) hx hb dX9_readSecret_12 (by decide) ?_
    refine lv_goto (tgt := 17) hx hb dX9_readSecret_13 (by decide) ?_
    exact t_X9_readSecret_b17 C hk0 (1 : Int32) S _ _ _ h X (lv_sub hl [0] rfl)
theorem k_X9_readSecret (C : sd_C own cc nL rt D cy ad A b0 p s m args meth c) (X : sd_H D cy ad A s S H locs) (hls : ls.size = nL) {k0 : Nat} {S2 : sd_St} (hk0 : sd_kd k0 = 9) (h : f_X9_readSecret k0 S = some ((), S2)) (hlink : Cond.methodLink own index yX9_readSecret ∈ sd_wl) (hR : 6 ≤ R.frames ∧ 224 ≤ R.locals ∧ cells ≤ R.cells ∧ slots ≤ R.slots) (hst : (rest.map fun v => v.category).sum ≤ 8) (hdg : decode cc pc = .ok (.invokevirtual index, 3)) (kk : ∀ (H1 : Heap) (locs1 : List Loc), sd_H D cy ad A s S2 H1 locs1 → W p l e R s m args below meth c H1 locs1 cells slots Q (F0 m (pc + 3) ls rest)) : W p l e R s m args below meth c H locs cells slots Q (F0 m pc ls (.ref (ad k0) :: rest)) :=
  sd_goV X (sd_runV C X hls (n := 0) (k := k0) (As := []) (c_X9_readSecret (l := l) (b0 := b0) hk0 h) (sd_goodV hlink sd_w16_19 sd_w16_20 sd_w1_15 sd_w16_21) (ci := 9) rfl (by rw [hk0]; decide) (sd_c9 hk0) (by decide +kernel) rfl hR rfl hst hdg) kk
/-! ===== SecretDays$TownReader.readLaw()V ===== -/
def f_X9_readLaw (k0 : Nat) (S : sd_St) : Option (Unit × sd_St) := sd_cl (f_X9_failIf k0 (S.1 (k0 + 1) 15) (3 : Int32) S) (fun _ S_1 => sd_nm (sd_I S_1 (k0 + 1) 15 (1 : Int32)) (fun S_3 => sd_cl (f_X7_step (k0 + 12) S_3) (fun _ S_4 => sd_cl (f_X9_takeWord k0 (474080961907 : Int64) S_4) (fun _ S_6 => (some ((), S_6))))))
set_option maxHeartbeats 4000000 in
set_option maxRecDepth 100000 in
theorem c_X9_readLaw {k0 : Nat} (hk0 : sd_kd k0 = 9) {S S' : sd_St} (h : f_X9_readLaw k0 S = some ((), S')) : Met l yX9_readLaw (Cond.code yX9_readLaw cX9_readLaw 1 none :: sd_wl) (sd_rm 4) (sd_P D cy ad A b0 [.ref (ad k0)] S) (sd_Qv D cy ad A S') 0 0 A := by
  refine sd_met (by decide) (Nat.le_of_ble_eq_true rfl) (fun p e s m args below meth c ls C X hl => ?_)
  obtain ⟨hx, hb, -, hml, hown, hts, -, hG⟩ := id C
  replace C : sd_C RX9 cX9_readLaw 1 none D cy ad A b0 p s m args meth c := C
  replace hl : lv_has ls 1 [(0, .ref (ad k0))] := hl
  unfold f_X9_readLaw at h
  refine lv_aload_n hx hb dX9_readLaw_0 rfl (lv_at hl 0 rfl) ?_
  refine lv_aload_n hx hb dX9_readLaw_1 rfl (lv_at hl 0 rfl) ?_
  refine sd_g9_0 (k := k0) C X hk0 sd_w3_10 dX9_readLaw_2 ?_
  refine sd_g8_15 C X (sd_k9_1 hk0) sd_w17_7 dX9_readLaw_5 ?_
  refine lv_iconst (v := (3 : Int32)) hx hb dX9_readLaw_8 (by decide) ?_
  obtain ⟨r_2, S_1, er_2, h⟩ := sd_cl_some h
  refine k_X9_failIf C X hl.1 hk0 er_2 sd_w12_20 (by decide) (Nat.le_of_ble_eq_true rfl) dX9_readLaw_9 (fun H locs X => ?_)
  refine lv_aload_n hx hb dX9_readLaw_12 rfl (lv_at hl 0 rfl) ?_
  refine sd_g9_0 (k := k0) C X hk0 sd_w3_10 dX9_readLaw_13 ?_
  refine lv_iconst (v := (1 : Int32)) hx hb dX9_readLaw_16 (by decide) ?_
  obtain ⟨S_3, eS_3, h⟩ := sd_nm_some h
  refine sd_p8_15 C X (by decide) (sd_k9_1 hk0) sd_w17_7 dX9_readLaw_17 (fun H locs X => ?_)
  rw [← eS_3] at X
  refine lv_aload_n hx hb dX9_readLaw_20 rfl (lv_at hl 0 rfl) ?_
  refine sd_g9_1 (k := k0) C X hk0 sd_w3_14 dX9_readLaw_21 ?_
  obtain ⟨r_5, S_4, er_5, h⟩ := sd_cl_some h
  refine k_X7_step C X hl.1 (sd_k9_12 hk0) er_5 sd_w13_1 (by decide) (Nat.le_of_ble_eq_true rfl) dX9_readLaw_24 (fun H locs X => ?_)
  refine lv_aload_n hx hb dX9_readLaw_27 rfl (lv_at hl 0 rfl) ?_
  refine lv_ldc2 (v := (474080961907 : Int64)) hx hb hown (hts _ sd_w17_8) dX9_readLaw_28 ?_
  obtain ⟨r_7, S_6, er_7, h⟩ := sd_cl_some h
  refine k_X9_takeWord C X hl.1 hk0 er_7 sd_w14_3 (by decide) (Nat.le_of_ble_eq_true rfl) dX9_readLaw_31 (fun H locs X => ?_)
  cases h
  exact sd_vret C X dX9_readLaw_34
theorem k_X9_readLaw (C : sd_C own cc nL rt D cy ad A b0 p s m args meth c) (X : sd_H D cy ad A s S H locs) (hls : ls.size = nL) {k0 : Nat} {S2 : sd_St} (hk0 : sd_kd k0 = 9) (h : f_X9_readLaw k0 S = some ((), S2)) (hlink : Cond.methodLink own index yX9_readLaw ∈ sd_wl) (hR : 5 ≤ R.frames ∧ 180 ≤ R.locals ∧ cells ≤ R.cells ∧ slots ≤ R.slots) (hst : (rest.map fun v => v.category).sum ≤ 8) (hdg : decode cc pc = .ok (.invokevirtual index, 3)) (kk : ∀ (H1 : Heap) (locs1 : List Loc), sd_H D cy ad A s S2 H1 locs1 → W p l e R s m args below meth c H1 locs1 cells slots Q (F0 m (pc + 3) ls rest)) : W p l e R s m args below meth c H locs cells slots Q (F0 m pc ls (.ref (ad k0) :: rest)) :=
  sd_goV X (sd_runV C X hls (n := 0) (k := k0) (As := []) (c_X9_readLaw (l := l) (b0 := b0) hk0 h) (sd_goodV hlink sd_w17_4 sd_w17_5 sd_w1_15 sd_w17_6) (ci := 9) rfl (by rw [hk0]; decide) (sd_c9 hk0) (by decide +kernel) rfl hR rfl hst hdg) kk
/-! ===== SecretDays$TownReader.readTape()I ===== -/
def f_X9_readTape_b193 (q26 : (Int32 → sd_St → Option (Int32 × sd_St))) (k0 : Nat) (x1 : Int32) (w1 : Int32) (S : sd_St) : Option (Int32 × sd_St) := sd_cl (f_X9_failIf k0 w1 (1 : Int32) S) (fun _ S_1 => sd_cl (f_X7_step (k0 + 12) S_1) (fun _ S_3 => q26 (x1 + (1 : Int32)) S_3))
set_option maxHeartbeats 4000000 in
set_option maxRecDepth 100000 in
theorem t_X9_readTape_b193 (C : sd_C RX9 cX9_readTape 2 (some .int) D cy ad A b0 p s m args meth c) {k0 : Nat} (hk0 : sd_kd k0 = 9) {r : Int32} {S' : sd_St} {q26 : (Int32 → sd_St → Option (Int32 × sd_St))} (hq26 : ∀ (x1 : Int32) (S : sd_St) (H : Heap) (locs : List Loc) (ls : Array Slot), q26 x1 S = some (r, S') → sd_H D cy ad A s S H locs → lv_has ls 2 [(0, .ref (ad k0)), (1, .int x1)] → W p l e (sd_rm 6) s m args below meth c H locs 0 0 (MQ below (sd_Qi D cy ad A r S') args s 0 0 A) (F0 m 26 ls [])) : ∀ (x1 : Int32) (w1 : Int32) (S : sd_St) (H : Heap) (locs : List Loc) (ls : Array Slot), f_X9_readTape_b193 q26 k0 x1 w1 S = some (r, S') → sd_H D cy ad A s S H locs → lv_has ls 2 [(0, .ref (ad k0)), (1, .int x1)] → W p l e (sd_rm 6) s m args below meth c H locs 0 0 (MQ below (sd_Qi D cy ad A r S') args s 0 0 A) (F0 m 193 ls [.int w1, .ref (ad k0)]) := by
  obtain ⟨hx, hb, -, hml, hown, hts, -, hG⟩ := id C
  intro x1 w1 S H locs ls h X hl
  unfold f_X9_readTape_b193 at h
  refine lv_iconst (v := (1 : Int32)) hx hb dX9_readTape_193 (by decide) ?_
  obtain ⟨r_2, S_1, er_2, h⟩ := sd_cl_some h
  refine k_X9_failIf C X hl.1 hk0 er_2 sd_w12_20 (by decide) (Nat.le_of_ble_eq_true rfl) dX9_readTape_194 (fun H locs X => ?_)
  refine lv_aload_n hx hb dX9_readTape_197 rfl (lv_at hl 0 rfl) ?_
  refine sd_g9_1 (k := k0) C X hk0 sd_w3_14 dX9_readTape_198 ?_
  obtain ⟨r_4, S_3, er_4, h⟩ := sd_cl_some h
  refine k_X7_step C X hl.1 (sd_k9_12 hk0) er_4 sd_w13_1 (by decide) (Nat.le_of_ble_eq_true rfl) dX9_readTape_201 (fun H locs X => ?_)
  refine lv_iinc (v := (x1 + (1 : Int32))) (lv' := [(1, .int (x1 + (1 : Int32))), (0, .ref (ad k0))]) hx hb dX9_readTape_204 hl (k := 1) rfl rfl (by decide) rfl (fun ls hl => ?_)
  refine lv_goto (tgt := 26) hx hb dX9_readTape_207 (by decide) ?_
  exact hq26 (x1 + (1 : Int32)) S_3 _ _ _ h X (lv_sub hl [1, 0] rfl)
def f_X9_readTape_b176 (q26 : (Int32 → sd_St → Option (Int32 × sd_St))) (k0 : Nat) (x1 : Int32) (S : sd_St) : Option (Int32 × sd_St) := (if (S.1 (k0 + 12) 3) = (3 : Int32) then f_X9_readTape_b193 q26 k0 x1 (0 : Int32) S else f_X9_readTape_b193 q26 k0 x1 (1 : Int32) S)
set_option maxHeartbeats 4000000 in
set_option maxRecDepth 100000 in
theorem t_X9_readTape_b176 (C : sd_C RX9 cX9_readTape 2 (some .int) D cy ad A b0 p s m args meth c) {k0 : Nat} (hk0 : sd_kd k0 = 9) {r : Int32} {S' : sd_St} {q26 : (Int32 → sd_St → Option (Int32 × sd_St))} (hq26 : ∀ (x1 : Int32) (S : sd_St) (H : Heap) (locs : List Loc) (ls : Array Slot), q26 x1 S = some (r, S') → sd_H D cy ad A s S H locs → lv_has ls 2 [(0, .ref (ad k0)), (1, .int x1)] → W p l e (sd_rm 6) s m args below meth c H locs 0 0 (MQ below (sd_Qi D cy ad A r S') args s 0 0 A) (F0 m 26 ls [])) : ∀ (x1 : Int32) (S : sd_St) (H : Heap) (locs : List Loc) (ls : Array Slot), f_X9_readTape_b176 q26 k0 x1 S = some (r, S') → sd_H D cy ad A s S H locs → lv_has ls 2 [(0, .ref (ad k0)), (1, .int x1)] → W p l e (sd_rm 6) s m args below meth c H locs 0 0 (MQ below (sd_Qi D cy ad A r S') args s 0 0 A) (F0 m 176 ls []) := by
  obtain ⟨hx, hb, -, hml, hown, hts, -, hG⟩ := id C
  intro x1 S H locs ls h X hl
  unfold f_X9_readTape_b176 at h
  refine lv_aload_n hx hb dX9_readTape_176 rfl (lv_at hl 0 rfl) ?_
  refine lv_aload_n hx hb dX9_readTape_177 rfl (lv_at hl 0 rfl) ?_
  refine sd_g9_1 (k := k0) C X hk0 sd_w3_14 dX9_readTape_178 ?_
  refine sd_g7_3 C X (sd_k9_12 hk0) sd_w10_15 dX9_readTape_181 ?_
  refine lv_iconst (v := (3 : Int32)) hx hb dX9_readTape_184 (by decide) ?_
  refine lv_icmp_eq (tgt := 192) hx hb dX9_readTape_185 (by decide) (fun c_5 => ?_) (fun c_5 => ?_)
  · have h := sd_ifp c_5 h
    refine lv_iconst (v := (0 : Int32)) hx hb dX9_readTape_192 (by decide) ?_
    exact t_X9_readTape_b193 C hk0 hq26 x1 (0 : Int32) S _ _ _ h X (lv_sub hl [0, 1] rfl)
  · have h := sd_ifn c_5 h
    refine lv_iconst (v := (1 : Int32)) hx hb dX9_readTape_188 (by decide) ?_
    refine lv_goto (tgt := 193) hx hb dX9_readTape_189 (by decide) ?_
    exact t_X9_readTape_b193 C hk0 hq26 x1 (1 : Int32) S _ _ _ h X (lv_sub hl [0, 1] rfl)
def f_X9_readTape_b210 (k0 : Nat) (S : sd_St) : Option (Int32 × sd_St) := sd_cl (f_X7_wipe (k0 + 12) S) (fun _ S_6 => (some ((S_6.1 k0 5), S_6)))
set_option maxHeartbeats 4000000 in
set_option maxRecDepth 100000 in
theorem t_X9_readTape_b210 (C : sd_C RX9 cX9_readTape 2 (some .int) D cy ad A b0 p s m args meth c) {k0 : Nat} (hk0 : sd_kd k0 = 9) {r : Int32} {S' : sd_St} : ∀ (S : sd_St) (H : Heap) (locs : List Loc) (ls : Array Slot), f_X9_readTape_b210 k0 S = some (r, S') → sd_H D cy ad A s S H locs → lv_has ls 2 [(0, .ref (ad k0))] → W p l e (sd_rm 6) s m args below meth c H locs 0 0 (MQ below (sd_Qi D cy ad A r S') args s 0 0 A) (F0 m 210 ls []) := by
  obtain ⟨hx, hb, -, hml, hown, hts, -, hG⟩ := id C
  intro S H locs ls h X hl
  unfold f_X9_readTape_b210 at h
  refine lv_aload_n hx hb dX9_readTape_210 rfl (lv_at hl 0 rfl) ?_
  refine sd_g9_1 (k := k0) C X hk0 sd_w3_14 dX9_readTape_211 ?_
  obtain ⟨r_7, S_6, er_7, h⟩ := sd_cl_some h
  refine k_X7_wipe C X hl.1 (sd_k9_12 hk0) er_7 sd_w17_9 (by decide) (Nat.le_of_ble_eq_true rfl) dX9_readTape_214 (fun H locs X => ?_)
  refine lv_aload_n hx hb dX9_readTape_217 rfl (lv_at hl 0 rfl) ?_
  refine sd_g9_5 C X hk0 sd_w10_14 dX9_readTape_218 ?_
  cases h
  exact sd_iret C X dX9_readTape_221
def f_X9_readTape_l26 (k0 : Nat) : Nat → Int32 → sd_St → Option (Int32 × sd_St)
  | 0 => fun _ _ => none
  | n + 1 => fun x1 S => (if (1000 : Int32) ≤ x1 then f_X9_readTape_b210 k0 S else (if (S.1 k0 5) = 0 then (if (S.1 (k0 + 12) 3) = 0 then f_X9_readTape_b210 k0 S else sd_cl (f_X7_isAt (k0 + 12) (1818583408 : Int64) S) (fun r_12 S_11 => (if r_12 = 0 then sd_cl (f_X7_isAt (k0 + 12) (123581014175598 : Int64) S_11) (fun r_15 S_14 => (if r_15 = 0 then sd_cl (f_X7_isAt (k0 + 12) (426836257907 : Int64) S_14) (fun r_18 S_17 => (if r_18 = 0 then sd_cl (f_X7_isAt (k0 + 12) (1635213689 : Int64) S_17) (fun r_21 S_20 => (if r_21 = 0 then sd_cl (f_X7_isAt (k0 + 12) (126879297332596 : Int64) S_20) (fun r_24 S_23 => (if r_24 = 0 then sd_cl (f_X7_isAt (k0 + 12) (7102839 : Int64) S_23) (fun r_27 S_26 => (if r_27 = 0 then sd_cl (f_X9_failIf k0 (1 : Int32) (1 : Int32) S_26) (fun _ S_29 => f_X9_readTape_b176 (f_X9_readTape_l26 k0 n) k0 x1 S_29) else sd_cl (f_X9_readLaw k0 S_26) (fun _ S_31 => f_X9_readTape_b176 (f_X9_readTape_l26 k0 n) k0 x1 S_31))) else sd_cl (f_X9_readSecret k0 S_23) (fun _ S_33 => f_X9_readTape_b176 (f_X9_readTape_l26 k0 n) k0 x1 S_33))) else sd_cl (f_X9_readAway k0 S_20) (fun _ S_35 => f_X9_readTape_b176 (f_X9_readTape_l26 k0 n) k0 x1 S_35))) else sd_cl (f_X9_readCalls k0 S_17) (fun _ S_37 => f_X9_readTape_b176 (f_X9_readTape_l26 k0 n) k0 x1 S_37))) else sd_cl (f_X9_readPerson k0 S_14) (fun _ S_39 => f_X9_readTape_b176 (f_X9_readTape_l26 k0 n) k0 x1 S_39))) else sd_cl (f_X9_readLeap k0 S_11) (fun _ S_41 => f_X9_readTape_b176 (f_X9_readTape_l26 k0 n) k0 x1 S_41)))) else f_X9_readTape_b210 k0 S))
set_option maxHeartbeats 4000000 in
set_option maxRecDepth 100000 in
theorem t_X9_readTape_l26 (C : sd_C RX9 cX9_readTape 2 (some .int) D cy ad A b0 p s m args meth c) {k0 : Nat} (hk0 : sd_kd k0 = 9) {r : Int32} {S' : sd_St} : ∀ (n : Nat) (x1 : Int32) (S : sd_St) (H : Heap) (locs : List Loc) (ls : Array Slot), f_X9_readTape_l26 k0 n x1 S = some (r, S') → sd_H D cy ad A s S H locs → lv_has ls 2 [(0, .ref (ad k0)), (1, .int x1)] → W p l e (sd_rm 6) s m args below meth c H locs 0 0 (MQ below (sd_Qi D cy ad A r S') args s 0 0 A) (F0 m 26 ls []) := by
  obtain ⟨hx, hb, -, hml, hown, hts, -, hG⟩ := id C
  intro n
  induction n with
  | zero => intro x1 S H locs ls h; cases h
  | succ n ih =>
    intro x1 S H locs ls h X hl
    unfold f_X9_readTape_l26 at h
    refine lv_iload_n hx hb dX9_readTape_26 rfl (lv_at hl 1 rfl) ?_
    refine lv_sipush (v := (1000 : Int32)) hx hb dX9_readTape_27 (by decide) ?_
    refine lv_icmp_ge (tgt := 210) hx hb dX9_readTape_30 (by decide) (fun c_8 => ?_) (fun c_8 => ?_)
    · have h := sd_ifp c_8 h
      exact t_X9_readTape_b210 C hk0 S _ _ _ h X (lv_sub hl [0] rfl)
    · have h := sd_ifn c_8 h
      refine lv_aload_n hx hb dX9_readTape_33 rfl (lv_at hl 0 rfl) ?_
      refine sd_g9_5 C X hk0 sd_w10_14 dX9_readTape_34 ?_
      refine lv_if_ne (tgt := 210) hx hb dX9_readTape_37 (by decide) (fun c_9 => ?_) (fun c_9 => ?_)
      · have h := sd_ifn c_9 h
        exact t_X9_readTape_b210 C hk0 S _ _ _ h X (lv_sub hl [0] rfl)
      · have h := sd_ifp c_9 h
        refine lv_aload_n hx hb dX9_readTape_40 rfl (lv_at hl 0 rfl) ?_
        refine sd_g9_1 (k := k0) C X hk0 sd_w3_14 dX9_readTape_41 ?_
        refine sd_g7_3 C X (sd_k9_12 hk0) sd_w10_15 dX9_readTape_44 ?_
        refine lv_if_eq (tgt := 210) hx hb dX9_readTape_47 (by decide) (fun c_10 => ?_) (fun c_10 => ?_)
        · have h := sd_ifp c_10 h
          exact t_X9_readTape_b210 C hk0 S _ _ _ h X (lv_sub hl [0] rfl)
        · have h := sd_ifn c_10 h
          refine lv_aload_n hx hb dX9_readTape_50 rfl (lv_at hl 0 rfl) ?_
          refine sd_g9_1 (k := k0) C X hk0 sd_w3_14 dX9_readTape_51 ?_
          refine lv_ldc2 (v := (1818583408 : Int64)) hx hb hown (hts _ sd_w10_16) dX9_readTape_54 ?_
          obtain ⟨r_12, S_11, er_12, h⟩ := sd_cl_some h
          refine k_X7_isAt C X hl.1 (sd_k9_12 hk0) er_12 sd_w12_11 (by decide) (Nat.le_of_ble_eq_true rfl) dX9_readTape_57 (fun H locs X => ?_)
          refine lv_if_eq (tgt := 70) hx hb dX9_readTape_60 (by decide) (fun c_13 => ?_) (fun c_13 => ?_)
          · have h := sd_ifp c_13 h
            refine lv_aload_n hx hb dX9_readTape_70 rfl (lv_at hl 0 rfl) ?_
            refine sd_g9_1 (k := k0) C X hk0 sd_w3_14 dX9_readTape_71 ?_
            refine lv_ldc2 (v := (123581014175598 : Int64)) hx hb hown (hts _ sd_w10_17) dX9_readTape_74 ?_
            obtain ⟨r_15, S_14, er_15, h⟩ := sd_cl_some h
            refine k_X7_isAt C X hl.1 (sd_k9_12 hk0) er_15 sd_w12_11 (by decide) (Nat.le_of_ble_eq_true rfl) dX9_readTape_77 (fun H locs X => ?_)
            refine lv_if_eq (tgt := 90) hx hb dX9_readTape_80 (by decide) (fun c_16 => ?_) (fun c_16 => ?_)
            · have h := sd_ifp c_16 h
              refine lv_aload_n hx hb dX9_readTape_90 rfl (lv_at hl 0 rfl) ?_
              refine sd_g9_1 (k := k0) C X hk0 sd_w3_14 dX9_readTape_91 ?_
              refine lv_ldc2 (v := (426836257907 : Int64)) hx hb hown (hts _ sd_w10_18) dX9_readTape_94 ?_
              obtain ⟨r_18, S_17, er_18, h⟩ := sd_cl_some h
              refine k_X7_isAt C X hl.1 (sd_k9_12 hk0) er_18 sd_w12_11 (by decide) (Nat.le_of_ble_eq_true rfl) dX9_readTape_97 (fun H locs X => ?_)
              refine lv_if_eq (tgt := 110) hx hb dX9_readTape_100 (by decide) (fun c_19 => ?_) (fun c_19 => ?_)
              · have h := sd_ifp c_19 h
                refine lv_aload_n hx hb dX9_readTape_110 rfl (lv_at hl 0 rfl) ?_
                refine sd_g9_1 (k := k0) C X hk0 sd_w3_14 dX9_readTape_111 ?_
                refine lv_ldc2 (v := (1635213689 : Int64)) hx hb hown (hts _ sd_w10_19) dX9_readTape_114 ?_
                obtain ⟨r_21, S_20, er_21, h⟩ := sd_cl_some h
                refine k_X7_isAt C X hl.1 (sd_k9_12 hk0) er_21 sd_w12_11 (by decide) (Nat.le_of_ble_eq_true rfl) dX9_readTape_117 (fun H locs X => ?_)
                refine lv_if_eq (tgt := 130) hx hb dX9_readTape_120 (by decide) (fun c_22 => ?_) (fun c_22 => ?_)
                · have h := sd_ifp c_22 h
                  refine lv_aload_n hx hb dX9_readTape_130 rfl (lv_at hl 0 rfl) ?_
                  refine sd_g9_1 (k := k0) C X hk0 sd_w3_14 dX9_readTape_131 ?_
                  refine lv_ldc2 (v := (126879297332596 : Int64)) hx hb hown (hts _ sd_w10_20) dX9_readTape_134 ?_
                  obtain ⟨r_24, S_23, er_24, h⟩ := sd_cl_some h
                  refine k_X7_isAt C X hl.1 (sd_k9_12 hk0) er_24 sd_w12_11 (by decide) (Nat.le_of_ble_eq_true rfl) dX9_readTape_137 (fun H locs X => ?_)
                  refine lv_if_eq (tgt := 150) hx hb dX9_readTape_140 (by decide) (fun c_25 => ?_) (fun c_25 => ?_)
                  · have h := sd_ifp c_25 h
                    refine lv_aload_n hx hb dX9_readTape_150 rfl (lv_at hl 0 rfl) ?_
                    refine sd_g9_1 (k := k0) C X hk0 sd_w3_14 dX9_readTape_151 ?_
                    refine lv_ldc2 (v := (7102839 : Int64)) hx hb hown (hts _ sd_w10_21) dX9_readTape_154 ?_
                    obtain ⟨r_27, S_26, er_27, h⟩ := sd_cl_some h
                    refine k_X7_isAt C X hl.1 (sd_k9_12 hk0) er_27 sd_w12_11 (by decide) (Nat.le_of_ble_eq_true rfl) dX9_readTape_157 (fun H locs X => ?_)
                    refine lv_if_eq (tgt := 170) hx hb dX9_readTape_160 (by decide) (fun c_28 => ?_) (fun c_28 => ?_)
                    · have h := sd_ifp c_28 h
                      refine lv_aload_n hx hb dX9_readTape_170 rfl (lv_at hl 0 rfl) ?_
                      refine lv_iconst (v := (1 : Int32)) hx hb dX9_readTape_171 (by decide) ?_
                      refine lv_iconst (v := (1 : Int32)) hx hb dX9_readTape_172 (by decide) ?_
                      obtain ⟨r_30, S_29, er_30, h⟩ := sd_cl_some h
                      refine k_X9_failIf C X hl.1 hk0 er_30 sd_w12_20 (by decide) (Nat.le_of_ble_eq_true rfl) dX9_readTape_173 (fun H locs X => ?_)
                      exact t_X9_readTape_b176 C hk0 ih x1 S_29 _ _ _ h X (lv_sub hl [0, 1] rfl)
                    · have h := sd_ifn c_28 h
                      refine lv_aload_n hx hb dX9_readTape_163 rfl (lv_at hl 0 rfl) ?_
                      obtain ⟨r_32, S_31, er_32, h⟩ := sd_cl_some h
                      refine k_X9_readLaw C X hl.1 hk0 er_32 sd_w17_3 (by decide) (Nat.le_of_ble_eq_true rfl) dX9_readTape_164 (fun H locs X => ?_)
                      refine lv_goto (tgt := 176) hx hb dX9_readTape_167 (by decide) ?_
                      exact t_X9_readTape_b176 C hk0 ih x1 S_31 _ _ _ h X (lv_sub hl [0, 1] rfl)
                  · have h := sd_ifn c_25 h
                    refine lv_aload_n hx hb dX9_readTape_143 rfl (lv_at hl 0 rfl) ?_
                    obtain ⟨r_34, S_33, er_34, h⟩ := sd_cl_some h
                    refine k_X9_readSecret C X hl.1 hk0 er_34 sd_w16_18 (by decide) (Nat.le_of_ble_eq_true rfl) dX9_readTape_144 (fun H locs X => ?_)
                    refine lv_goto (tgt := 176) hx hb dX9_readTape_147 (by decide) ?_
                    exact t_X9_readTape_b176 C hk0 ih x1 S_33 _ _ _ h X (lv_sub hl [0, 1] rfl)
                · have h := sd_ifn c_22 h
                  refine lv_aload_n hx hb dX9_readTape_123 rfl (lv_at hl 0 rfl) ?_
                  obtain ⟨r_36, S_35, er_36, h⟩ := sd_cl_some h
                  refine k_X9_readAway C X hl.1 hk0 er_36 sd_w16_3 (by decide) (Nat.le_of_ble_eq_true rfl) dX9_readTape_124 (fun H locs X => ?_)
                  refine lv_goto (tgt := 176) hx hb dX9_readTape_127 (by decide) ?_
                  exact t_X9_readTape_b176 C hk0 ih x1 S_35 _ _ _ h X (lv_sub hl [0, 1] rfl)
              · have h := sd_ifn c_19 h
                refine lv_aload_n hx hb dX9_readTape_103 rfl (lv_at hl 0 rfl) ?_
                obtain ⟨r_38, S_37, er_38, h⟩ := sd_cl_some h
                refine k_X9_readCalls C X hl.1 hk0 er_38 sd_w14_19 (by decide) (Nat.le_of_ble_eq_true rfl) dX9_readTape_104 (fun H locs X => ?_)
                refine lv_goto (tgt := 176) hx hb dX9_readTape_107 (by decide) ?_
                exact t_X9_readTape_b176 C hk0 ih x1 S_37 _ _ _ h X (lv_sub hl [0, 1] rfl)
            · have h := sd_ifn c_16 h
              refine lv_aload_n hx hb dX9_readTape_83 rfl (lv_at hl 0 rfl) ?_
              obtain ⟨r_40, S_39, er_40, h⟩ := sd_cl_some h
              refine k_X9_readPerson C X hl.1 hk0 er_40 sd_w13_7 (by decide) (Nat.le_of_ble_eq_true rfl) dX9_readTape_84 (fun H locs X => ?_)
              refine lv_goto (tgt := 176) hx hb dX9_readTape_87 (by decide) ?_
              exact t_X9_readTape_b176 C hk0 ih x1 S_39 _ _ _ h X (lv_sub hl [0, 1] rfl)
          · have h := sd_ifn c_13 h
            refine lv_aload_n hx hb dX9_readTape_63 rfl (lv_at hl 0 rfl) ?_
            obtain ⟨r_42, S_41, er_42, h⟩ := sd_cl_some h
            refine k_X9_readLeap C X hl.1 hk0 er_42 sd_w12_15 (by decide) (Nat.le_of_ble_eq_true rfl) dX9_readTape_64 (fun H locs X => ?_)
            refine lv_goto (tgt := 176) hx hb dX9_readTape_67 (by decide) ?_
            exact t_X9_readTape_b176 C hk0 ih x1 S_41 _ _ _ h X (lv_sub hl [0, 1] rfl)
def f_X9_readTape (k0 : Nat) (S : sd_St) : Option (Int32 × sd_St) := sd_cl (f_X8_empty (k0 + 1) S) (fun _ S_43 => sd_nm (sd_I S_43 k0 4 (0 : Int32)) (fun S_45 => sd_nm (sd_I S_45 k0 5 (0 : Int32)) (fun S_46 => sd_cl (f_X7_rewind (k0 + 12) S_46) (fun _ S_47 => f_X9_readTape_l26 k0 sd_FU (0 : Int32) S_47))))
set_option maxHeartbeats 4000000 in
set_option maxRecDepth 100000 in
theorem c_X9_readTape {k0 : Nat} (hk0 : sd_kd k0 = 9) {S S' : sd_St} {r : Int32} (h : f_X9_readTape k0 S = some (r, S')) : Met l yX9_readTape (Cond.code yX9_readTape cX9_readTape 2 (some .int) :: sd_wl) (sd_rm 6) (sd_P D cy ad A b0 [.ref (ad k0)] S) (sd_Qi D cy ad A r S') 0 0 A := by
  refine sd_met (by decide) (Nat.le_of_ble_eq_true rfl) (fun p e s m args below meth c ls C X hl => ?_)
  obtain ⟨hx, hb, -, hml, hown, hts, -, hG⟩ := id C
  replace C : sd_C RX9 cX9_readTape 2 (some .int) D cy ad A b0 p s m args meth c := C
  replace hl : lv_has ls 2 [(0, .ref (ad k0))] := hl
  unfold f_X9_readTape at h
  refine lv_aload_n hx hb dX9_readTape_0 rfl (lv_at hl 0 rfl) ?_
  refine sd_g9_0 (k := k0) C X hk0 sd_w3_10 dX9_readTape_1 ?_
  obtain ⟨r_44, S_43, er_44, h⟩ := sd_cl_some h
  refine k_X8_empty C X hl.1 (sd_k9_1 hk0) er_44 sd_w10_22 (by decide) (Nat.le_of_ble_eq_true rfl) dX9_readTape_4 (fun H locs X => ?_)
  refine lv_aload_n hx hb dX9_readTape_7 rfl (lv_at hl 0 rfl) ?_
  refine lv_iconst (v := (0 : Int32)) hx hb dX9_readTape_8 (by decide) ?_
  obtain ⟨S_45, eS_45, h⟩ := sd_nm_some h
  refine sd_p9_4 C X (by decide) hk0 sd_w10_13 dX9_readTape_9 (fun H locs X => ?_)
  rw [← eS_45] at X
  refine lv_aload_n hx hb dX9_readTape_12 rfl (lv_at hl 0 rfl) ?_
  refine lv_iconst (v := (0 : Int32)) hx hb dX9_readTape_13 (by decide) ?_
  obtain ⟨S_46, eS_46, h⟩ := sd_nm_some h
  refine sd_p9_5 C X hk0 sd_w10_14 dX9_readTape_14 (fun H locs X => ?_)
  rw [← eS_46] at X
  refine lv_aload_n hx hb dX9_readTape_17 rfl (lv_at hl 0 rfl) ?_
  refine sd_g9_1 (k := k0) C X hk0 sd_w3_14 dX9_readTape_18 ?_
  obtain ⟨r_48, S_47, er_48, h⟩ := sd_cl_some h
  refine k_X7_rewind C X hl.1 (sd_k9_12 hk0) er_48 sd_w11_8 (by decide) (Nat.le_of_ble_eq_true rfl) dX9_readTape_21 (fun H locs X => ?_)
  refine lv_iconst (v := (0 : Int32)) hx hb dX9_readTape_24 (by decide) ?_
  refine lv_istore_n (lv' := [(1, .int (0 : Int32)), (0, .ref (ad k0))]) hx hb dX9_readTape_25 rfl hl (by decide) rfl (fun ls hl => ?_)
  exact t_X9_readTape_l26 C hk0 sd_FU (0 : Int32) S_47 _ _ _ h X (lv_sub hl [1, 0] rfl)
theorem k_X9_readTape (C : sd_C own cc nL rt D cy ad A b0 p s m args meth c) (X : sd_H D cy ad A s S H locs) (hls : ls.size = nL) {k0 : Nat} {S2 : sd_St} {r : Int32} (hk0 : sd_kd k0 = 9) (h : f_X9_readTape k0 S = some (r, S2)) (hlink : Cond.methodLink own index yX9_readTape ∈ sd_wl) (hR : 7 ≤ R.frames ∧ 261 ≤ R.locals ∧ cells ≤ R.cells ∧ slots ≤ R.slots) (hst : (rest.map fun v => v.category).sum ≤ 8) (hdg : decode cc pc = .ok (.invokevirtual index, 3)) (kk : ∀ (H1 : Heap) (locs1 : List Loc), sd_H D cy ad A s S2 H1 locs1 → W p l e R s m args below meth c H1 locs1 cells slots Q (F0 m (pc + 3) ls (.int r :: rest))) : W p l e R s m args below meth c H locs cells slots Q (F0 m pc ls (.ref (ad k0) :: rest)) :=
  sd_goI X (sd_runV C X hls (n := 0) (k := k0) (As := []) (c_X9_readTape (l := l) (b0 := b0) hk0 h) (sd_goodV hlink sd_w10_10 sd_w10_11 sd_w1_15 sd_w10_12) (ci := 9) rfl (by rw [hk0]; decide) (sd_c9 hk0) (by decide +kernel) rfl hR rfl hst hdg) kk
/-! ===== SecretDays$WhatIf.forget()V ===== -/
def f_X10_forget (k0 : Nat) (S : sd_St) : Option (Unit × sd_St) := sd_cl (f_J7_fill_53178 (k0 + 28) (-2 : Int32) S) (fun _ S_1 => (some ((), S_1)))
set_option maxHeartbeats 4000000 in
set_option maxRecDepth 100000 in
theorem c_X10_forget {k0 : Nat} (hk0 : sd_kd k0 = 10) {S S' : sd_St} (h : f_X10_forget k0 S = some ((), S')) : Met l yX10_forget (Cond.code yX10_forget cX10_forget 1 none :: sd_wl) (sd_rm 1) (sd_P D cy ad A b0 [.ref (ad k0)] S) (sd_Qv D cy ad A S') 0 0 A := by
  refine sd_met (by decide) (Nat.le_of_ble_eq_true rfl) (fun p e s m args below meth c ls C X hl => ?_)
  obtain ⟨hx, hb, -, hml, hown, hts, -, hG⟩ := id C
  replace C : sd_C RX10 cX10_forget 1 none D cy ad A b0 p s m args meth c := C
  replace hl : lv_has ls 1 [(0, .ref (ad k0))] := hl
  unfold f_X10_forget at h
  refine lv_aload_n hx hb dX10_forget_0 rfl (lv_at hl 0 rfl) ?_
  refine sd_g10_5 (k := k0) C X hk0 sd_w7_3 dX10_forget_1 ?_
  refine lv_bipush (v := (-2 : Int32)) hx hb dX10_forget_4 (by decide) ?_
  obtain ⟨r_2, S_1, er_2, h⟩ := sd_cl_some h
  refine k_J7_fill_53178 C X hl.1 (sd_k10_28 hk0) er_2 sd_w7_5 (by decide) (Nat.le_of_ble_eq_true rfl) dX10_forget_6 (fun H locs X => ?_)
  cases h
  exact sd_vret C X dX10_forget_9
theorem k_X10_forget (C : sd_C own cc nL rt D cy ad A b0 p s m args meth c) (X : sd_H D cy ad A s S H locs) (hls : ls.size = nL) {k0 : Nat} {S2 : sd_St} (hk0 : sd_kd k0 = 10) (h : f_X10_forget k0 S = some ((), S2)) (hlink : Cond.methodLink own index yX10_forget ∈ sd_wl) (hR : 2 ≤ R.frames ∧ 60 ≤ R.locals ∧ cells ≤ R.cells ∧ slots ≤ R.slots) (hst : (rest.map fun v => v.category).sum ≤ 8) (hdg : decode cc pc = .ok (.invokevirtual index, 3)) (kk : ∀ (H1 : Heap) (locs1 : List Loc), sd_H D cy ad A s S2 H1 locs1 → W p l e R s m args below meth c H1 locs1 cells slots Q (F0 m (pc + 3) ls rest)) : W p l e R s m args below meth c H locs cells slots Q (F0 m pc ls (.ref (ad k0) :: rest)) :=
  sd_goV X (sd_runV C X hls (n := 0) (k := k0) (As := []) (c_X10_forget (l := l) (b0 := b0) hk0 h) (sd_goodV hlink sd_w18_12 sd_w18_13 sd_w3_4 sd_w18_14) (ci := 10) rfl (by rw [hk0]; decide) (sd_c10 hk0) (by decide +kernel) rfl hR rfl hst hdg) kk
/-! ===== SecretDays$WhatIf.markTurns(LSecretDays$Town;)V ===== -/
def f_X10_markTurns_b74 (q32 : (Int32 → sd_St → Option (Unit × sd_St))) (k0 : Nat) (k1 : Nat) (x2 : Int32) (S : sd_St) : Option (Unit × sd_St) := q32 (x2 + (1 : Int32)) S
set_option maxHeartbeats 4000000 in
set_option maxRecDepth 100000 in
theorem t_X10_markTurns_b74 (C : sd_C RX10 cX10_markTurns 3 none D cy ad A b0 p s m args meth c) {k0 : Nat} {k1 : Nat} (hk0 : sd_kd k0 = 10) (hk1 : sd_kd k1 = 8) {S' : sd_St} {q32 : (Int32 → sd_St → Option (Unit × sd_St))} (hq32 : ∀ (x2 : Int32) (S : sd_St) (H : Heap) (locs : List Loc) (ls : Array Slot), q32 x2 S = some ((), S') → sd_H D cy ad A s S H locs → lv_has ls 3 [(0, .ref (ad k0)), (1, .ref (ad k1)), (2, .int x2)] → W p l e (sd_rm 0) s m args below meth c H locs 0 0 (MQ below (sd_Qv D cy ad A S') args s 0 0 A) (F0 m 32 ls [])) : ∀ (x2 : Int32) (S : sd_St) (H : Heap) (locs : List Loc) (ls : Array Slot), f_X10_markTurns_b74 q32 k0 k1 x2 S = some ((), S') → sd_H D cy ad A s S H locs → lv_has ls 3 [(0, .ref (ad k0)), (1, .ref (ad k1)), (2, .int x2)] → W p l e (sd_rm 0) s m args below meth c H locs 0 0 (MQ below (sd_Qv D cy ad A S') args s 0 0 A) (F0 m 74 ls []) := by
  obtain ⟨hx, hb, -, hml, hown, hts, -, hG⟩ := id C
  intro x2 S H locs ls h X hl
  unfold f_X10_markTurns_b74 at h
  refine lv_iinc (v := (x2 + (1 : Int32))) (lv' := [(2, .int (x2 + (1 : Int32))), (0, .ref (ad k0)), (1, .ref (ad k1))]) hx hb dX10_markTurns_74 hl (k := 2) rfl rfl (by decide) rfl (fun ls hl => ?_)
  refine lv_goto (tgt := 32) hx hb dX10_markTurns_77 (by decide) ?_
  exact hq32 (x2 + (1 : Int32)) S _ _ _ h X (lv_sub hl [1, 2, 0] rfl)
def f_X10_markTurns_l130 (k0 : Nat) (k1 : Nat) : Nat → Int32 → sd_St → Option (Unit × sd_St)
  | 0 => fun _ _ => none
  | n + 1 => fun x2 S => (if (S.1 k1 11) ≤ x2 then (some ((), S)) else sd_ld S (k1 + 10) x2 (fun v_2 => sd_st S (k0 + 27) (sd_rem v_2 (366 : Int32)) (vp_nar .boolean (1 : Int32)) (fun S_3 => (f_X10_markTurns_l130 k0 k1 n) (x2 + (1 : Int32)) S_3)))
set_option maxHeartbeats 4000000 in
set_option maxRecDepth 100000 in
theorem t_X10_markTurns_l130 (C : sd_C RX10 cX10_markTurns 3 none D cy ad A b0 p s m args meth c) {k0 : Nat} {k1 : Nat} (hk0 : sd_kd k0 = 10) (hk1 : sd_kd k1 = 8) {S' : sd_St} : ∀ (n : Nat) (x2 : Int32) (S : sd_St) (H : Heap) (locs : List Loc) (ls : Array Slot), f_X10_markTurns_l130 k0 k1 n x2 S = some ((), S') → sd_H D cy ad A s S H locs → lv_has ls 3 [(0, .ref (ad k0)), (1, .ref (ad k1)), (2, .int x2)] → W p l e (sd_rm 0) s m args below meth c H locs 0 0 (MQ below (sd_Qv D cy ad A S') args s 0 0 A) (F0 m 130 ls []) := by
  obtain ⟨hx, hb, -, hml, hown, hts, -, hG⟩ := id C
  intro n
  induction n with
  | zero => intro x2 S H locs ls h; cases h
  | succ n ih =>
    intro x2 S H locs ls h X hl
    unfold f_X10_markTurns_l130 at h
    refine lv_iload_n hx hb dX10_markTurns_130 rfl (lv_at hl 2 rfl) ?_
    refine lv_aload_n hx hb dX10_markTurns_131 rfl (lv_at hl 1 rfl) ?_
    refine sd_g8_11 C X hk1 sd_w42_16 dX10_markTurns_132 ?_
    refine lv_icmp_ge (tgt := 160) hx hb dX10_markTurns_135 (by decide) (fun c_1 => ?_) (fun c_1 => ?_)
    · have h := sd_ifp c_1 h
      cases h
      exact sd_vret C X dX10_markTurns_160
    · have h := sd_ifn c_1 h
      refine lv_aload_n hx hb dX10_markTurns_138 rfl (lv_at hl 0 rfl) ?_
      refine sd_g10_4 (k := k0) C X hk0 sd_w7_2 dX10_markTurns_139 ?_
      refine lv_aload_n hx hb dX10_markTurns_142 rfl (lv_at hl 1 rfl) ?_
      refine sd_g8_13 (k := k1) C X hk1 sd_w42_5 dX10_markTurns_143 ?_
      refine lv_iload_n hx hb dX10_markTurns_146 rfl (lv_at hl 2 rfl) ?_
      obtain ⟨b_2, v_2, e_2, h⟩ := sd_ld_some h
      refine sd_iald C X (sd_k8_10 hk1) b_2 dX10_markTurns_147 (sd_nmi e_2 ?_)
      refine lv_sipush (v := (366 : Int32)) hx hb dX10_markTurns_148 (by decide) ?_
      refine lv_irem hx hb dX10_markTurns_151 (by decide) ?_
      refine lv_iconst (v := (1 : Int32)) hx hb dX10_markTurns_152 (by decide) ?_
      obtain ⟨bS_3, S_3, eS_3, h⟩ := sd_st_some h
      refine sd_zast C X (sd_k10_27 hk0) bS_3 dX10_markTurns_153 (fun H locs X => ?_)
      rw [← eS_3] at X
      refine lv_iinc (v := (x2 + (1 : Int32))) (lv' := [(2, .int (x2 + (1 : Int32))), (0, .ref (ad k0)), (1, .ref (ad k1))]) hx hb dX10_markTurns_154 hl (k := 2) rfl rfl (by decide) rfl (fun ls hl => ?_)
      refine lv_goto (tgt := 130) hx hb dX10_markTurns_157 (by decide) ?_
      exact ih (x2 + (1 : Int32)) S_3 _ _ _ h X (lv_sub hl [1, 2, 0] rfl)
def f_X10_markTurns_l82 (k0 : Nat) (k1 : Nat) : Nat → Int32 → sd_St → Option (Unit × sd_St)
  | 0 => fun _ _ => none
  | n + 1 => fun x2 S => (if (S.1 k1 7) ≤ x2 then f_X10_markTurns_l130 k0 k1 sd_FU (0 : Int32) S else sd_ld S (k1 + 7) x2 (fun v_5 => sd_st S (k0 + 27) (sd_rem v_5 (366 : Int32)) (vp_nar .boolean (1 : Int32)) (fun S_6 => sd_ld S_6 (k1 + 8) x2 (fun v_7 => sd_st S_6 (k0 + 27) (sd_rem v_7 (366 : Int32)) (vp_nar .boolean (1 : Int32)) (fun S_8 => (f_X10_markTurns_l82 k0 k1 n) (x2 + (1 : Int32)) S_8)))))
set_option maxHeartbeats 4000000 in
set_option maxRecDepth 100000 in
theorem t_X10_markTurns_l82 (C : sd_C RX10 cX10_markTurns 3 none D cy ad A b0 p s m args meth c) {k0 : Nat} {k1 : Nat} (hk0 : sd_kd k0 = 10) (hk1 : sd_kd k1 = 8) {S' : sd_St} : ∀ (n : Nat) (x2 : Int32) (S : sd_St) (H : Heap) (locs : List Loc) (ls : Array Slot), f_X10_markTurns_l82 k0 k1 n x2 S = some ((), S') → sd_H D cy ad A s S H locs → lv_has ls 3 [(0, .ref (ad k0)), (1, .ref (ad k1)), (2, .int x2)] → W p l e (sd_rm 0) s m args below meth c H locs 0 0 (MQ below (sd_Qv D cy ad A S') args s 0 0 A) (F0 m 82 ls []) := by
  obtain ⟨hx, hb, -, hml, hown, hts, -, hG⟩ := id C
  intro n
  induction n with
  | zero => intro x2 S H locs ls h; cases h
  | succ n ih =>
    intro x2 S H locs ls h X hl
    unfold f_X10_markTurns_l82 at h
    refine lv_iload_n hx hb dX10_markTurns_82 rfl (lv_at hl 2 rfl) ?_
    refine lv_aload_n hx hb dX10_markTurns_83 rfl (lv_at hl 1 rfl) ?_
    refine sd_g8_7 C X hk1 sd_w42_13 dX10_markTurns_84 ?_
    refine lv_icmp_ge (tgt := 128) hx hb dX10_markTurns_87 (by decide) (fun c_4 => ?_) (fun c_4 => ?_)
    · have h := sd_ifp c_4 h
      refine lv_iconst (v := (0 : Int32)) hx hb dX10_markTurns_128 (by decide) ?_
      refine lv_istore_n (lv' := [(2, .int (0 : Int32)), (0, .ref (ad k0)), (1, .ref (ad k1))]) hx hb dX10_markTurns_129 rfl hl (by decide) rfl (fun ls hl => ?_)
      exact t_X10_markTurns_l130 C hk0 hk1 sd_FU (0 : Int32) S _ _ _ h X (lv_sub hl [1, 2, 0] rfl)
    · have h := sd_ifn c_4 h
      refine lv_aload_n hx hb dX10_markTurns_90 rfl (lv_at hl 0 rfl) ?_
      refine sd_g10_4 (k := k0) C X hk0 sd_w7_2 dX10_markTurns_91 ?_
      refine lv_aload_n hx hb dX10_markTurns_94 rfl (lv_at hl 1 rfl) ?_
      refine sd_g8_9 (k := k1) C X hk1 sd_w42_14 dX10_markTurns_95 ?_
      refine lv_iload_n hx hb dX10_markTurns_98 rfl (lv_at hl 2 rfl) ?_
      obtain ⟨b_5, v_5, e_5, h⟩ := sd_ld_some h
      refine sd_iald C X (sd_k8_7 hk1) b_5 dX10_markTurns_99 (sd_nmi e_5 ?_)
      refine lv_sipush (v := (366 : Int32)) hx hb dX10_markTurns_100 (by decide) ?_
      refine lv_irem hx hb dX10_markTurns_103 (by decide) ?_
      refine lv_iconst (v := (1 : Int32)) hx hb dX10_markTurns_104 (by decide) ?_
      obtain ⟨bS_6, S_6, eS_6, h⟩ := sd_st_some h
      refine sd_zast C X (sd_k10_27 hk0) bS_6 dX10_markTurns_105 (fun H locs X => ?_)
      rw [← eS_6] at X
      refine lv_aload_n hx hb dX10_markTurns_106 rfl (lv_at hl 0 rfl) ?_
      refine sd_g10_4 (k := k0) C X hk0 sd_w7_2 dX10_markTurns_107 ?_
      refine lv_aload_n hx hb dX10_markTurns_110 rfl (lv_at hl 1 rfl) ?_
      refine sd_g8_10 (k := k1) C X hk1 sd_w42_15 dX10_markTurns_111 ?_
      refine lv_iload_n hx hb dX10_markTurns_114 rfl (lv_at hl 2 rfl) ?_
      obtain ⟨b_7, v_7, e_7, h⟩ := sd_ld_some h
      refine sd_iald C X (sd_k8_8 hk1) b_7 dX10_markTurns_115 (sd_nmi e_7 ?_)
      refine lv_sipush (v := (366 : Int32)) hx hb dX10_markTurns_116 (by decide) ?_
      refine lv_irem hx hb dX10_markTurns_119 (by decide) ?_
      refine lv_iconst (v := (1 : Int32)) hx hb dX10_markTurns_120 (by decide) ?_
      obtain ⟨bS_8, S_8, eS_8, h⟩ := sd_st_some h
      refine sd_zast C X (sd_k10_27 hk0) bS_8 dX10_markTurns_121 (fun H locs X => ?_)
      rw [← eS_8] at X
      refine lv_iinc (v := (x2 + (1 : Int32))) (lv' := [(2, .int (x2 + (1 : Int32))), (0, .ref (ad k0)), (1, .ref (ad k1))]) hx hb dX10_markTurns_122 hl (k := 2) rfl rfl (by decide) rfl (fun ls hl => ?_)
      refine lv_goto (tgt := 82) hx hb dX10_markTurns_125 (by decide) ?_
      exact ih (x2 + (1 : Int32)) S_8 _ _ _ h X (lv_sub hl [1, 2, 0] rfl)
def f_X10_markTurns_l32 (k0 : Nat) (k1 : Nat) : Nat → Int32 → sd_St → Option (Unit × sd_St)
  | 0 => fun _ _ => none
  | n + 1 => fun x2 S => (if (S.1 k1 0) ≤ x2 then f_X10_markTurns_l82 k0 k1 sd_FU (0 : Int32) S else sd_ld S (k1 + 1) x2 (fun v_10 => sd_st S (k0 + 27) v_10 (vp_nar .boolean (1 : Int32)) (fun S_11 => sd_ld S_11 (k1 + 2) x2 (fun v_12 => (if v_12 = (-1 : Int32) then f_X10_markTurns_b74 (f_X10_markTurns_l32 k0 k1 n) k0 k1 x2 S_11 else sd_ld S_11 (k1 + 2) x2 (fun v_14 => sd_st S_11 (k0 + 27) v_14 (vp_nar .boolean (1 : Int32)) (fun S_15 => f_X10_markTurns_b74 (f_X10_markTurns_l32 k0 k1 n) k0 k1 x2 S_15)))))))
set_option maxHeartbeats 4000000 in
set_option maxRecDepth 100000 in
theorem t_X10_markTurns_l32 (C : sd_C RX10 cX10_markTurns 3 none D cy ad A b0 p s m args meth c) {k0 : Nat} {k1 : Nat} (hk0 : sd_kd k0 = 10) (hk1 : sd_kd k1 = 8) {S' : sd_St} : ∀ (n : Nat) (x2 : Int32) (S : sd_St) (H : Heap) (locs : List Loc) (ls : Array Slot), f_X10_markTurns_l32 k0 k1 n x2 S = some ((), S') → sd_H D cy ad A s S H locs → lv_has ls 3 [(0, .ref (ad k0)), (1, .ref (ad k1)), (2, .int x2)] → W p l e (sd_rm 0) s m args below meth c H locs 0 0 (MQ below (sd_Qv D cy ad A S') args s 0 0 A) (F0 m 32 ls []) := by
  obtain ⟨hx, hb, -, hml, hown, hts, -, hG⟩ := id C
  intro n
  induction n with
  | zero => intro x2 S H locs ls h; cases h
  | succ n ih =>
    intro x2 S H locs ls h X hl
    unfold f_X10_markTurns_l32 at h
    refine lv_iload_n hx hb dX10_markTurns_32 rfl (lv_at hl 2 rfl) ?_
    refine lv_aload_n hx hb dX10_markTurns_33 rfl (lv_at hl 1 rfl) ?_
    refine sd_g8_0 C X hk1 sd_w42_1 dX10_markTurns_34 ?_
    refine lv_icmp_ge (tgt := 80) hx hb dX10_markTurns_37 (by decide) (fun c_9 => ?_) (fun c_9 => ?_)
    · have h := sd_ifp c_9 h
      refine lv_iconst (v := (0 : Int32)) hx hb dX10_markTurns_80 (by decide) ?_
      refine lv_istore_n (lv' := [(2, .int (0 : Int32)), (0, .ref (ad k0)), (1, .ref (ad k1))]) hx hb dX10_markTurns_81 rfl hl (by decide) rfl (fun ls hl => ?_)
      exact t_X10_markTurns_l82 C hk0 hk1 sd_FU (0 : Int32) S _ _ _ h X (lv_sub hl [1, 2, 0] rfl)
    · have h := sd_ifn c_9 h
      refine lv_aload_n hx hb dX10_markTurns_40 rfl (lv_at hl 0 rfl) ?_
      refine sd_g10_4 (k := k0) C X hk0 sd_w7_2 dX10_markTurns_41 ?_
      refine lv_aload_n hx hb dX10_markTurns_44 rfl (lv_at hl 1 rfl) ?_
      refine sd_g8_1 (k := k1) C X hk1 sd_w42_11 dX10_markTurns_45 ?_
      refine lv_iload_n hx hb dX10_markTurns_48 rfl (lv_at hl 2 rfl) ?_
      obtain ⟨b_10, v_10, e_10, h⟩ := sd_ld_some h
      refine sd_iald C X (sd_k8_1 hk1) b_10 dX10_markTurns_49 (sd_nmi e_10 ?_)
      refine lv_iconst (v := (1 : Int32)) hx hb dX10_markTurns_50 (by decide) ?_
      obtain ⟨bS_11, S_11, eS_11, h⟩ := sd_st_some h
      refine sd_zast C X (sd_k10_27 hk0) bS_11 dX10_markTurns_51 (fun H locs X => ?_)
      rw [← eS_11] at X
      refine lv_aload_n hx hb dX10_markTurns_52 rfl (lv_at hl 1 rfl) ?_
      refine sd_g8_2 (k := k1) C X hk1 sd_w42_12 dX10_markTurns_53 ?_
      refine lv_iload_n hx hb dX10_markTurns_56 rfl (lv_at hl 2 rfl) ?_
      obtain ⟨b_12, v_12, e_12, h⟩ := sd_ld_some h
      refine sd_iald C X (sd_k8_2 hk1) b_12 dX10_markTurns_57 (sd_nmi e_12 ?_)
      refine lv_iconst (v := (-1 : Int32)) hx hb dX10_markTurns_58 (by decide) ?_
      refine lv_icmp_eq (tgt := 74) hx hb dX10_markTurns_59 (by decide) (fun c_13 => ?_) (fun c_13 => ?_)
      · have h := sd_ifp c_13 h
        exact t_X10_markTurns_b74 C hk0 hk1 ih x2 S_11 _ _ _ h X (lv_sub hl [0, 1, 2] rfl)
      · have h := sd_ifn c_13 h
        refine lv_aload_n hx hb dX10_markTurns_62 rfl (lv_at hl 0 rfl) ?_
        refine sd_g10_4 (k := k0) C X hk0 sd_w7_2 dX10_markTurns_63 ?_
        refine lv_aload_n hx hb dX10_markTurns_66 rfl (lv_at hl 1 rfl) ?_
        refine sd_g8_2 (k := k1) C X hk1 sd_w42_12 dX10_markTurns_67 ?_
        refine lv_iload_n hx hb dX10_markTurns_70 rfl (lv_at hl 2 rfl) ?_
        obtain ⟨b_14, v_14, e_14, h⟩ := sd_ld_some h
        refine sd_iald C X (sd_k8_2 hk1) b_14 dX10_markTurns_71 (sd_nmi e_14 ?_)
        refine lv_iconst (v := (1 : Int32)) hx hb dX10_markTurns_72 (by decide) ?_
        obtain ⟨bS_15, S_15, eS_15, h⟩ := sd_st_some h
        refine sd_zast C X (sd_k10_27 hk0) bS_15 dX10_markTurns_73 (fun H locs X => ?_)
        rw [← eS_15] at X
        exact t_X10_markTurns_b74 C hk0 hk1 ih x2 S_15 _ _ _ h X (lv_sub hl [0, 1, 2] rfl)
def f_X10_markTurns_l2 (k0 : Nat) (k1 : Nat) : Nat → Int32 → sd_St → Option (Unit × sd_St)
  | 0 => fun _ _ => none
  | n + 1 => fun x2 S => (if (366 : Int32) ≤ x2 then sd_st S (k0 + 27) (59 : Int32) (vp_nar .boolean (1 : Int32)) (fun S_17 => f_X10_markTurns_l32 k0 k1 sd_FU (0 : Int32) S_17) else sd_st S (k0 + 27) x2 (vp_nar .boolean (0 : Int32)) (fun S_18 => (f_X10_markTurns_l2 k0 k1 n) (x2 + (1 : Int32)) S_18))
set_option maxHeartbeats 4000000 in
set_option maxRecDepth 100000 in
theorem t_X10_markTurns_l2 (C : sd_C RX10 cX10_markTurns 3 none D cy ad A b0 p s m args meth c) {k0 : Nat} {k1 : Nat} (hk0 : sd_kd k0 = 10) (hk1 : sd_kd k1 = 8) {S' : sd_St} : ∀ (n : Nat) (x2 : Int32) (S : sd_St) (H : Heap) (locs : List Loc) (ls : Array Slot), f_X10_markTurns_l2 k0 k1 n x2 S = some ((), S') → sd_H D cy ad A s S H locs → lv_has ls 3 [(0, .ref (ad k0)), (1, .ref (ad k1)), (2, .int x2)] → W p l e (sd_rm 0) s m args below meth c H locs 0 0 (MQ below (sd_Qv D cy ad A S') args s 0 0 A) (F0 m 2 ls []) := by
  obtain ⟨hx, hb, -, hml, hown, hts, -, hG⟩ := id C
  intro n
  induction n with
  | zero => intro x2 S H locs ls h; cases h
  | succ n ih =>
    intro x2 S H locs ls h X hl
    unfold f_X10_markTurns_l2 at h
    refine lv_iload_n hx hb dX10_markTurns_2 rfl (lv_at hl 2 rfl) ?_
    refine lv_sipush (v := (366 : Int32)) hx hb dX10_markTurns_3 (by decide) ?_
    refine lv_icmp_ge (tgt := 22) hx hb dX10_markTurns_6 (by decide) (fun c_16 => ?_) (fun c_16 => ?_)
    · have h := sd_ifp c_16 h
      refine lv_aload_n hx hb dX10_markTurns_22 rfl (lv_at hl 0 rfl) ?_
      refine sd_g10_4 (k := k0) C X hk0 sd_w7_2 dX10_markTurns_23 ?_
      refine lv_bipush (v := (59 : Int32)) hx hb dX10_markTurns_26 (by decide) ?_
      refine lv_iconst (v := (1 : Int32)) hx hb dX10_markTurns_28 (by decide) ?_
      obtain ⟨bS_17, S_17, eS_17, h⟩ := sd_st_some h
      refine sd_zast C X (sd_k10_27 hk0) bS_17 dX10_markTurns_29 (fun H locs X => ?_)
      rw [← eS_17] at X
      refine lv_iconst (v := (0 : Int32)) hx hb dX10_markTurns_30 (by decide) ?_
      refine lv_istore_n (lv' := [(2, .int (0 : Int32)), (0, .ref (ad k0)), (1, .ref (ad k1))]) hx hb dX10_markTurns_31 rfl hl (by decide) rfl (fun ls hl => ?_)
      exact t_X10_markTurns_l32 C hk0 hk1 sd_FU (0 : Int32) S_17 _ _ _ h X (lv_sub hl [1, 2, 0] rfl)
    · have h := sd_ifn c_16 h
      refine lv_aload_n hx hb dX10_markTurns_9 rfl (lv_at hl 0 rfl) ?_
      refine sd_g10_4 (k := k0) C X hk0 sd_w7_2 dX10_markTurns_10 ?_
      refine lv_iload_n hx hb dX10_markTurns_13 rfl (lv_at hl 2 rfl) ?_
      refine lv_iconst (v := (0 : Int32)) hx hb dX10_markTurns_14 (by decide) ?_
      obtain ⟨bS_18, S_18, eS_18, h⟩ := sd_st_some h
      refine sd_zast C X (sd_k10_27 hk0) bS_18 dX10_markTurns_15 (fun H locs X => ?_)
      rw [← eS_18] at X
      refine lv_iinc (v := (x2 + (1 : Int32))) (lv' := [(2, .int (x2 + (1 : Int32))), (0, .ref (ad k0)), (1, .ref (ad k1))]) hx hb dX10_markTurns_16 hl (k := 2) rfl rfl (by decide) rfl (fun ls hl => ?_)
      refine lv_goto (tgt := 2) hx hb dX10_markTurns_19 (by decide) ?_
      exact ih (x2 + (1 : Int32)) S_18 _ _ _ h X (lv_sub hl [1, 2, 0] rfl)
def f_X10_markTurns (k0 : Nat) (k1 : Nat) (S : sd_St) : Option (Unit × sd_St) := f_X10_markTurns_l2 k0 k1 sd_FU (0 : Int32) S
set_option maxHeartbeats 4000000 in
set_option maxRecDepth 100000 in
theorem c_X10_markTurns {k0 : Nat} {k1 : Nat} (hk0 : sd_kd k0 = 10) (hk1 : sd_kd k1 = 8) {S S' : sd_St} (h : f_X10_markTurns k0 k1 S = some ((), S')) : Met l yX10_markTurns (Cond.code yX10_markTurns cX10_markTurns 3 none :: sd_wl) (sd_rm 0) (sd_P D cy ad A b0 [.ref (ad k0), .ref (ad k1)] S) (sd_Qv D cy ad A S') 0 0 A := by
  refine sd_met (by decide) (Nat.le_of_ble_eq_true rfl) (fun p e s m args below meth c ls C X hl => ?_)
  obtain ⟨hx, hb, -, hml, hown, hts, -, hG⟩ := id C
  replace C : sd_C RX10 cX10_markTurns 3 none D cy ad A b0 p s m args meth c := C
  replace hl : lv_has ls 3 [(0, .ref (ad k0)), (1, .ref (ad k1))] := hl
  unfold f_X10_markTurns at h
  refine lv_iconst (v := (0 : Int32)) hx hb dX10_markTurns_0 (by decide) ?_
  refine lv_istore_n (lv' := [(2, .int (0 : Int32)), (0, .ref (ad k0)), (1, .ref (ad k1))]) hx hb dX10_markTurns_1 rfl hl (by decide) rfl (fun ls hl => ?_)
  exact t_X10_markTurns_l2 C hk0 hk1 sd_FU (0 : Int32) S _ _ _ h X (lv_sub hl [1, 2, 0] rfl)
theorem k_X10_markTurns (C : sd_C own cc nL rt D cy ad A b0 p s m args meth c) (X : sd_H D cy ad A s S H locs) (hls : ls.size = nL) {k0 : Nat} {k1 : Nat} {S2 : sd_St} (hk0 : sd_kd k0 = 10) (hk1 : sd_kd k1 = 8) (h : f_X10_markTurns k0 k1 S = some ((), S2)) (hlink : Cond.methodLink own index yX10_markTurns ∈ sd_wl) (hR : 1 ≤ R.frames ∧ 22 ≤ R.locals ∧ cells ≤ R.cells ∧ slots ≤ R.slots) (hst : (rest.map fun v => v.category).sum ≤ 8) (hdg : decode cc pc = .ok (.invokevirtual index, 3)) (kk : ∀ (H1 : Heap) (locs1 : List Loc), sd_H D cy ad A s S2 H1 locs1 → W p l e R s m args below meth c H1 locs1 cells slots Q (F0 m (pc + 3) ls rest)) : W p l e R s m args below meth c H locs cells slots Q (F0 m pc ls (.ref (ad k1) :: .ref (ad k0) :: rest)) :=
  sd_goV X (sd_runV C X hls (n := 1) (k := k0) (As := [.ref (ad k1)]) (c_X10_markTurns (l := l) (b0 := b0) hk0 hk1 h) (sd_goodV hlink sd_w42_8 sd_w42_9 sd_w3_4 sd_w42_10) (ci := 10) rfl (by rw [hk0]; decide) (sd_c10 hk0) (by decide +kernel) rfl hR rfl hst hdg) kk
/-! ===== SecretDays$WhatIf.isUnlikeDayBefore(I)Z ===== -/
def f_X10_isUnlikeDayBefore (k0 : Nat) (x1 : Int32) (S : sd_St) : Option (Int32 × sd_St) := (if x1 = 0 then (some ((1 : Int32), S)) else sd_ld S (k0 + 27) x1 (fun v_2 => (if v_2 = 0 then sd_ld S (k0 + 27) (x1 - (1 : Int32)) (fun v_4 => (if v_4 = 0 then (some ((0 : Int32), S)) else (some ((1 : Int32), S)))) else (some ((1 : Int32), S)))))
set_option maxHeartbeats 4000000 in
set_option maxRecDepth 100000 in
theorem c_X10_isUnlikeDayBefore {k0 : Nat} {x1 : Int32} (hk0 : sd_kd k0 = 10) {S S' : sd_St} {r : Int32} (h : f_X10_isUnlikeDayBefore k0 x1 S = some (r, S')) : Met l yX10_isUnlikeDayBefore (Cond.code yX10_isUnlikeDayBefore cX10_isUnlikeDayBefore 2 (some .boolean) :: sd_wl) (sd_rm 0) (sd_P D cy ad A b0 [.ref (ad k0), .int x1] S) (sd_Qi D cy ad A r S') 0 0 A := by
  refine sd_met (by decide) (Nat.le_of_ble_eq_true rfl) (fun p e s m args below meth c ls C X hl => ?_)
  obtain ⟨hx, hb, -, hml, hown, hts, -, hG⟩ := id C
  replace C : sd_C RX10 cX10_isUnlikeDayBefore 2 (some .boolean) D cy ad A b0 p s m args meth c := C
  replace hl : lv_has ls 2 [(0, .ref (ad k0)), (1, .int x1)] := hl
  unfold f_X10_isUnlikeDayBefore at h
  refine lv_iload_n hx hb dX10_isUnlikeDayBefore_0 rfl (lv_at hl 1 rfl) ?_
  refine lv_if_eq (tgt := 24) hx hb dX10_isUnlikeDayBefore_1 (by decide) (fun c_1 => ?_) (fun c_1 => ?_)
  · have h := sd_ifp c_1 h
    refine lv_iconst (v := (1 : Int32)) hx hb dX10_isUnlikeDayBefore_24 (by decide) ?_
    refine lv_goto (tgt := 29) hx hb dX10_isUnlikeDayBefore_25 (by decide) ?_
    cases h
    exact sd_zret C X (by decide) dX10_isUnlikeDayBefore_29
  · have h := sd_ifn c_1 h
    refine lv_aload_n hx hb dX10_isUnlikeDayBefore_4 rfl (lv_at hl 0 rfl) ?_
    refine sd_g10_4 (k := k0) C X hk0 sd_w7_2 dX10_isUnlikeDayBefore_5 ?_
    refine lv_iload_n hx hb dX10_isUnlikeDayBefore_8 rfl (lv_at hl 1 rfl) ?_
    obtain ⟨b_2, v_2, e_2, h⟩ := sd_ld_some h
    refine sd_zald C X (sd_k10_27 hk0) b_2 dX10_isUnlikeDayBefore_9 (sd_nmi e_2 ?_)
    refine lv_if_ne (tgt := 24) hx hb dX10_isUnlikeDayBefore_10 (by decide) (fun c_3 => ?_) (fun c_3 => ?_)
    · have h := sd_ifn c_3 h
      refine lv_iconst (v := (1 : Int32)) hx hb dX10_isUnlikeDayBefore_24 (by decide) ?_
      refine lv_goto (tgt := 29) hx hb dX10_isUnlikeDayBefore_25 (by decide) ?_
      cases h
      exact sd_zret C X (by decide) dX10_isUnlikeDayBefore_29
    · have h := sd_ifp c_3 h
      refine lv_aload_n hx hb dX10_isUnlikeDayBefore_13 rfl (lv_at hl 0 rfl) ?_
      refine sd_g10_4 (k := k0) C X hk0 sd_w7_2 dX10_isUnlikeDayBefore_14 ?_
      refine lv_iload_n hx hb dX10_isUnlikeDayBefore_17 rfl (lv_at hl 1 rfl) ?_
      refine lv_iconst (v := (1 : Int32)) hx hb dX10_isUnlikeDayBefore_18 (by decide) ?_
      refine lv_isub hx hb dX10_isUnlikeDayBefore_19 ?_
      obtain ⟨b_4, v_4, e_4, h⟩ := sd_ld_some h
      refine sd_zald C X (sd_k10_27 hk0) b_4 dX10_isUnlikeDayBefore_20 (sd_nmi e_4 ?_)
      refine lv_if_eq (tgt := 28) hx hb dX10_isUnlikeDayBefore_21 (by decide) (fun c_5 => ?_) (fun c_5 => ?_)
      · have h := sd_ifp c_5 h
        refine lv_iconst (v := (0 : Int32)) hx hb dX10_isUnlikeDayBefore_28 (by decide) ?_
        cases h
        exact sd_zret C X (by decide) dX10_isUnlikeDayBefore_29
      · have h := sd_ifn c_5 h
        refine lv_iconst (v := (1 : Int32)) hx hb dX10_isUnlikeDayBefore_24 (by decide) ?_
        refine lv_goto (tgt := 29) hx hb dX10_isUnlikeDayBefore_25 (by decide) ?_
        cases h
        exact sd_zret C X (by decide) dX10_isUnlikeDayBefore_29
theorem k_X10_isUnlikeDayBefore (C : sd_C own cc nL rt D cy ad A b0 p s m args meth c) (X : sd_H D cy ad A s S H locs) (hls : ls.size = nL) {k0 : Nat} {x1 : Int32} {S2 : sd_St} {r : Int32} (hk0 : sd_kd k0 = 10) (h : f_X10_isUnlikeDayBefore k0 x1 S = some (r, S2)) (hlink : Cond.methodLink own index yX10_isUnlikeDayBefore ∈ sd_wl) (hR : 1 ≤ R.frames ∧ 21 ≤ R.locals ∧ cells ≤ R.cells ∧ slots ≤ R.slots) (hst : (rest.map fun v => v.category).sum ≤ 8) (hdg : decode cc pc = .ok (.invokevirtual index, 3)) (kk : ∀ (H1 : Heap) (locs1 : List Loc), sd_H D cy ad A s S2 H1 locs1 → W p l e R s m args below meth c H1 locs1 cells slots Q (F0 m (pc + 3) ls (.int r :: rest))) : W p l e R s m args below meth c H locs cells slots Q (F0 m pc ls (.int x1 :: .ref (ad k0) :: rest)) :=
  sd_goI X (sd_runV C X hls (n := 1) (k := k0) (As := [.int x1]) (c_X10_isUnlikeDayBefore (l := l) (b0 := b0) hk0 h) (sd_goodV hlink sd_w42_21 sd_w42_22 sd_w3_4 sd_w42_23) (ci := 10) rfl (by rw [hk0]; decide) (sd_c10 hk0) (by decide +kernel) rfl hR rfl hst hdg) kk
/-! ===== SecretDays$WhatIf.tryNewcomer(LSecretDays$Town;IIII)V ===== -/
def f_X10_tryNewcomer_b80 (q33 : (Int32 → Int32 → Int32 → Int32 → Int32 → Int32 → sd_St → Option (Unit × sd_St))) (k0 : Nat) (k1 : Nat) (x2 : Int32) (x3 : Int32) (x4 : Int32) (x5 : Int32) (x6 : Int32) (x7 : Int32) (S : sd_St) : Option (Unit × sd_St) := q33 x2 x3 x4 x5 x6 (x7 + (1 : Int32)) S
set_option maxHeartbeats 4000000 in
set_option maxRecDepth 100000 in
theorem t_X10_tryNewcomer_b80 (C : sd_C RX10 cX10_tryNewcomer 9 none D cy ad A b0 p s m args meth c) {k0 : Nat} {k1 : Nat} (hk0 : sd_kd k0 = 10) (hk1 : sd_kd k1 = 8) {S' : sd_St} {q33 : (Int32 → Int32 → Int32 → Int32 → Int32 → Int32 → sd_St → Option (Unit × sd_St))} (hq33 : ∀ (x2 : Int32) (x3 : Int32) (x4 : Int32) (x5 : Int32) (x6 : Int32) (x7 : Int32) (S : sd_St) (H : Heap) (locs : List Loc) (ls : Array Slot), q33 x2 x3 x4 x5 x6 x7 S = some ((), S') → sd_H D cy ad A s S H locs → lv_has ls 9 [(0, .ref (ad k0)), (2, .int x2), (3, .int x3), (4, .int x4), (5, .int x5), (6, .int x6), (7, .int x7)] → W p l e (sd_rm 4) s m args below meth c H locs 0 0 (MQ below (sd_Qv D cy ad A S') args s 0 0 A) (F0 m 33 ls [])) : ∀ (x2 : Int32) (x3 : Int32) (x4 : Int32) (x5 : Int32) (x6 : Int32) (x7 : Int32) (S : sd_St) (H : Heap) (locs : List Loc) (ls : Array Slot), f_X10_tryNewcomer_b80 q33 k0 k1 x2 x3 x4 x5 x6 x7 S = some ((), S') → sd_H D cy ad A s S H locs → lv_has ls 9 [(0, .ref (ad k0)), (2, .int x2), (3, .int x3), (4, .int x4), (5, .int x5), (6, .int x6), (7, .int x7)] → W p l e (sd_rm 4) s m args below meth c H locs 0 0 (MQ below (sd_Qv D cy ad A S') args s 0 0 A) (F0 m 80 ls []) := by
  obtain ⟨hx, hb, -, hml, hown, hts, -, hG⟩ := id C
  intro x2 x3 x4 x5 x6 x7 S H locs ls h X hl
  unfold f_X10_tryNewcomer_b80 at h
  refine lv_iinc (v := (x7 + (1 : Int32))) (lv' := [(7, .int (x7 + (1 : Int32))), (0, .ref (ad k0)), (2, .int x2), (3, .int x3), (4, .int x4), (5, .int x5), (6, .int x6)]) hx hb dX10_tryNewcomer_80 hl (k := 6) rfl rfl (by decide) rfl (fun ls hl => ?_)
  refine lv_goto (tgt := 33) hx hb dX10_tryNewcomer_83 (by decide) ?_
  exact hq33 x2 x3 x4 x5 x6 (x7 + (1 : Int32)) S _ _ _ h X (lv_sub hl [1, 2, 3, 4, 5, 6, 0] rfl)
def f_X10_tryNewcomer_b60 (q33 : (Int32 → Int32 → Int32 → Int32 → Int32 → Int32 → sd_St → Option (Unit × sd_St))) (k0 : Nat) (k1 : Nat) (x2 : Int32) (x3 : Int32) (x4 : Int32) (x5 : Int32) (x6 : Int32) (x7 : Int32) (S : sd_St) : Option (Unit × sd_St) := sd_cl (f_X11_has x3 x7 S) (fun r_2 S_1 => (if r_2 = 0 then f_X10_tryNewcomer_b80 q33 k0 k1 x2 x3 x4 x5 x6 x7 S_1 else sd_cl (f_X8_addCall (k0 + 1) x7 x6 S_1) (fun _ S_4 => f_X10_tryNewcomer_b80 q33 k0 k1 x2 x3 x4 x5 x6 x7 S_4)))
set_option maxHeartbeats 4000000 in
set_option maxRecDepth 100000 in
theorem t_X10_tryNewcomer_b60 (C : sd_C RX10 cX10_tryNewcomer 9 none D cy ad A b0 p s m args meth c) {k0 : Nat} {k1 : Nat} (hk0 : sd_kd k0 = 10) (hk1 : sd_kd k1 = 8) {S' : sd_St} {q33 : (Int32 → Int32 → Int32 → Int32 → Int32 → Int32 → sd_St → Option (Unit × sd_St))} (hq33 : ∀ (x2 : Int32) (x3 : Int32) (x4 : Int32) (x5 : Int32) (x6 : Int32) (x7 : Int32) (S : sd_St) (H : Heap) (locs : List Loc) (ls : Array Slot), q33 x2 x3 x4 x5 x6 x7 S = some ((), S') → sd_H D cy ad A s S H locs → lv_has ls 9 [(0, .ref (ad k0)), (2, .int x2), (3, .int x3), (4, .int x4), (5, .int x5), (6, .int x6), (7, .int x7)] → W p l e (sd_rm 4) s m args below meth c H locs 0 0 (MQ below (sd_Qv D cy ad A S') args s 0 0 A) (F0 m 33 ls [])) : ∀ (x2 : Int32) (x3 : Int32) (x4 : Int32) (x5 : Int32) (x6 : Int32) (x7 : Int32) (S : sd_St) (H : Heap) (locs : List Loc) (ls : Array Slot), f_X10_tryNewcomer_b60 q33 k0 k1 x2 x3 x4 x5 x6 x7 S = some ((), S') → sd_H D cy ad A s S H locs → lv_has ls 9 [(0, .ref (ad k0)), (2, .int x2), (3, .int x3), (4, .int x4), (5, .int x5), (6, .int x6), (7, .int x7)] → W p l e (sd_rm 4) s m args below meth c H locs 0 0 (MQ below (sd_Qv D cy ad A S') args s 0 0 A) (F0 m 60 ls []) := by
  obtain ⟨hx, hb, -, hml, hown, hts, -, hG⟩ := id C
  intro x2 x3 x4 x5 x6 x7 S H locs ls h X hl
  unfold f_X10_tryNewcomer_b60 at h
  refine lv_iload_n hx hb dX10_tryNewcomer_60 rfl (lv_at hl 2 rfl) ?_
  refine lv_iload hx hb dX10_tryNewcomer_61 (lv_at hl 6 rfl) ?_
  obtain ⟨r_2, S_1, er_2, h⟩ := sd_cl_some h
  refine k_X11_has_n C X hl.1 er_2 (List.mem_of_getElem? (i := 17) rfl) (by decide) (Nat.le_of_ble_eq_true rfl) dX10_tryNewcomer_63 (fun H locs X => ?_)
  refine lv_if_eq (tgt := 80) hx hb dX10_tryNewcomer_66 (by decide) (fun c_3 => ?_) (fun c_3 => ?_)
  · have h := sd_ifp c_3 h
    exact t_X10_tryNewcomer_b80 C hk0 hk1 hq33 x2 x3 x4 x5 x6 x7 S_1 _ _ _ h X (lv_sub hl [0, 1, 2, 3, 4, 5, 6] rfl)
  · have h := sd_ifn c_3 h
    refine lv_aload_n hx hb dX10_tryNewcomer_69 rfl (lv_at hl 0 rfl) ?_
    refine sd_g10_0 (k := k0) C X hk0 sd_w6_20 dX10_tryNewcomer_70 ?_
    refine lv_iload hx hb dX10_tryNewcomer_73 (lv_at hl 6 rfl) ?_
    refine lv_iload hx hb dX10_tryNewcomer_75 (lv_at hl 5 rfl) ?_
    obtain ⟨r_5, S_4, er_5, h⟩ := sd_cl_some h
    refine k_X8_addCall C X hl.1 (sd_k10_1 hk0) er_5 sd_w42_18 (by decide) (Nat.le_of_ble_eq_true rfl) dX10_tryNewcomer_77 (fun H locs X => ?_)
    exact t_X10_tryNewcomer_b80 C hk0 hk1 hq33 x2 x3 x4 x5 x6 x7 S_4 _ _ _ h X (lv_sub hl [0, 1, 2, 3, 4, 5, 6] rfl)
def f_X10_tryNewcomer_b228 (q115 : (Int32 → Int32 → Int32 → Int32 → Int32 → sd_St → Option (Unit × sd_St))) (k0 : Nat) (k1 : Nat) (x4 : Int32) (x5 : Int32) (x6 : Int32) (x7 : Int32) (x8 : Int32) (S : sd_St) : Option (Unit × sd_St) := q115 x4 x5 x6 x7 (x8 + (1 : Int32)) S
set_option maxHeartbeats 4000000 in
set_option maxRecDepth 100000 in
theorem t_X10_tryNewcomer_b228 (C : sd_C RX10 cX10_tryNewcomer 9 none D cy ad A b0 p s m args meth c) {k0 : Nat} {k1 : Nat} (hk0 : sd_kd k0 = 10) (hk1 : sd_kd k1 = 8) {S' : sd_St} {q115 : (Int32 → Int32 → Int32 → Int32 → Int32 → sd_St → Option (Unit × sd_St))} (hq115 : ∀ (x4 : Int32) (x5 : Int32) (x6 : Int32) (x7 : Int32) (x8 : Int32) (S : sd_St) (H : Heap) (locs : List Loc) (ls : Array Slot), q115 x4 x5 x6 x7 x8 S = some ((), S') → sd_H D cy ad A s S H locs → lv_has ls 9 [(0, .ref (ad k0)), (4, .int x4), (5, .int x5), (6, .int x6), (7, .int x7), (8, .int x8)] → W p l e (sd_rm 4) s m args below meth c H locs 0 0 (MQ below (sd_Qv D cy ad A S') args s 0 0 A) (F0 m 115 ls [])) : ∀ (x4 : Int32) (x5 : Int32) (x6 : Int32) (x7 : Int32) (x8 : Int32) (S : sd_St) (H : Heap) (locs : List Loc) (ls : Array Slot), f_X10_tryNewcomer_b228 q115 k0 k1 x4 x5 x6 x7 x8 S = some ((), S') → sd_H D cy ad A s S H locs → lv_has ls 9 [(0, .ref (ad k0)), (4, .int x4), (5, .int x5), (6, .int x6), (7, .int x7), (8, .int x8)] → W p l e (sd_rm 4) s m args below meth c H locs 0 0 (MQ below (sd_Qv D cy ad A S') args s 0 0 A) (F0 m 228 ls []) := by
  obtain ⟨hx, hb, -, hml, hown, hts, -, hG⟩ := id C
  intro x4 x5 x6 x7 x8 S H locs ls h X hl
  unfold f_X10_tryNewcomer_b228 at h
  refine lv_iinc (v := (x8 + (1 : Int32))) (lv' := [(8, .int (x8 + (1 : Int32))), (0, .ref (ad k0)), (4, .int x4), (5, .int x5), (6, .int x6), (7, .int x7)]) hx hb dX10_tryNewcomer_228 hl (k := 5) rfl rfl (by decide) rfl (fun ls hl => ?_)
  refine lv_goto (tgt := 115) hx hb dX10_tryNewcomer_231 (by decide) ?_
  exact hq115 x4 x5 x6 x7 (x8 + (1 : Int32)) S _ _ _ h X (lv_sub hl [1, 2, 3, 4, 5, 0] rfl)
def f_X10_tryNewcomer_l115 (k0 : Nat) (k1 : Nat) : Nat → Int32 → Int32 → Int32 → Int32 → Int32 → sd_St → Option (Unit × sd_St)
  | 0 => fun _ _ _ _ _ _ => none
  | n + 1 => fun x4 x5 x6 x7 x8 S => (if (366 : Int32) ≤ x8 then (some ((), S)) else sd_cl (f_X10_isUnlikeDayBefore k0 x8 S) (fun r_8 S_7 => (if r_8 = 0 then f_X10_tryNewcomer_b228 (f_X10_tryNewcomer_l115 k0 k1 n) k0 k1 x4 x5 x6 x7 x8 S_7 else sd_cl (f_X1_openOne (k0 + 17) (k0 + 1) x6 x8 S_7) (fun _ S_10 => sd_ld S_10 (k0 + 10) x4 (fun v_12 => sd_ld S_10 (k0 + 11) x4 (fun v_13 => sd_cl (f_X5_spreadThroughBoth (k0 + 22) (k0 + 12) (k0 + 17) v_12 v_13 x7 S_10) (fun _ S_14 => sd_cl (f_X5_hadBy (k0 + 22) x5 x7 S_14) (fun r_17 S_16 => (if r_17 = 0 then f_X10_tryNewcomer_b228 (f_X10_tryNewcomer_l115 k0 k1 n) k0 k1 x4 x5 x6 x7 x8 S_16 else sd_cl (f_X5_had (k0 + 22) x5 S_16) (fun r_20 S_19 => sd_nm (sd_I S_19 k0 6 r_20) (fun S_21 => sd_nm (sd_I S_21 k0 7 x8) (fun S_22 => sd_nm (((S_22.1 k0 6) - (1 : Int32))) (fun v_23 => f_X10_tryNewcomer_b228 (f_X10_tryNewcomer_l115 k0 k1 n) k0 k1 x4 x5 x6 v_23 x8 S_22)))))))))))))
set_option maxHeartbeats 4000000 in
set_option maxRecDepth 100000 in
theorem t_X10_tryNewcomer_l115 (C : sd_C RX10 cX10_tryNewcomer 9 none D cy ad A b0 p s m args meth c) {k0 : Nat} {k1 : Nat} (hk0 : sd_kd k0 = 10) (hk1 : sd_kd k1 = 8) {S' : sd_St} : ∀ (n : Nat) (x4 : Int32) (x5 : Int32) (x6 : Int32) (x7 : Int32) (x8 : Int32) (S : sd_St) (H : Heap) (locs : List Loc) (ls : Array Slot), f_X10_tryNewcomer_l115 k0 k1 n x4 x5 x6 x7 x8 S = some ((), S') → sd_H D cy ad A s S H locs → lv_has ls 9 [(0, .ref (ad k0)), (4, .int x4), (5, .int x5), (6, .int x6), (7, .int x7), (8, .int x8)] → W p l e (sd_rm 4) s m args below meth c H locs 0 0 (MQ below (sd_Qv D cy ad A S') args s 0 0 A) (F0 m 115 ls []) := by
  obtain ⟨hx, hb, -, hml, hown, hts, -, hG⟩ := id C
  intro n
  induction n with
  | zero => intro x4 x5 x6 x7 x8 S H locs ls h; cases h
  | succ n ih =>
    intro x4 x5 x6 x7 x8 S H locs ls h X hl
    unfold f_X10_tryNewcomer_l115 at h
    refine lv_iload hx hb dX10_tryNewcomer_115 (lv_at hl 5 rfl) ?_
    refine lv_sipush (v := (366 : Int32)) hx hb dX10_tryNewcomer_117 (by decide) ?_
    refine lv_icmp_ge (tgt := 234) hx hb dX10_tryNewcomer_120 (by decide) (fun c_6 => ?_) (fun c_6 => ?_)
    · have h := sd_ifp c_6 h
      cases h
      exact sd_vret C X dX10_tryNewcomer_234
    · have h := sd_ifn c_6 h
      refine lv_aload_n hx hb dX10_tryNewcomer_123 rfl (lv_at hl 0 rfl) ?_
      refine lv_iload hx hb dX10_tryNewcomer_124 (lv_at hl 5 rfl) ?_
      obtain ⟨r_8, S_7, er_8, h⟩ := sd_cl_some h
      refine k_X10_isUnlikeDayBefore C X hl.1 hk0 er_8 sd_w42_20 (by decide) (Nat.le_of_ble_eq_true rfl) dX10_tryNewcomer_126 (fun H locs X => ?_)
      refine lv_if_ne (tgt := 135) hx hb dX10_tryNewcomer_129 (by decide) (fun c_9 => ?_) (fun c_9 => ?_)
      · have h := sd_ifn c_9 h
        refine lv_aload_n hx hb dX10_tryNewcomer_135 rfl (lv_at hl 0 rfl) ?_
        refine sd_g10_2 (k := k0) C X hk0 sd_w6_23 dX10_tryNewcomer_136 ?_
        refine lv_aload_n hx hb dX10_tryNewcomer_139 rfl (lv_at hl 0 rfl) ?_
        refine sd_g10_0 (k := k0) C X hk0 sd_w6_20 dX10_tryNewcomer_140 ?_
        refine lv_iload hx hb dX10_tryNewcomer_143 (lv_at hl 3 rfl) ?_
        refine lv_iload hx hb dX10_tryNewcomer_145 (lv_at hl 5 rfl) ?_
        obtain ⟨r_11, S_10, er_11, h⟩ := sd_cl_some h
        refine k_X1_openOne C X hl.1 (sd_k10_17 hk0) (sd_k10_1 hk0) er_11 sd_w43_0 (by decide) (Nat.le_of_ble_eq_true rfl) dX10_tryNewcomer_147 (fun H locs X => ?_)
        refine lv_aload_n hx hb dX10_tryNewcomer_150 rfl (lv_at hl 0 rfl) ?_
        refine sd_g10_3 (k := k0) C X hk0 sd_w7_1 dX10_tryNewcomer_151 ?_
        refine lv_aload_n hx hb dX10_tryNewcomer_154 rfl (lv_at hl 0 rfl) ?_
        refine sd_g10_1 (k := k0) C X hk0 sd_w6_22 dX10_tryNewcomer_155 ?_
        refine lv_aload_n hx hb dX10_tryNewcomer_158 rfl (lv_at hl 0 rfl) ?_
        refine sd_g10_2 (k := k0) C X hk0 sd_w6_23 dX10_tryNewcomer_159 ?_
        refine lv_aload_n hx hb dX10_tryNewcomer_162 rfl (lv_at hl 0 rfl) ?_
        refine sd_g10_0 (k := k0) C X hk0 sd_w6_20 dX10_tryNewcomer_163 ?_
        refine sd_g8_12 (k := (k0 + 1)) C X (sd_k10_1 hk0) sd_w42_4 dX10_tryNewcomer_166 ?_
        refine lv_iload hx hb dX10_tryNewcomer_169 (lv_at hl 1 rfl) ?_
        obtain ⟨b_12, v_12, e_12, h⟩ := sd_ld_some h
        refine sd_iald C X (sd_k10_10 hk0) b_12 dX10_tryNewcomer_171 (sd_nmi e_12 ?_)
        refine lv_aload_n hx hb dX10_tryNewcomer_172 rfl (lv_at hl 0 rfl) ?_
        refine sd_g10_0 (k := k0) C X hk0 sd_w6_20 dX10_tryNewcomer_173 ?_
        refine sd_g8_13 (k := (k0 + 1)) C X (sd_k10_1 hk0) sd_w42_5 dX10_tryNewcomer_176 ?_
        refine lv_iload hx hb dX10_tryNewcomer_179 (lv_at hl 1 rfl) ?_
        obtain ⟨b_13, v_13, e_13, h⟩ := sd_ld_some h
        refine sd_iald C X (sd_k10_11 hk0) b_13 dX10_tryNewcomer_181 (sd_nmi e_13 ?_)
        refine lv_iload hx hb dX10_tryNewcomer_182 (lv_at hl 4 rfl) ?_
        obtain ⟨r_15, S_14, er_15, h⟩ := sd_cl_some h
        refine k_X5_spreadThroughBoth C X hl.1 (sd_k10_22 hk0) (sd_k10_12 hk0) (sd_k10_17 hk0) er_15 sd_w43_4 (by decide) (Nat.le_of_ble_eq_true rfl) dX10_tryNewcomer_184 (fun H locs X => ?_)
        refine lv_aload_n hx hb dX10_tryNewcomer_187 rfl (lv_at hl 0 rfl) ?_
        refine sd_g10_3 (k := k0) C X hk0 sd_w7_1 dX10_tryNewcomer_188 ?_
        refine lv_iload hx hb dX10_tryNewcomer_191 (lv_at hl 2 rfl) ?_
        refine lv_iload hx hb dX10_tryNewcomer_193 (lv_at hl 4 rfl) ?_
        obtain ⟨r_17, S_16, er_17, h⟩ := sd_cl_some h
        refine k_X5_hadBy C X hl.1 (sd_k10_22 hk0) er_17 sd_w43_8 (by decide) (Nat.le_of_ble_eq_true rfl) dX10_tryNewcomer_195 (fun H locs X => ?_)
        refine lv_if_eq (tgt := 228) hx hb dX10_tryNewcomer_198 (by decide) (fun c_18 => ?_) (fun c_18 => ?_)
        · have h := sd_ifp c_18 h
          exact t_X10_tryNewcomer_b228 C hk0 hk1 ih x4 x5 x6 x7 x8 S_16 _ _ _ h X (lv_sub hl [0, 1, 2, 3, 4, 5] rfl)
        · have h := sd_ifn c_18 h
          refine lv_aload_n hx hb dX10_tryNewcomer_201 rfl (lv_at hl 0 rfl) ?_
          refine lv_aload_n hx hb dX10_tryNewcomer_202 rfl (lv_at hl 0 rfl) ?_
          refine sd_g10_3 (k := k0) C X hk0 sd_w7_1 dX10_tryNewcomer_203 ?_
          refine lv_iload hx hb dX10_tryNewcomer_206 (lv_at hl 2 rfl) ?_
          obtain ⟨r_20, S_19, er_20, h⟩ := sd_cl_some h
          refine k_X5_had C X hl.1 (sd_k10_22 hk0) er_20 sd_w43_9 (by decide) (Nat.le_of_ble_eq_true rfl) dX10_tryNewcomer_208 (fun H locs X => ?_)
          obtain ⟨S_21, eS_21, h⟩ := sd_nm_some h
          refine sd_p10_6 C X hk0 sd_w42_2 dX10_tryNewcomer_211 (fun H locs X => ?_)
          rw [← eS_21] at X
          refine lv_aload_n hx hb dX10_tryNewcomer_214 rfl (lv_at hl 0 rfl) ?_
          refine lv_iload hx hb dX10_tryNewcomer_215 (lv_at hl 5 rfl) ?_
          obtain ⟨S_22, eS_22, h⟩ := sd_nm_some h
          refine sd_p10_7 C X hk0 sd_w42_3 dX10_tryNewcomer_217 (fun H locs X => ?_)
          rw [← eS_22] at X
          refine lv_aload_n hx hb dX10_tryNewcomer_220 rfl (lv_at hl 0 rfl) ?_
          refine sd_g10_6 C X hk0 sd_w42_2 dX10_tryNewcomer_221 ?_
          refine lv_iconst (v := (1 : Int32)) hx hb dX10_tryNewcomer_224 (by decide) ?_
          refine lv_isub hx hb dX10_tryNewcomer_225 ?_
          obtain ⟨v_23, e_23, h⟩ := sd_nm_some h
          refine sd_nmi e_23 ?_
          refine lv_istore (lv' := [(7, .int v_23), (0, .ref (ad k0)), (4, .int x4), (5, .int x5), (6, .int x6), (8, .int x8)]) hx hb dX10_tryNewcomer_226 hl (by decide) rfl (fun ls hl => ?_)
          exact t_X10_tryNewcomer_b228 C hk0 hk1 ih x4 x5 x6 v_23 x8 S_22 _ _ _ h X (lv_sub hl [1, 2, 3, 4, 0, 5] rfl)
      · have h := sd_ifp c_9 h
        refine lv_goto (tgt := 228) hx hb dX10_tryNewcomer_132 (by decide) ?_
        exact t_X10_tryNewcomer_b228 C hk0 hk1 ih x4 x5 x6 x7 x8 S_7 _ _ _ h X (lv_sub hl [0, 1, 2, 3, 4, 5] rfl)
def f_X10_tryNewcomer_l33 (k0 : Nat) (k1 : Nat) : Nat → Int32 → Int32 → Int32 → Int32 → Int32 → Int32 → sd_St → Option (Unit × sd_St)
  | 0 => fun _ _ _ _ _ _ _ => none
  | n + 1 => fun x2 x3 x4 x5 x6 x7 S => (if x6 ≤ x7 then sd_cl (f_X1_openAll (k0 + 12) (k0 + 1) S) (fun _ S_25 => sd_nm (sd_I S_25 k0 6 (-1 : Int32)) (fun S_27 => sd_nm (sd_I S_27 k0 7 (-1 : Int32)) (fun S_28 => f_X10_tryNewcomer_l115 k0 k1 sd_FU x4 x5 x6 (4391 : Int32) (0 : Int32) S_28))) else sd_cl (f_X11_has x2 x7 S) (fun r_30 S_29 => (if r_30 = 0 then f_X10_tryNewcomer_b60 (f_X10_tryNewcomer_l33 k0 k1 n) k0 k1 x2 x3 x4 x5 x6 x7 S_29 else sd_cl (f_X8_addCall (k0 + 1) x6 x7 S_29) (fun _ S_32 => f_X10_tryNewcomer_b60 (f_X10_tryNewcomer_l33 k0 k1 n) k0 k1 x2 x3 x4 x5 x6 x7 S_32))))
set_option maxHeartbeats 4000000 in
set_option maxRecDepth 100000 in
theorem t_X10_tryNewcomer_l33 (C : sd_C RX10 cX10_tryNewcomer 9 none D cy ad A b0 p s m args meth c) {k0 : Nat} {k1 : Nat} (hk0 : sd_kd k0 = 10) (hk1 : sd_kd k1 = 8) {S' : sd_St} : ∀ (n : Nat) (x2 : Int32) (x3 : Int32) (x4 : Int32) (x5 : Int32) (x6 : Int32) (x7 : Int32) (S : sd_St) (H : Heap) (locs : List Loc) (ls : Array Slot), f_X10_tryNewcomer_l33 k0 k1 n x2 x3 x4 x5 x6 x7 S = some ((), S') → sd_H D cy ad A s S H locs → lv_has ls 9 [(0, .ref (ad k0)), (2, .int x2), (3, .int x3), (4, .int x4), (5, .int x5), (6, .int x6), (7, .int x7)] → W p l e (sd_rm 4) s m args below meth c H locs 0 0 (MQ below (sd_Qv D cy ad A S') args s 0 0 A) (F0 m 33 ls []) := by
  obtain ⟨hx, hb, -, hml, hown, hts, -, hG⟩ := id C
  intro n
  induction n with
  | zero => intro x2 x3 x4 x5 x6 x7 S H locs ls h; cases h
  | succ n ih =>
    intro x2 x3 x4 x5 x6 x7 S H locs ls h X hl
    unfold f_X10_tryNewcomer_l33 at h
    refine lv_iload hx hb dX10_tryNewcomer_33 (lv_at hl 6 rfl) ?_
    refine lv_iload hx hb dX10_tryNewcomer_35 (lv_at hl 5 rfl) ?_
    refine lv_icmp_ge (tgt := 86) hx hb dX10_tryNewcomer_37 (by decide) (fun c_24 => ?_) (fun c_24 => ?_)
    · have h := sd_ifp c_24 h
      refine lv_aload_n hx hb dX10_tryNewcomer_86 rfl (lv_at hl 0 rfl) ?_
      refine sd_g10_1 (k := k0) C X hk0 sd_w6_22 dX10_tryNewcomer_87 ?_
      refine lv_aload_n hx hb dX10_tryNewcomer_90 rfl (lv_at hl 0 rfl) ?_
      refine sd_g10_0 (k := k0) C X hk0 sd_w6_20 dX10_tryNewcomer_91 ?_
      obtain ⟨r_26, S_25, er_26, h⟩ := sd_cl_some h
      refine k_X1_openAll C X hl.1 (sd_k10_12 hk0) (sd_k10_1 hk0) er_26 sd_w42_19 (by decide) (Nat.le_of_ble_eq_true rfl) dX10_tryNewcomer_94 (fun H locs X => ?_)
      refine lv_aload_n hx hb dX10_tryNewcomer_97 rfl (lv_at hl 0 rfl) ?_
      refine lv_iconst (v := (-1 : Int32)) hx hb dX10_tryNewcomer_98 (by decide) ?_
      obtain ⟨S_27, eS_27, h⟩ := sd_nm_some h
      refine sd_p10_6 C X hk0 sd_w42_2 dX10_tryNewcomer_99 (fun H locs X => ?_)
      rw [← eS_27] at X
      refine lv_aload_n hx hb dX10_tryNewcomer_102 rfl (lv_at hl 0 rfl) ?_
      refine lv_iconst (v := (-1 : Int32)) hx hb dX10_tryNewcomer_103 (by decide) ?_
      obtain ⟨S_28, eS_28, h⟩ := sd_nm_some h
      refine sd_p10_7 C X hk0 sd_w42_3 dX10_tryNewcomer_104 (fun H locs X => ?_)
      rw [← eS_28] at X
      refine lv_sipush (v := (4391 : Int32)) hx hb dX10_tryNewcomer_107 (by decide) ?_
      refine lv_istore (lv' := [(7, .int (4391 : Int32)), (0, .ref (ad k0)), (2, .int x2), (3, .int x3), (4, .int x4), (5, .int x5), (6, .int x6)]) hx hb dX10_tryNewcomer_110 hl (by decide) rfl (fun ls hl => ?_)
      refine lv_iconst (v := (0 : Int32)) hx hb dX10_tryNewcomer_112 (by decide) ?_
      refine lv_istore (lv' := [(8, .int (0 : Int32)), (7, .int (4391 : Int32)), (0, .ref (ad k0)), (2, .int x2), (3, .int x3), (4, .int x4), (5, .int x5), (6, .int x6)]) hx hb dX10_tryNewcomer_113 hl (by decide) rfl (fun ls hl => ?_)
      exact t_X10_tryNewcomer_l115 C hk0 hk1 sd_FU x4 x5 x6 (4391 : Int32) (0 : Int32) S_28 _ _ _ h X (lv_sub hl [2, 5, 6, 7, 1, 0] rfl)
    · have h := sd_ifn c_24 h
      refine lv_iload_n hx hb dX10_tryNewcomer_40 rfl (lv_at hl 1 rfl) ?_
      refine lv_iload hx hb dX10_tryNewcomer_41 (lv_at hl 6 rfl) ?_
      obtain ⟨r_30, S_29, er_30, h⟩ := sd_cl_some h
      refine k_X11_has_n C X hl.1 er_30 (List.mem_of_getElem? (i := 17) rfl) (by decide) (Nat.le_of_ble_eq_true rfl) dX10_tryNewcomer_43 (fun H locs X => ?_)
      refine lv_if_eq (tgt := 60) hx hb dX10_tryNewcomer_46 (by decide) (fun c_31 => ?_) (fun c_31 => ?_)
      · have h := sd_ifp c_31 h
        exact t_X10_tryNewcomer_b60 C hk0 hk1 ih x2 x3 x4 x5 x6 x7 S_29 _ _ _ h X (lv_sub hl [0, 1, 2, 3, 4, 5, 6] rfl)
      · have h := sd_ifn c_31 h
        refine lv_aload_n hx hb dX10_tryNewcomer_49 rfl (lv_at hl 0 rfl) ?_
        refine sd_g10_0 (k := k0) C X hk0 sd_w6_20 dX10_tryNewcomer_50 ?_
        refine lv_iload hx hb dX10_tryNewcomer_53 (lv_at hl 5 rfl) ?_
        refine lv_iload hx hb dX10_tryNewcomer_55 (lv_at hl 6 rfl) ?_
        obtain ⟨r_33, S_32, er_33, h⟩ := sd_cl_some h
        refine k_X8_addCall C X hl.1 (sd_k10_1 hk0) er_33 sd_w42_18 (by decide) (Nat.le_of_ble_eq_true rfl) dX10_tryNewcomer_57 (fun H locs X => ?_)
        exact t_X10_tryNewcomer_b60 C hk0 hk1 ih x2 x3 x4 x5 x6 x7 S_32 _ _ _ h X (lv_sub hl [0, 1, 2, 3, 4, 5, 6] rfl)
def f_X10_tryNewcomer (k0 : Nat) (k1 : Nat) (x2 : Int32) (x3 : Int32) (x4 : Int32) (x5 : Int32) (S : sd_St) : Option (Unit × sd_St) := sd_cl (f_X8_copyFrom (k0 + 1) k1 S) (fun _ S_34 => sd_cl (f_X10_markTurns k0 k1 S_34) (fun _ S_36 => sd_nm ((S_36.1 (k0 + 1) 0)) (fun v_38 => sd_cl (f_X8_addPerson (k0 + 1) (-1 : Int32) S_36) (fun _ S_39 => f_X10_tryNewcomer_l33 k0 k1 sd_FU x2 x3 x4 x5 v_38 (0 : Int32) S_39))))
set_option maxHeartbeats 4000000 in
set_option maxRecDepth 100000 in
theorem c_X10_tryNewcomer {k0 : Nat} {k1 : Nat} {x2 : Int32} {x3 : Int32} {x4 : Int32} {x5 : Int32} (hk0 : sd_kd k0 = 10) (hk1 : sd_kd k1 = 8) {S S' : sd_St} (h : f_X10_tryNewcomer k0 k1 x2 x3 x4 x5 S = some ((), S')) : Met l yX10_tryNewcomer (Cond.code yX10_tryNewcomer cX10_tryNewcomer 9 none :: sd_wl) (sd_rm 4) (sd_P D cy ad A b0 [.ref (ad k0), .ref (ad k1), .int x2, .int x3, .int x4, .int x5] S) (sd_Qv D cy ad A S') 0 0 A := by
  refine sd_met (by decide) (Nat.le_of_ble_eq_true rfl) (fun p e s m args below meth c ls C X hl => ?_)
  obtain ⟨hx, hb, -, hml, hown, hts, -, hG⟩ := id C
  replace C : sd_C RX10 cX10_tryNewcomer 9 none D cy ad A b0 p s m args meth c := C
  replace hl : lv_has ls 9 [(0, .ref (ad k0)), (1, .ref (ad k1)), (2, .int x2), (3, .int x3), (4, .int x4), (5, .int x5)] := hl
  unfold f_X10_tryNewcomer at h
  refine lv_aload_n hx hb dX10_tryNewcomer_0 rfl (lv_at hl 0 rfl) ?_
  refine sd_g10_0 (k := k0) C X hk0 sd_w6_20 dX10_tryNewcomer_1 ?_
  refine lv_aload_n hx hb dX10_tryNewcomer_4 rfl (lv_at hl 1 rfl) ?_
  obtain ⟨r_35, S_34, er_35, h⟩ := sd_cl_some h
  refine k_X8_copyFrom C X hl.1 (sd_k10_1 hk0) hk1 er_35 sd_w42_6 (by decide) (Nat.le_of_ble_eq_true rfl) dX10_tryNewcomer_5 (fun H locs X => ?_)
  refine lv_aload_n hx hb dX10_tryNewcomer_8 rfl (lv_at hl 0 rfl) ?_
  refine lv_aload_n hx hb dX10_tryNewcomer_9 rfl (lv_at hl 1 rfl) ?_
  obtain ⟨r_37, S_36, er_37, h⟩ := sd_cl_some h
  refine k_X10_markTurns C X hl.1 hk0 hk1 er_37 sd_w42_7 (by decide) (Nat.le_of_ble_eq_true rfl) dX10_tryNewcomer_10 (fun H locs X => ?_)
  refine lv_aload_n hx hb dX10_tryNewcomer_13 rfl (lv_at hl 0 rfl) ?_
  refine sd_g10_0 (k := k0) C X hk0 sd_w6_20 dX10_tryNewcomer_14 ?_
  refine sd_g8_0 C X (sd_k10_1 hk0) sd_w42_1 dX10_tryNewcomer_17 ?_
  obtain ⟨v_38, e_38, h⟩ := sd_nm_some h
  refine sd_nmi e_38 ?_
  refine lv_istore (lv' := [(6, .int v_38), (0, .ref (ad k0)), (1, .ref (ad k1)), (2, .int x2), (3, .int x3), (4, .int x4), (5, .int x5)]) hx hb dX10_tryNewcomer_20 hl (by decide) rfl (fun ls hl => ?_)
  refine lv_aload_n hx hb dX10_tryNewcomer_22 rfl (lv_at hl 1 rfl) ?_
  refine sd_g10_0 (k := k0) C X hk0 sd_w6_20 dX10_tryNewcomer_23 ?_
  refine lv_iconst (v := (-1 : Int32)) hx hb dX10_tryNewcomer_26 (by decide) ?_
  obtain ⟨r_40, S_39, er_40, h⟩ := sd_cl_some h
  refine k_X8_addPerson C X hl.1 (sd_k10_1 hk0) er_40 sd_w42_17 (by decide) (Nat.le_of_ble_eq_true rfl) dX10_tryNewcomer_27 (fun H locs X => ?_)
  refine lv_iconst (v := (0 : Int32)) hx hb dX10_tryNewcomer_30 (by decide) ?_
  refine lv_istore (lv' := [(7, .int (0 : Int32)), (6, .int v_38), (0, .ref (ad k0)), (1, .ref (ad k1)), (2, .int x2), (3, .int x3), (4, .int x4), (5, .int x5)]) hx hb dX10_tryNewcomer_31 hl (by decide) rfl (fun ls hl => ?_)
  exact t_X10_tryNewcomer_l33 C hk0 hk1 sd_FU x2 x3 x4 x5 v_38 (0 : Int32) S_39 _ _ _ h X (lv_sub hl [2, 4, 5, 6, 7, 1, 0] rfl)
theorem k_X10_tryNewcomer (C : sd_C own cc nL rt D cy ad A b0 p s m args meth c) (X : sd_H D cy ad A s S H locs) (hls : ls.size = nL) {k0 : Nat} {k1 : Nat} {x2 : Int32} {x3 : Int32} {x4 : Int32} {x5 : Int32} {S2 : sd_St} (hk0 : sd_kd k0 = 10) (hk1 : sd_kd k1 = 8) (h : f_X10_tryNewcomer k0 k1 x2 x3 x4 x5 S = some ((), S2)) (hlink : Cond.methodLink own index yX10_tryNewcomer ∈ sd_wl) (hR : 5 ≤ R.frames ∧ 188 ≤ R.locals ∧ cells ≤ R.cells ∧ slots ≤ R.slots) (hst : (rest.map fun v => v.category).sum ≤ 8) (hdg : decode cc pc = .ok (.invokevirtual index, 3)) (kk : ∀ (H1 : Heap) (locs1 : List Loc), sd_H D cy ad A s S2 H1 locs1 → W p l e R s m args below meth c H1 locs1 cells slots Q (F0 m (pc + 3) ls rest)) : W p l e R s m args below meth c H locs cells slots Q (F0 m pc ls (.int x5 :: .int x4 :: .int x3 :: .int x2 :: .ref (ad k1) :: .ref (ad k0) :: rest)) :=
  sd_goV X (sd_runV C X hls (n := 5) (k := k0) (As := [.ref (ad k1), .int x2, .int x3, .int x4, .int x5]) (c_X10_tryNewcomer (l := l) (b0 := b0) hk0 hk1 h) (sd_goodV hlink sd_w41_22 sd_w41_23 sd_w3_4 sd_w42_0) (ci := 10) rfl (by rw [hk0]; decide) (sd_c10 hk0) (by decide +kernel) rfl hR rfl hst hdg) kk
/-! ===== SecretDays$WhatIf.allAgree(LSecretDays$Reports;)Z ===== -/
def f_X10_allAgree_l2 (k0 : Nat) (k1 : Nat) : Nat → Int32 → sd_St → Option (Int32 × sd_St)
  | 0 => fun _ _ => none
  | n + 1 => fun x2 S => (if (S.1 (k0 + 1) 11) ≤ x2 then (some ((1 : Int32), S)) else sd_cl (f_X4_lastAbout k1 x2 S) (fun r_3 S_2 => sd_ld S_2 (k0 + 10) x2 (fun v_4 => sd_ld S_2 (k0 + 11) x2 (fun v_5 => sd_cl (f_X5_spreadThroughBoth (k0 + 22) (k0 + 12) (k0 + 17) v_4 v_5 r_3 S_2) (fun _ S_6 => sd_cl (f_X4_agree k1 (k0 + 22) x2 S_6) (fun r_9 S_8 => (if r_9 = 0 then (some ((0 : Int32), S_8)) else (f_X10_allAgree_l2 k0 k1 n) (x2 + (1 : Int32)) S_8)))))))
set_option maxHeartbeats 4000000 in
set_option maxRecDepth 100000 in
theorem t_X10_allAgree_l2 (C : sd_C RX10 cX10_allAgree 4 (some .boolean) D cy ad A b0 p s m args meth c) {k0 : Nat} {k1 : Nat} (hk0 : sd_kd k0 = 10) (hk1 : sd_kd k1 = 4) {r : Int32} {S' : sd_St} : ∀ (n : Nat) (x2 : Int32) (S : sd_St) (H : Heap) (locs : List Loc) (ls : Array Slot), f_X10_allAgree_l2 k0 k1 n x2 S = some (r, S') → sd_H D cy ad A s S H locs → lv_has ls 4 [(0, .ref (ad k0)), (1, .ref (ad k1)), (2, .int x2)] → W p l e (sd_rm 3) s m args below meth c H locs 0 0 (MQ below (sd_Qi D cy ad A r S') args s 0 0 A) (F0 m 2 ls []) := by
  obtain ⟨hx, hb, -, hml, hown, hts, -, hG⟩ := id C
  intro n
  induction n with
  | zero => intro x2 S H locs ls h; cases h
  | succ n ih =>
    intro x2 S H locs ls h X hl
    unfold f_X10_allAgree_l2 at h
    refine lv_iload_n hx hb dX10_allAgree_2 rfl (lv_at hl 2 rfl) ?_
    refine lv_aload_n hx hb dX10_allAgree_3 rfl (lv_at hl 0 rfl) ?_
    refine sd_g10_0 (k := k0) C X hk0 sd_w6_20 dX10_allAgree_4 ?_
    refine sd_g8_11 C X (sd_k10_1 hk0) sd_w42_16 dX10_allAgree_7 ?_
    refine lv_icmp_ge (tgt := 73) hx hb dX10_allAgree_10 (by decide) (fun c_1 => ?_) (fun c_1 => ?_)
    · have h := sd_ifp c_1 h
      refine lv_iconst (v := (1 : Int32)) hx hb dX10_allAgree_73 (by decide) ?_
      cases h
      exact sd_zret C X (by decide) dX10_allAgree_74
    · have h := sd_ifn c_1 h
      refine lv_aload_n hx hb dX10_allAgree_13 rfl (lv_at hl 1 rfl) ?_
      refine lv_iload_n hx hb dX10_allAgree_14 rfl (lv_at hl 2 rfl) ?_
      obtain ⟨r_3, S_2, er_3, h⟩ := sd_cl_some h
      refine k_X4_lastAbout C X hl.1 hk1 er_3 sd_w46_19 (by decide) (Nat.le_of_ble_eq_true rfl) dX10_allAgree_15 (fun H locs X => ?_)
      refine lv_istore_n (lv' := [(3, .int r_3), (0, .ref (ad k0)), (1, .ref (ad k1)), (2, .int x2)]) hx hb dX10_allAgree_18 rfl hl (by decide) rfl (fun ls hl => ?_)
      refine lv_aload_n hx hb dX10_allAgree_19 rfl (lv_at hl 1 rfl) ?_
      refine sd_g10_3 (k := k0) C X hk0 sd_w7_1 dX10_allAgree_20 ?_
      refine lv_aload_n hx hb dX10_allAgree_23 rfl (lv_at hl 1 rfl) ?_
      refine sd_g10_1 (k := k0) C X hk0 sd_w6_22 dX10_allAgree_24 ?_
      refine lv_aload_n hx hb dX10_allAgree_27 rfl (lv_at hl 1 rfl) ?_
      refine sd_g10_2 (k := k0) C X hk0 sd_w6_23 dX10_allAgree_28 ?_
      refine lv_aload_n hx hb dX10_allAgree_31 rfl (lv_at hl 1 rfl) ?_
      refine sd_g10_0 (k := k0) C X hk0 sd_w6_20 dX10_allAgree_32 ?_
      refine sd_g8_12 (k := (k0 + 1)) C X (sd_k10_1 hk0) sd_w42_4 dX10_allAgree_35 ?_
      refine lv_iload_n hx hb dX10_allAgree_38 rfl (lv_at hl 3 rfl) ?_
      obtain ⟨b_4, v_4, e_4, h⟩ := sd_ld_some h
      refine sd_iald C X (sd_k10_10 hk0) b_4 dX10_allAgree_39 (sd_nmi e_4 ?_)
      refine lv_aload_n hx hb dX10_allAgree_40 rfl (lv_at hl 1 rfl) ?_
      refine sd_g10_0 (k := k0) C X hk0 sd_w6_20 dX10_allAgree_41 ?_
      refine sd_g8_13 (k := (k0 + 1)) C X (sd_k10_1 hk0) sd_w42_5 dX10_allAgree_44 ?_
      refine lv_iload_n hx hb dX10_allAgree_47 rfl (lv_at hl 3 rfl) ?_
      obtain ⟨b_5, v_5, e_5, h⟩ := sd_ld_some h
      refine sd_iald C X (sd_k10_11 hk0) b_5 dX10_allAgree_48 (sd_nmi e_5 ?_)
      refine lv_iload_n hx hb dX10_allAgree_49 rfl (lv_at hl 0 rfl) ?_
      obtain ⟨r_7, S_6, er_7, h⟩ := sd_cl_some h
      refine k_X5_spreadThroughBoth C X hl.1 (sd_k10_22 hk0) (sd_k10_12 hk0) (sd_k10_17 hk0) er_7 sd_w43_4 (by decide) (Nat.le_of_ble_eq_true rfl) dX10_allAgree_50 (fun H locs X => ?_)
      refine lv_aload_n hx hb dX10_allAgree_53 rfl (lv_at hl 2 rfl) ?_
      refine lv_iload_n hx hb dX10_allAgree_54 rfl (lv_at hl 3 rfl) ?_
      refine lv_aload_n hx hb dX10_allAgree_55 rfl (lv_at hl 1 rfl) ?_
      refine sd_g10_3 (k := k0) C X hk0 sd_w7_1 dX10_allAgree_56 ?_
      obtain ⟨r_9, S_8, er_9, h⟩ := sd_cl_some h
      refine k_X4_agree C X hl.1 hk1 (sd_k10_22 hk0) er_9 sd_w46_20 (by decide) (Nat.le_of_ble_eq_true rfl) dX10_allAgree_59 (fun H locs X => ?_)
      refine lv_if_ne (tgt := 67) hx hb dX10_allAgree_62 (by decide) (fun c_10 => ?_) (fun c_10 => ?_)
      · have h := sd_ifn c_10 h
        refine lv_iinc (v := (x2 + (1 : Int32))) (lv' := [(2, .int (x2 + (1 : Int32))), (3, .int r_3), (0, .ref (ad k0)), (1, .ref (ad k1))]) hx hb dX10_allAgree_67 hl (k := 3) rfl rfl (by decide) rfl (fun ls hl => ?_)
        refine lv_goto (tgt := 2) hx hb dX10_allAgree_70 (by decide) ?_
        exact ih (x2 + (1 : Int32)) S_8 _ _ _ h X (lv_sub hl [2, 3, 0] rfl)
      · have h := sd_ifp c_10 h
        refine lv_iconst (v := (0 : Int32)) hx hb dX10_allAgree_65 (by decide) ?_
        cases h
        exact sd_zret C X (by decide) dX10_allAgree_66
def f_X10_allAgree (k0 : Nat) (k1 : Nat) (S : sd_St) : Option (Int32 × sd_St) := f_X10_allAgree_l2 k0 k1 sd_FU (0 : Int32) S
set_option maxHeartbeats 4000000 in
set_option maxRecDepth 100000 in
theorem c_X10_allAgree {k0 : Nat} {k1 : Nat} (hk0 : sd_kd k0 = 10) (hk1 : sd_kd k1 = 4) {S S' : sd_St} {r : Int32} (h : f_X10_allAgree k0 k1 S = some (r, S')) : Met l yX10_allAgree (Cond.code yX10_allAgree cX10_allAgree 4 (some .boolean) :: sd_wl) (sd_rm 3) (sd_P D cy ad A b0 [.ref (ad k0), .ref (ad k1)] S) (sd_Qi D cy ad A r S') 0 0 A := by
  refine sd_met (by decide) (Nat.le_of_ble_eq_true rfl) (fun p e s m args below meth c ls C X hl => ?_)
  obtain ⟨hx, hb, -, hml, hown, hts, -, hG⟩ := id C
  replace C : sd_C RX10 cX10_allAgree 4 (some .boolean) D cy ad A b0 p s m args meth c := C
  replace hl : lv_has ls 4 [(0, .ref (ad k0)), (1, .ref (ad k1))] := hl
  unfold f_X10_allAgree at h
  refine lv_iconst (v := (0 : Int32)) hx hb dX10_allAgree_0 (by decide) ?_
  refine lv_istore_n (lv' := [(2, .int (0 : Int32)), (0, .ref (ad k0)), (1, .ref (ad k1))]) hx hb dX10_allAgree_1 rfl hl (by decide) rfl (fun ls hl => ?_)
  exact t_X10_allAgree_l2 C hk0 hk1 sd_FU (0 : Int32) S _ _ _ h X (lv_sub hl [1, 2, 0] rfl)
theorem k_X10_allAgree (C : sd_C own cc nL rt D cy ad A b0 p s m args meth c) (X : sd_H D cy ad A s S H locs) (hls : ls.size = nL) {k0 : Nat} {k1 : Nat} {S2 : sd_St} {r : Int32} (hk0 : sd_kd k0 = 10) (hk1 : sd_kd k1 = 4) (h : f_X10_allAgree k0 k1 S = some (r, S2)) (hlink : Cond.methodLink own index yX10_allAgree ∈ sd_wl) (hR : 4 ≤ R.frames ∧ 143 ≤ R.locals ∧ cells ≤ R.cells ∧ slots ≤ R.slots) (hst : (rest.map fun v => v.category).sum ≤ 8) (hdg : decode cc pc = .ok (.invokevirtual index, 3)) (kk : ∀ (H1 : Heap) (locs1 : List Loc), sd_H D cy ad A s S2 H1 locs1 → W p l e R s m args below meth c H1 locs1 cells slots Q (F0 m (pc + 3) ls (.int r :: rest))) : W p l e R s m args below meth c H locs cells slots Q (F0 m pc ls (.ref (ad k1) :: .ref (ad k0) :: rest)) :=
  sd_goI X (sd_runV C X hls (n := 1) (k := k0) (As := [.ref (ad k1)]) (c_X10_allAgree (l := l) (b0 := b0) hk0 hk1 h) (sd_goodV hlink sd_w46_16 sd_w46_17 sd_w3_4 sd_w46_18) (ci := 10) rfl (by rw [hk0]; decide) (sd_c10 hk0) (by decide +kernel) rfl hR rfl hst hdg) kk
/-! ===== SecretDays$WhatIf.findOtherBirthday(LSecretDays$Town;LSecretDays$Reports;I)I ===== -/
def f_X10_findOtherBirthday_b128 (q72 : (Int32 → Int32 → sd_St → Option (Int32 × sd_St))) (k0 : Nat) (k1 : Nat) (k2 : Nat) (x3 : Int32) (x4 : Int32) (S : sd_St) : Option (Int32 × sd_St) := q72 x3 (x4 + (1 : Int32)) S
set_option maxHeartbeats 4000000 in
set_option maxRecDepth 100000 in
theorem t_X10_findOtherBirthday_b128 (C : sd_C RX10 cX10_findOtherBirthday 5 (some .int) D cy ad A b0 p s m args meth c) {k0 : Nat} {k1 : Nat} {k2 : Nat} (hk0 : sd_kd k0 = 10) (hk1 : sd_kd k1 = 8) (hk2 : sd_kd k2 = 4) {r : Int32} {S' : sd_St} {q72 : (Int32 → Int32 → sd_St → Option (Int32 × sd_St))} (hq72 : ∀ (x3 : Int32) (x4 : Int32) (S : sd_St) (H : Heap) (locs : List Loc) (ls : Array Slot), q72 x3 x4 S = some (r, S') → sd_H D cy ad A s S H locs → lv_has ls 5 [(0, .ref (ad k0)), (1, .ref (ad k1)), (2, .ref (ad k2)), (3, .int x3), (4, .int x4)] → W p l e (sd_rm 4) s m args below meth c H locs 0 0 (MQ below (sd_Qi D cy ad A r S') args s 0 0 A) (F0 m 72 ls [])) : ∀ (x3 : Int32) (x4 : Int32) (S : sd_St) (H : Heap) (locs : List Loc) (ls : Array Slot), f_X10_findOtherBirthday_b128 q72 k0 k1 k2 x3 x4 S = some (r, S') → sd_H D cy ad A s S H locs → lv_has ls 5 [(0, .ref (ad k0)), (1, .ref (ad k1)), (2, .ref (ad k2)), (3, .int x3), (4, .int x4)] → W p l e (sd_rm 4) s m args below meth c H locs 0 0 (MQ below (sd_Qi D cy ad A r S') args s 0 0 A) (F0 m 128 ls []) := by
  obtain ⟨hx, hb, -, hml, hown, hts, -, hG⟩ := id C
  intro x3 x4 S H locs ls h X hl
  unfold f_X10_findOtherBirthday_b128 at h
  refine lv_iinc (v := (x4 + (1 : Int32))) (lv' := [(4, .int (x4 + (1 : Int32))), (0, .ref (ad k0)), (1, .ref (ad k1)), (2, .ref (ad k2)), (3, .int x3)]) hx hb dX10_findOtherBirthday_128 hl (k := 4) rfl rfl (by decide) rfl (fun ls hl => ?_)
  refine lv_goto (tgt := 72) hx hb dX10_findOtherBirthday_131 (by decide) ?_
  exact hq72 x3 (x4 + (1 : Int32)) S _ _ _ h X (lv_sub hl [1, 2, 3, 4, 0] rfl)
def f_X10_findOtherBirthday_l72 (k0 : Nat) (k1 : Nat) (k2 : Nat) : Nat → Int32 → Int32 → sd_St → Option (Int32 × sd_St)
  | 0 => fun _ _ _ => none
  | n + 1 => fun x3 x4 S => (if (366 : Int32) ≤ x4 then (some ((-1 : Int32), S)) else sd_ld S (k1 + 1) x3 (fun v_2 => (if x4 = v_2 then f_X10_findOtherBirthday_b128 (f_X10_findOtherBirthday_l72 k0 k1 k2 n) k0 k1 k2 x3 x4 S else sd_cl (f_X10_isUnlikeDayBefore k0 x4 S) (fun r_5 S_4 => (if r_5 = 0 then f_X10_findOtherBirthday_b128 (f_X10_findOtherBirthday_l72 k0 k1 k2 n) k0 k1 k2 x3 x4 S_4 else sd_cl (f_X1_openOne (k0 + 17) (k0 + 1) x3 x4 S_4) (fun _ S_7 => sd_cl (f_X10_allAgree k0 k2 S_7) (fun r_10 S_9 => (if r_10 = 0 then f_X10_findOtherBirthday_b128 (f_X10_findOtherBirthday_l72 k0 k1 k2 n) k0 k1 k2 x3 x4 S_9 else (some (x4, S_9))))))))))
set_option maxHeartbeats 4000000 in
set_option maxRecDepth 100000 in
theorem t_X10_findOtherBirthday_l72 (C : sd_C RX10 cX10_findOtherBirthday 5 (some .int) D cy ad A b0 p s m args meth c) {k0 : Nat} {k1 : Nat} {k2 : Nat} (hk0 : sd_kd k0 = 10) (hk1 : sd_kd k1 = 8) (hk2 : sd_kd k2 = 4) {r : Int32} {S' : sd_St} : ∀ (n : Nat) (x3 : Int32) (x4 : Int32) (S : sd_St) (H : Heap) (locs : List Loc) (ls : Array Slot), f_X10_findOtherBirthday_l72 k0 k1 k2 n x3 x4 S = some (r, S') → sd_H D cy ad A s S H locs → lv_has ls 5 [(0, .ref (ad k0)), (1, .ref (ad k1)), (2, .ref (ad k2)), (3, .int x3), (4, .int x4)] → W p l e (sd_rm 4) s m args below meth c H locs 0 0 (MQ below (sd_Qi D cy ad A r S') args s 0 0 A) (F0 m 72 ls []) := by
  obtain ⟨hx, hb, -, hml, hown, hts, -, hG⟩ := id C
  intro n
  induction n with
  | zero => intro x3 x4 S H locs ls h; cases h
  | succ n ih =>
    intro x3 x4 S H locs ls h X hl
    unfold f_X10_findOtherBirthday_l72 at h
    refine lv_iload hx hb dX10_findOtherBirthday_72 (lv_at hl 4 rfl) ?_
    refine lv_sipush (v := (366 : Int32)) hx hb dX10_findOtherBirthday_74 (by decide) ?_
    refine lv_icmp_ge (tgt := 134) hx hb dX10_findOtherBirthday_77 (by decide) (fun c_1 => ?_) (fun c_1 => ?_)
    · have h := sd_ifp c_1 h
      refine lv_iconst (v := (-1 : Int32)) hx hb dX10_findOtherBirthday_134 (by decide) ?_
      cases h
      exact sd_iret C X dX10_findOtherBirthday_135
    · have h := sd_ifn c_1 h
      refine lv_iload hx hb dX10_findOtherBirthday_80 (lv_at hl 4 rfl) ?_
      refine lv_aload_n hx hb dX10_findOtherBirthday_82 rfl (lv_at hl 1 rfl) ?_
      refine sd_g8_1 (k := k1) C X hk1 sd_w42_11 dX10_findOtherBirthday_83 ?_
      refine lv_iload_n hx hb dX10_findOtherBirthday_86 rfl (lv_at hl 3 rfl) ?_
      obtain ⟨b_2, v_2, e_2, h⟩ := sd_ld_some h
      refine sd_iald C X (sd_k8_1 hk1) b_2 dX10_findOtherBirthday_87 (sd_nmi e_2 ?_)
      refine lv_icmp_eq (tgt := 128) hx hb dX10_findOtherBirthday_88 (by decide) (fun c_3 => ?_) (fun c_3 => ?_)
      · have h := sd_ifp c_3 h
        exact t_X10_findOtherBirthday_b128 C hk0 hk1 hk2 ih x3 x4 S _ _ _ h X (lv_sub hl [0, 1, 2, 3, 4] rfl)
      · have h := sd_ifn c_3 h
        refine lv_aload_n hx hb dX10_findOtherBirthday_91 rfl (lv_at hl 0 rfl) ?_
        refine lv_iload hx hb dX10_findOtherBirthday_92 (lv_at hl 4 rfl) ?_
        obtain ⟨r_5, S_4, er_5, h⟩ := sd_cl_some h
        refine k_X10_isUnlikeDayBefore C X hl.1 hk0 er_5 sd_w42_20 (by decide) (Nat.le_of_ble_eq_true rfl) dX10_findOtherBirthday_94 (fun H locs X => ?_)
        refine lv_if_ne (tgt := 103) hx hb dX10_findOtherBirthday_97 (by decide) (fun c_6 => ?_) (fun c_6 => ?_)
        · have h := sd_ifn c_6 h
          refine lv_aload_n hx hb dX10_findOtherBirthday_103 rfl (lv_at hl 0 rfl) ?_
          refine sd_g10_2 (k := k0) C X hk0 sd_w6_23 dX10_findOtherBirthday_104 ?_
          refine lv_aload_n hx hb dX10_findOtherBirthday_107 rfl (lv_at hl 0 rfl) ?_
          refine sd_g10_0 (k := k0) C X hk0 sd_w6_20 dX10_findOtherBirthday_108 ?_
          refine lv_iload_n hx hb dX10_findOtherBirthday_111 rfl (lv_at hl 3 rfl) ?_
          refine lv_iload hx hb dX10_findOtherBirthday_112 (lv_at hl 4 rfl) ?_
          obtain ⟨r_8, S_7, er_8, h⟩ := sd_cl_some h
          refine k_X1_openOne C X hl.1 (sd_k10_17 hk0) (sd_k10_1 hk0) er_8 sd_w43_0 (by decide) (Nat.le_of_ble_eq_true rfl) dX10_findOtherBirthday_114 (fun H locs X => ?_)
          refine lv_aload_n hx hb dX10_findOtherBirthday_117 rfl (lv_at hl 0 rfl) ?_
          refine lv_aload_n hx hb dX10_findOtherBirthday_118 rfl (lv_at hl 2 rfl) ?_
          obtain ⟨r_10, S_9, er_10, h⟩ := sd_cl_some h
          refine k_X10_allAgree C X hl.1 hk0 hk2 er_10 sd_w46_15 (by decide) (Nat.le_of_ble_eq_true rfl) dX10_findOtherBirthday_119 (fun H locs X => ?_)
          refine lv_if_eq (tgt := 128) hx hb dX10_findOtherBirthday_122 (by decide) (fun c_11 => ?_) (fun c_11 => ?_)
          · have h := sd_ifp c_11 h
            exact t_X10_findOtherBirthday_b128 C hk0 hk1 hk2 ih x3 x4 S_9 _ _ _ h X (lv_sub hl [0, 1, 2, 3, 4] rfl)
          · have h := sd_ifn c_11 h
            refine lv_iload hx hb dX10_findOtherBirthday_125 (lv_at hl 4 rfl) ?_
            cases h
            exact sd_iret C X dX10_findOtherBirthday_127
        · have h := sd_ifp c_6 h
          refine lv_goto (tgt := 128) hx hb dX10_findOtherBirthday_100 (by decide) ?_
          exact t_X10_findOtherBirthday_b128 C hk0 hk1 hk2 ih x3 x4 S_4 _ _ _ h X (lv_sub hl [0, 1, 2, 3, 4] rfl)
def f_X10_findOtherBirthday_l16 (k0 : Nat) (k1 : Nat) (k2 : Nat) : Nat → Int32 → Int32 → sd_St → Option (Int32 × sd_St)
  | 0 => fun _ _ _ => none
  | n + 1 => fun x3 x4 S => (if (S.1 k2 0) ≤ x4 then sd_st S (k0 + 2) x3 (-1 : Int32) (fun S_13 => sd_cl (f_X1_openAll (k0 + 12) (k0 + 1) S_13) (fun _ S_14 => f_X10_findOtherBirthday_l72 k0 k1 k2 sd_FU x3 (0 : Int32) S_14)) else sd_ld S (k2 + 3) x4 (fun v_16 => sd_st S (k0 + 27) (sd_rem v_16 (366 : Int32)) (vp_nar .boolean (1 : Int32)) (fun S_17 => (f_X10_findOtherBirthday_l16 k0 k1 k2 n) x3 (x4 + (1 : Int32)) S_17)))
set_option maxHeartbeats 4000000 in
set_option maxRecDepth 100000 in
theorem t_X10_findOtherBirthday_l16 (C : sd_C RX10 cX10_findOtherBirthday 5 (some .int) D cy ad A b0 p s m args meth c) {k0 : Nat} {k1 : Nat} {k2 : Nat} (hk0 : sd_kd k0 = 10) (hk1 : sd_kd k1 = 8) (hk2 : sd_kd k2 = 4) {r : Int32} {S' : sd_St} : ∀ (n : Nat) (x3 : Int32) (x4 : Int32) (S : sd_St) (H : Heap) (locs : List Loc) (ls : Array Slot), f_X10_findOtherBirthday_l16 k0 k1 k2 n x3 x4 S = some (r, S') → sd_H D cy ad A s S H locs → lv_has ls 5 [(0, .ref (ad k0)), (1, .ref (ad k1)), (2, .ref (ad k2)), (3, .int x3), (4, .int x4)] → W p l e (sd_rm 4) s m args below meth c H locs 0 0 (MQ below (sd_Qi D cy ad A r S') args s 0 0 A) (F0 m 16 ls []) := by
  obtain ⟨hx, hb, -, hml, hown, hts, -, hG⟩ := id C
  intro n
  induction n with
  | zero => intro x3 x4 S H locs ls h; cases h
  | succ n ih =>
    intro x3 x4 S H locs ls h X hl
    unfold f_X10_findOtherBirthday_l16 at h
    refine lv_iload hx hb dX10_findOtherBirthday_16 (lv_at hl 4 rfl) ?_
    refine lv_aload_n hx hb dX10_findOtherBirthday_18 rfl (lv_at hl 2 rfl) ?_
    refine sd_g4_0 C X hk2 sd_w46_13 dX10_findOtherBirthday_19 ?_
    refine lv_icmp_ge (tgt := 48) hx hb dX10_findOtherBirthday_22 (by decide) (fun c_12 => ?_) (fun c_12 => ?_)
    · have h := sd_ifp c_12 h
      refine lv_aload_n hx hb dX10_findOtherBirthday_48 rfl (lv_at hl 0 rfl) ?_
      refine sd_g10_0 (k := k0) C X hk0 sd_w6_20 dX10_findOtherBirthday_49 ?_
      refine sd_g8_1 (k := (k0 + 1)) C X (sd_k10_1 hk0) sd_w42_11 dX10_findOtherBirthday_52 ?_
      refine lv_iload_n hx hb dX10_findOtherBirthday_55 rfl (lv_at hl 3 rfl) ?_
      refine lv_iconst (v := (-1 : Int32)) hx hb dX10_findOtherBirthday_56 (by decide) ?_
      obtain ⟨bS_13, S_13, eS_13, h⟩ := sd_st_some h
      refine sd_iast C X (sd_k10_2 hk0) bS_13 dX10_findOtherBirthday_57 (fun H locs X => ?_)
      rw [← eS_13] at X
      refine lv_aload_n hx hb dX10_findOtherBirthday_58 rfl (lv_at hl 0 rfl) ?_
      refine sd_g10_1 (k := k0) C X hk0 sd_w6_22 dX10_findOtherBirthday_59 ?_
      refine lv_aload_n hx hb dX10_findOtherBirthday_62 rfl (lv_at hl 0 rfl) ?_
      refine sd_g10_0 (k := k0) C X hk0 sd_w6_20 dX10_findOtherBirthday_63 ?_
      obtain ⟨r_15, S_14, er_15, h⟩ := sd_cl_some h
      refine k_X1_openAll C X hl.1 (sd_k10_12 hk0) (sd_k10_1 hk0) er_15 sd_w42_19 (by decide) (Nat.le_of_ble_eq_true rfl) dX10_findOtherBirthday_66 (fun H locs X => ?_)
      refine lv_iconst (v := (0 : Int32)) hx hb dX10_findOtherBirthday_69 (by decide) ?_
      refine lv_istore (lv' := [(4, .int (0 : Int32)), (0, .ref (ad k0)), (1, .ref (ad k1)), (2, .ref (ad k2)), (3, .int x3)]) hx hb dX10_findOtherBirthday_70 hl (by decide) rfl (fun ls hl => ?_)
      exact t_X10_findOtherBirthday_l72 C hk0 hk1 hk2 sd_FU x3 (0 : Int32) S_14 _ _ _ h X (lv_sub hl [1, 2, 3, 4, 0] rfl)
    · have h := sd_ifn c_12 h
      refine lv_aload_n hx hb dX10_findOtherBirthday_25 rfl (lv_at hl 0 rfl) ?_
      refine sd_g10_4 (k := k0) C X hk0 sd_w7_2 dX10_findOtherBirthday_26 ?_
      refine lv_aload_n hx hb dX10_findOtherBirthday_29 rfl (lv_at hl 2 rfl) ?_
      refine sd_g4_3 (k := k2) C X hk2 sd_w46_14 dX10_findOtherBirthday_30 ?_
      refine lv_iload hx hb dX10_findOtherBirthday_33 (lv_at hl 4 rfl) ?_
      obtain ⟨b_16, v_16, e_16, h⟩ := sd_ld_some h
      refine sd_iald C X (sd_k4_3 hk2) b_16 dX10_findOtherBirthday_35 (sd_nmi e_16 ?_)
      refine lv_sipush (v := (366 : Int32)) hx hb dX10_findOtherBirthday_36 (by decide) ?_
      refine lv_irem hx hb dX10_findOtherBirthday_39 (by decide) ?_
      refine lv_iconst (v := (1 : Int32)) hx hb dX10_findOtherBirthday_40 (by decide) ?_
      obtain ⟨bS_17, S_17, eS_17, h⟩ := sd_st_some h
      refine sd_zast C X (sd_k10_27 hk0) bS_17 dX10_findOtherBirthday_41 (fun H locs X => ?_)
      rw [← eS_17] at X
      refine lv_iinc (v := (x4 + (1 : Int32))) (lv' := [(4, .int (x4 + (1 : Int32))), (0, .ref (ad k0)), (1, .ref (ad k1)), (2, .ref (ad k2)), (3, .int x3)]) hx hb dX10_findOtherBirthday_42 hl (k := 4) rfl rfl (by decide) rfl (fun ls hl => ?_)
      refine lv_goto (tgt := 16) hx hb dX10_findOtherBirthday_45 (by decide) ?_
      exact ih x3 (x4 + (1 : Int32)) S_17 _ _ _ h X (lv_sub hl [1, 2, 3, 4, 0] rfl)
def f_X10_findOtherBirthday (k0 : Nat) (k1 : Nat) (k2 : Nat) (x3 : Int32) (S : sd_St) : Option (Int32 × sd_St) := sd_cl (f_X8_copyFrom (k0 + 1) k1 S) (fun _ S_18 => sd_cl (f_X10_markTurns k0 k1 S_18) (fun _ S_20 => f_X10_findOtherBirthday_l16 k0 k1 k2 sd_FU x3 (0 : Int32) S_20))
set_option maxHeartbeats 4000000 in
set_option maxRecDepth 100000 in
theorem c_X10_findOtherBirthday {k0 : Nat} {k1 : Nat} {k2 : Nat} {x3 : Int32} (hk0 : sd_kd k0 = 10) (hk1 : sd_kd k1 = 8) (hk2 : sd_kd k2 = 4) {S S' : sd_St} {r : Int32} (h : f_X10_findOtherBirthday k0 k1 k2 x3 S = some (r, S')) : Met l yX10_findOtherBirthday (Cond.code yX10_findOtherBirthday cX10_findOtherBirthday 5 (some .int) :: sd_wl) (sd_rm 4) (sd_P D cy ad A b0 [.ref (ad k0), .ref (ad k1), .ref (ad k2), .int x3] S) (sd_Qi D cy ad A r S') 0 0 A := by
  refine sd_met (by decide) (Nat.le_of_ble_eq_true rfl) (fun p e s m args below meth c ls C X hl => ?_)
  obtain ⟨hx, hb, -, hml, hown, hts, -, hG⟩ := id C
  replace C : sd_C RX10 cX10_findOtherBirthday 5 (some .int) D cy ad A b0 p s m args meth c := C
  replace hl : lv_has ls 5 [(0, .ref (ad k0)), (1, .ref (ad k1)), (2, .ref (ad k2)), (3, .int x3)] := hl
  unfold f_X10_findOtherBirthday at h
  refine lv_aload_n hx hb dX10_findOtherBirthday_0 rfl (lv_at hl 0 rfl) ?_
  refine sd_g10_0 (k := k0) C X hk0 sd_w6_20 dX10_findOtherBirthday_1 ?_
  refine lv_aload_n hx hb dX10_findOtherBirthday_4 rfl (lv_at hl 1 rfl) ?_
  obtain ⟨r_19, S_18, er_19, h⟩ := sd_cl_some h
  refine k_X8_copyFrom C X hl.1 (sd_k10_1 hk0) hk1 er_19 sd_w42_6 (by decide) (Nat.le_of_ble_eq_true rfl) dX10_findOtherBirthday_5 (fun H locs X => ?_)
  refine lv_aload_n hx hb dX10_findOtherBirthday_8 rfl (lv_at hl 0 rfl) ?_
  refine lv_aload_n hx hb dX10_findOtherBirthday_9 rfl (lv_at hl 1 rfl) ?_
  obtain ⟨r_21, S_20, er_21, h⟩ := sd_cl_some h
  refine k_X10_markTurns C X hl.1 hk0 hk1 er_21 sd_w42_7 (by decide) (Nat.le_of_ble_eq_true rfl) dX10_findOtherBirthday_10 (fun H locs X => ?_)
  refine lv_iconst (v := (0 : Int32)) hx hb dX10_findOtherBirthday_13 (by decide) ?_
  refine lv_istore (lv' := [(4, .int (0 : Int32)), (0, .ref (ad k0)), (1, .ref (ad k1)), (2, .ref (ad k2)), (3, .int x3)]) hx hb dX10_findOtherBirthday_14 hl (by decide) rfl (fun ls hl => ?_)
  exact t_X10_findOtherBirthday_l16 C hk0 hk1 hk2 sd_FU x3 (0 : Int32) S_20 _ _ _ h X (lv_sub hl [1, 2, 3, 4, 0] rfl)
theorem k_X10_findOtherBirthday (C : sd_C own cc nL rt D cy ad A b0 p s m args meth c) (X : sd_H D cy ad A s S H locs) (hls : ls.size = nL) {k0 : Nat} {k1 : Nat} {k2 : Nat} {x3 : Int32} {S2 : sd_St} {r : Int32} (hk0 : sd_kd k0 = 10) (hk1 : sd_kd k1 = 8) (hk2 : sd_kd k2 = 4) (h : f_X10_findOtherBirthday k0 k1 k2 x3 S = some (r, S2)) (hlink : Cond.methodLink own index yX10_findOtherBirthday ∈ sd_wl) (hR : 5 ≤ R.frames ∧ 184 ≤ R.locals ∧ cells ≤ R.cells ∧ slots ≤ R.slots) (hst : (rest.map fun v => v.category).sum ≤ 8) (hdg : decode cc pc = .ok (.invokevirtual index, 3)) (kk : ∀ (H1 : Heap) (locs1 : List Loc), sd_H D cy ad A s S2 H1 locs1 → W p l e R s m args below meth c H1 locs1 cells slots Q (F0 m (pc + 3) ls (.int r :: rest))) : W p l e R s m args below meth c H locs cells slots Q (F0 m pc ls (.int x3 :: .ref (ad k2) :: .ref (ad k1) :: .ref (ad k0) :: rest)) :=
  sd_goI X (sd_runV C X hls (n := 3) (k := k0) (As := [.ref (ad k1), .ref (ad k2), .int x3]) (c_X10_findOtherBirthday (l := l) (b0 := b0) hk0 hk1 hk2 h) (sd_goodV hlink sd_w46_10 sd_w46_11 sd_w3_4 sd_w46_12) (ci := 10) rfl (by rw [hk0]; decide) (sd_c10 hk0) (by decide +kernel) rfl hR rfl hst hdg) kk
/-! ===== SecretDays$WhatIf.otherBirthday(LSecretDays$Town;LSecretDays$Reports;I)I ===== -/
def f_X10_otherBirthday_b24 (k0 : Nat) (k1 : Nat) (k2 : Nat) (x3 : Int32) (S : sd_St) : Option (Int32 × sd_St) := sd_ld S (k0 + 28) x3 (fun v_1 => (some (v_1, S)))
set_option maxHeartbeats 4000000 in
set_option maxRecDepth 100000 in
theorem t_X10_otherBirthday_b24 (C : sd_C RX10 cX10_otherBirthday 4 (some .int) D cy ad A b0 p s m args meth c) {k0 : Nat} {k1 : Nat} {k2 : Nat} (hk0 : sd_kd k0 = 10) (hk1 : sd_kd k1 = 8) (hk2 : sd_kd k2 = 4) {r : Int32} {S' : sd_St} : ∀ (x3 : Int32) (S : sd_St) (H : Heap) (locs : List Loc) (ls : Array Slot), f_X10_otherBirthday_b24 k0 k1 k2 x3 S = some (r, S') → sd_H D cy ad A s S H locs → lv_has ls 4 [(0, .ref (ad k0)), (3, .int x3)] → W p l e (sd_rm 5) s m args below meth c H locs 0 0 (MQ below (sd_Qi D cy ad A r S') args s 0 0 A) (F0 m 24 ls []) := by
  obtain ⟨hx, hb, -, hml, hown, hts, -, hG⟩ := id C
  intro x3 S H locs ls h X hl
  unfold f_X10_otherBirthday_b24 at h
  refine lv_aload_n hx hb dX10_otherBirthday_24 rfl (lv_at hl 0 rfl) ?_
  refine sd_g10_5 (k := k0) C X hk0 sd_w7_3 dX10_otherBirthday_25 ?_
  refine lv_iload_n hx hb dX10_otherBirthday_28 rfl (lv_at hl 1 rfl) ?_
  obtain ⟨b_1, v_1, e_1, h⟩ := sd_ld_some h
  refine sd_iald C X (sd_k10_28 hk0) b_1 dX10_otherBirthday_29 (sd_nmi e_1 ?_)
  cases h
  exact sd_iret C X dX10_otherBirthday_30
def f_X10_otherBirthday (k0 : Nat) (k1 : Nat) (k2 : Nat) (x3 : Int32) (S : sd_St) : Option (Int32 × sd_St) := sd_ld S (k0 + 28) x3 (fun v_2 => (if v_2 = (-2 : Int32) then sd_cl (f_X10_findOtherBirthday k0 k1 k2 x3 S) (fun r_5 S_4 => sd_st S_4 (k0 + 28) x3 r_5 (fun S_6 => f_X10_otherBirthday_b24 k0 k1 k2 x3 S_6)) else f_X10_otherBirthday_b24 k0 k1 k2 x3 S))
set_option maxHeartbeats 4000000 in
set_option maxRecDepth 100000 in
theorem c_X10_otherBirthday {k0 : Nat} {k1 : Nat} {k2 : Nat} {x3 : Int32} (hk0 : sd_kd k0 = 10) (hk1 : sd_kd k1 = 8) (hk2 : sd_kd k2 = 4) {S S' : sd_St} {r : Int32} (h : f_X10_otherBirthday k0 k1 k2 x3 S = some (r, S')) : Met l yX10_otherBirthday (Cond.code yX10_otherBirthday cX10_otherBirthday 4 (some .int) :: sd_wl) (sd_rm 5) (sd_P D cy ad A b0 [.ref (ad k0), .ref (ad k1), .ref (ad k2), .int x3] S) (sd_Qi D cy ad A r S') 0 0 A := by
  refine sd_met (by decide) (Nat.le_of_ble_eq_true rfl) (fun p e s m args below meth c ls C X hl => ?_)
  obtain ⟨hx, hb, -, hml, hown, hts, -, hG⟩ := id C
  replace C : sd_C RX10 cX10_otherBirthday 4 (some .int) D cy ad A b0 p s m args meth c := C
  replace hl : lv_has ls 4 [(0, .ref (ad k0)), (1, .ref (ad k1)), (2, .ref (ad k2)), (3, .int x3)] := hl
  unfold f_X10_otherBirthday at h
  refine lv_aload_n hx hb dX10_otherBirthday_0 rfl (lv_at hl 0 rfl) ?_
  refine sd_g10_5 (k := k0) C X hk0 sd_w7_3 dX10_otherBirthday_1 ?_
  refine lv_iload_n hx hb dX10_otherBirthday_4 rfl (lv_at hl 3 rfl) ?_
  obtain ⟨b_2, v_2, e_2, h⟩ := sd_ld_some h
  refine sd_iald C X (sd_k10_28 hk0) b_2 dX10_otherBirthday_5 (sd_nmi e_2 ?_)
  refine lv_bipush (v := (-2 : Int32)) hx hb dX10_otherBirthday_6 (by decide) ?_
  refine lv_icmp_ne (tgt := 24) hx hb dX10_otherBirthday_8 (by decide) (fun c_3 => ?_) (fun c_3 => ?_)
  · have h := sd_ifn c_3 h
    exact t_X10_otherBirthday_b24 C hk0 hk1 hk2 x3 S _ _ _ h X (lv_sub hl [0, 3] rfl)
  · have h := sd_ifp c_3 h
    refine lv_aload_n hx hb dX10_otherBirthday_11 rfl (lv_at hl 0 rfl) ?_
    refine sd_g10_5 (k := k0) C X hk0 sd_w7_3 dX10_otherBirthday_12 ?_
    refine lv_iload_n hx hb dX10_otherBirthday_15 rfl (lv_at hl 3 rfl) ?_
    refine lv_aload_n hx hb dX10_otherBirthday_16 rfl (lv_at hl 0 rfl) ?_
    refine lv_aload_n hx hb dX10_otherBirthday_17 rfl (lv_at hl 1 rfl) ?_
    refine lv_aload_n hx hb dX10_otherBirthday_18 rfl (lv_at hl 2 rfl) ?_
    refine lv_iload_n hx hb dX10_otherBirthday_19 rfl (lv_at hl 3 rfl) ?_
    obtain ⟨r_5, S_4, er_5, h⟩ := sd_cl_some h
    refine k_X10_findOtherBirthday C X hl.1 hk0 hk1 hk2 er_5 sd_w46_9 (by decide) (Nat.le_of_ble_eq_true rfl) dX10_otherBirthday_20 (fun H locs X => ?_)
    obtain ⟨bS_6, S_6, eS_6, h⟩ := sd_st_some h
    refine sd_iast C X (sd_k10_28 hk0) bS_6 dX10_otherBirthday_23 (fun H locs X => ?_)
    rw [← eS_6] at X
    exact t_X10_otherBirthday_b24 C hk0 hk1 hk2 x3 S_6 _ _ _ h X (lv_sub hl [0, 3] rfl)
theorem k_X10_otherBirthday (C : sd_C own cc nL rt D cy ad A b0 p s m args meth c) (X : sd_H D cy ad A s S H locs) (hls : ls.size = nL) {k0 : Nat} {k1 : Nat} {k2 : Nat} {x3 : Int32} {S2 : sd_St} {r : Int32} (hk0 : sd_kd k0 = 10) (hk1 : sd_kd k1 = 8) (hk2 : sd_kd k2 = 4) (h : f_X10_otherBirthday k0 k1 k2 x3 S = some (r, S2)) (hlink : Cond.methodLink own index yX10_otherBirthday ∈ sd_wl) (hR : 6 ≤ R.frames ∧ 223 ≤ R.locals ∧ cells ≤ R.cells ∧ slots ≤ R.slots) (hst : (rest.map fun v => v.category).sum ≤ 8) (hdg : decode cc pc = .ok (.invokevirtual index, 3)) (kk : ∀ (H1 : Heap) (locs1 : List Loc), sd_H D cy ad A s S2 H1 locs1 → W p l e R s m args below meth c H1 locs1 cells slots Q (F0 m (pc + 3) ls (.int r :: rest))) : W p l e R s m args below meth c H locs cells slots Q (F0 m pc ls (.int x3 :: .ref (ad k2) :: .ref (ad k1) :: .ref (ad k0) :: rest)) :=
  sd_goI X (sd_runV C X hls (n := 3) (k := k0) (As := [.ref (ad k1), .ref (ad k2), .int x3]) (c_X10_otherBirthday (l := l) (b0 := b0) hk0 hk1 hk2 h) (sd_goodV hlink sd_w46_6 sd_w46_7 sd_w3_4 sd_w46_8) (ci := 10) rfl (by rw [hk0]; decide) (sd_c10 hk0) (by decide +kernel) rfl hR rfl hst hdg) kk
/-! ===== SecretDays.putSigns(J)V ===== -/
def f_X11_putSigns_l3 : Nat → Int64 → Int32 → sd_St → Option (Unit × sd_St)
  | 0 => fun _ _ _ => none
  | n + 1 => fun x1 x3 S => (if x3 < 0 then (some ((), S)) else sd_cl (f_X7_put 13 ((((x1.toUInt64 >>> (x3.toInt64.toUInt64 &&& Int64.toUInt64 63)).toInt64).toInt32) &&& (255 : Int32)) S) (fun _ S_2 => (f_X11_putSigns_l3 n) x1 (x3 + (-8 : Int32)) S_2))
set_option maxHeartbeats 4000000 in
set_option maxRecDepth 100000 in
theorem t_X11_putSigns_l3 (C : sd_C RX11 cX11_putSigns 4 none D cy ad A b0 p s m args meth c) {S' : sd_St} : ∀ (n : Nat) (x1 : Int64) (x3 : Int32) (S : sd_St) (H : Heap) (locs : List Loc) (ls : Array Slot), f_X11_putSigns_l3 n x1 x3 S = some ((), S') → sd_H D cy ad A s S H locs → lv_has ls 4 [(0, .ref (ad 0)), (1, .long x1), (3, .int x3)] → W p l e (sd_rm 1) s m args below meth c H locs 0 0 (MQ below (sd_Qv D cy ad A S') args s 0 0 A) (F0 m 3 ls []) := by
  obtain ⟨hx, hb, -, hml, hown, hts, -, hG⟩ := id C
  intro n
  induction n with
  | zero => intro x1 x3 S H locs ls h; cases h
  | succ n ih =>
    intro x1 x3 S H locs ls h X hl
    unfold f_X11_putSigns_l3 at h
    refine lv_iload_n hx hb dX11_putSigns_3 rfl (lv_at hl 2 rfl) ?_
    refine lv_if_lt (tgt := 31) hx hb dX11_putSigns_4 (by decide) (fun c_1 => ?_) (fun c_1 => ?_)
    · have h := sd_ifp c_1 h
      cases h
      exact sd_vret C X dX11_putSigns_31
    · have h := sd_ifn c_1 h
      refine lv_aload_n hx hb dX11_putSigns_7 rfl (lv_at hl 0 rfl) ?_
      refine sd_g11_0 (k := 0) C X (by decide) sd_w1_16 dX11_putSigns_8 ?_
      refine sd_g9_1 (k := 1) C X (by decide) sd_w9_8 dX11_putSigns_11 ?_
      refine lv_lload_n hx hb dX11_putSigns_14 rfl (lv_at hl 1 rfl) ?_
      refine lv_iload_n hx hb dX11_putSigns_15 rfl (lv_at hl 2 rfl) ?_
      refine lv_lushr (v := (x1.toUInt64 >>> (x3.toInt64.toUInt64 &&& Int64.toUInt64 63)).toInt64) hx hb dX11_putSigns_16 rfl ?_
      refine lv_l2i (v := ((x1.toUInt64 >>> (x3.toInt64.toUInt64 &&& Int64.toUInt64 63)).toInt64).toInt32) hx hb dX11_putSigns_17 rfl ?_
      refine lv_sipush (v := (255 : Int32)) hx hb dX11_putSigns_18 (by decide) ?_
      refine lv_iand hx hb dX11_putSigns_21 ?_
      obtain ⟨r_3, S_2, er_3, h⟩ := sd_cl_some h
      refine k_X7_put C X hl.1 (by decide) er_3 sd_w9_14 (by decide) (Nat.le_of_ble_eq_true rfl) dX11_putSigns_22 (fun H locs X => ?_)
      refine lv_iinc (v := (x3 + (-8 : Int32))) (lv' := [(3, .int (x3 + (-8 : Int32))), (0, .ref (ad 0)), (1, .long x1)]) hx hb dX11_putSigns_25 hl (k := 2) rfl rfl (by decide) rfl (fun ls hl => ?_)
      refine lv_goto (tgt := 3) hx hb dX11_putSigns_28 (by decide) ?_
      exact ih x1 (x3 + (-8 : Int32)) S_2 _ _ _ h X (lv_sub hl [1, 2, 0] rfl)
def f_X11_putSigns (x1 : Int64) (S : sd_St) : Option (Unit × sd_St) := f_X11_putSigns_l3 sd_FU x1 (56 : Int32) S
set_option maxHeartbeats 4000000 in
set_option maxRecDepth 100000 in
theorem c_X11_putSigns {x1 : Int64} {S S' : sd_St} (h : f_X11_putSigns x1 S = some ((), S')) : Met l yX11_putSigns (Cond.code yX11_putSigns cX11_putSigns 4 none :: sd_wl) (sd_rm 1) (sd_P D cy ad A b0 [.ref (ad 0), .long x1] S) (sd_Qv D cy ad A S') 0 0 A := by
  refine sd_met (by decide) (Nat.le_of_ble_eq_true rfl) (fun p e s m args below meth c ls C X hl => ?_)
  obtain ⟨hx, hb, -, hml, hown, hts, -, hG⟩ := id C
  replace C : sd_C RX11 cX11_putSigns 4 none D cy ad A b0 p s m args meth c := C
  replace hl : lv_has ls 4 [(0, .ref (ad 0)), (1, .long x1)] := hl
  unfold f_X11_putSigns at h
  refine lv_bipush (v := (56 : Int32)) hx hb dX11_putSigns_0 (by decide) ?_
  refine lv_istore_n (lv' := [(3, .int (56 : Int32)), (0, .ref (ad 0)), (1, .long x1)]) hx hb dX11_putSigns_2 rfl hl (by decide) rfl (fun ls hl => ?_)
  exact t_X11_putSigns_l3 C sd_FU x1 (56 : Int32) S _ _ _ h X (lv_sub hl [1, 2, 0] rfl)
theorem k_X11_putSigns (C : sd_C own cc nL rt D cy ad A b0 p s m args meth c) (X : sd_H D cy ad A s S H locs) (hls : ls.size = nL) {x1 : Int64} {S2 : sd_St} (h : f_X11_putSigns x1 S = some ((), S2)) (hlink : Cond.methodLink own index yX11_putSigns ∈ sd_wl) (hR : 2 ≤ R.frames ∧ 63 ≤ R.locals ∧ cells ≤ R.cells ∧ slots ≤ R.slots) (hst : (rest.map fun v => v.category).sum ≤ 8) (hdg : decode cc pc = .ok (.invokevirtual index, 3)) (kk : ∀ (H1 : Heap) (locs1 : List Loc), sd_H D cy ad A s S2 H1 locs1 → W p l e R s m args below meth c H1 locs1 cells slots Q (F0 m (pc + 3) ls rest)) : W p l e R s m args below meth c H locs cells slots Q (F0 m pc ls (.long x1 :: .ref (ad 0) :: rest)) :=
  sd_goV X (sd_runV C X hls (n := 1) (k := 0) (As := [.long x1]) (c_X11_putSigns (l := l) (b0 := b0) h) (sd_goodV hlink sd_w9_11 sd_w9_12 sd_w1_2 sd_w9_13) (ci := 11) rfl (by rw [(show sd_kd 0 = 11 by decide)]; decide) (sd_c11 (show sd_kd 0 = 11 by decide)) (by decide +kernel) rfl hR rfl hst hdg) kk
/-! ===== SecretDays.feed(JJJ)I ===== -/
def f_X11_feed (x1 : Int64) (x3 : Int64) (x5 : Int64) (S : sd_St) : Option (Int32 × sd_St) := sd_cl (f_X11_putSigns x1 S) (fun _ S_1 => sd_cl (f_X11_putSigns x3 S_1) (fun _ S_3 => sd_cl (f_X11_putSigns x5 S_3) (fun _ S_5 => (some ((S_5.1 13 1), S_5)))))
set_option maxHeartbeats 4000000 in
set_option maxRecDepth 100000 in
theorem c_X11_feed {x1 : Int64} {x3 : Int64} {x5 : Int64} {S S' : sd_St} {r : Int32} (h : f_X11_feed x1 x3 x5 S = some (r, S')) : Met l yX11_feed (Cond.code yX11_feed cX11_feed 7 (some .int) :: sd_wl) (sd_rm 2) (sd_P D cy ad A b0 [.ref (ad 0), .long x1, .long x3, .long x5] S) (sd_Qi D cy ad A r S') 0 0 A := by
  refine sd_met (by decide) (Nat.le_of_ble_eq_true rfl) (fun p e s m args below meth c ls C X hl => ?_)
  obtain ⟨hx, hb, -, hml, hown, hts, -, hG⟩ := id C
  replace C : sd_C RX11 cX11_feed 7 (some .int) D cy ad A b0 p s m args meth c := C
  replace hl : lv_has ls 7 [(0, .ref (ad 0)), (1, .long x1), (3, .long x3), (5, .long x5)] := hl
  unfold f_X11_feed at h
  refine lv_aload_n hx hb dX11_feed_0 rfl (lv_at hl 0 rfl) ?_
  refine lv_lload_n hx hb dX11_feed_1 rfl (lv_at hl 1 rfl) ?_
  obtain ⟨r_2, S_1, er_2, h⟩ := sd_cl_some h
  refine k_X11_putSigns C X hl.1 er_2 sd_w9_10 (by decide) (Nat.le_of_ble_eq_true rfl) dX11_feed_2 (fun H locs X => ?_)
  refine lv_aload_n hx hb dX11_feed_5 rfl (lv_at hl 0 rfl) ?_
  refine lv_lload_n hx hb dX11_feed_6 rfl (lv_at hl 2 rfl) ?_
  obtain ⟨r_4, S_3, er_4, h⟩ := sd_cl_some h
  refine k_X11_putSigns C X hl.1 er_4 sd_w9_10 (by decide) (Nat.le_of_ble_eq_true rfl) dX11_feed_7 (fun H locs X => ?_)
  refine lv_aload_n hx hb dX11_feed_10 rfl (lv_at hl 0 rfl) ?_
  refine lv_lload hx hb dX11_feed_11 (lv_at hl 3 rfl) ?_
  obtain ⟨r_6, S_5, er_6, h⟩ := sd_cl_some h
  refine k_X11_putSigns C X hl.1 er_6 sd_w9_10 (by decide) (Nat.le_of_ble_eq_true rfl) dX11_feed_13 (fun H locs X => ?_)
  refine lv_aload_n hx hb dX11_feed_16 rfl (lv_at hl 0 rfl) ?_
  refine sd_g11_0 (k := 0) C X (by decide) sd_w1_16 dX11_feed_17 ?_
  refine sd_g9_1 (k := 1) C X (by decide) sd_w9_8 dX11_feed_20 ?_
  refine sd_g7_1 C X (by decide) sd_w9_9 dX11_feed_23 ?_
  cases h
  exact sd_iret C X dX11_feed_26
theorem k_X11_feed (C : sd_C own cc nL rt D cy ad A b0 p s m args meth c) (X : sd_H D cy ad A s S H locs) (hls : ls.size = nL) {x1 : Int64} {x3 : Int64} {x5 : Int64} {S2 : sd_St} {r : Int32} (h : f_X11_feed x1 x3 x5 S = some (r, S2)) (hlink : Cond.methodLink own index yX11_feed ∈ sd_wl) (hR : 3 ≤ R.frames ∧ 106 ≤ R.locals ∧ cells ≤ R.cells ∧ slots ≤ R.slots) (hst : (rest.map fun v => v.category).sum ≤ 8) (hdg : decode cc pc = .ok (.invokevirtual index, 3)) (kk : ∀ (H1 : Heap) (locs1 : List Loc), sd_H D cy ad A s S2 H1 locs1 → W p l e R s m args below meth c H1 locs1 cells slots Q (F0 m (pc + 3) ls (.int r :: rest))) : W p l e R s m args below meth c H locs cells slots Q (F0 m pc ls (.long x5 :: .long x3 :: .long x1 :: .ref (ad 0) :: rest)) :=
  sd_goI X (sd_runV C X hls (n := 3) (k := 0) (As := [.long x1, .long x3, .long x5]) (c_X11_feed (l := l) (b0 := b0) h) (sd_goodV hlink sd_w9_5 sd_w9_6 sd_w1_2 sd_w9_7) (ci := 11) rfl (by rw [(show sd_kd 0 = 11 by decide)]; decide) (sd_c11 (show sd_kd 0 = 11 by decide)) (by decide +kernel) rfl hR rfl hst hdg) kk
/-! ===== SecretDays.forgetWorkedOut()V ===== -/
def f_X11_forgetWorkedOut (S : sd_St) : Option (Unit × sd_St) := sd_nm (sd_I S 0 11 (0 : Int32)) (fun S_1 => sd_cl (f_X10_forget 101 S_1) (fun _ S_2 => (some ((), S_2))))
set_option maxHeartbeats 4000000 in
set_option maxRecDepth 100000 in
theorem c_X11_forgetWorkedOut {S S' : sd_St} (h : f_X11_forgetWorkedOut S = some ((), S')) : Met l yX11_forgetWorkedOut (Cond.code yX11_forgetWorkedOut cX11_forgetWorkedOut 1 none :: sd_wl) (sd_rm 2) (sd_P D cy ad A b0 [.ref (ad 0)] S) (sd_Qv D cy ad A S') 0 0 A := by
  refine sd_met (by decide) (Nat.le_of_ble_eq_true rfl) (fun p e s m args below meth c ls C X hl => ?_)
  obtain ⟨hx, hb, -, hml, hown, hts, -, hG⟩ := id C
  replace C : sd_C RX11 cX11_forgetWorkedOut 1 none D cy ad A b0 p s m args meth c := C
  replace hl : lv_has ls 1 [(0, .ref (ad 0))] := hl
  unfold f_X11_forgetWorkedOut at h
  refine lv_aload_n hx hb dX11_forgetWorkedOut_0 rfl (lv_at hl 0 rfl) ?_
  refine lv_iconst (v := (0 : Int32)) hx hb dX11_forgetWorkedOut_1 (by decide) ?_
  obtain ⟨S_1, eS_1, h⟩ := sd_nm_some h
  refine sd_p11_11 C X (by decide) (by decide) sd_w18_10 dX11_forgetWorkedOut_2 (fun H locs X => ?_)
  rw [← eS_1] at X
  refine lv_aload_n hx hb dX11_forgetWorkedOut_5 rfl (lv_at hl 0 rfl) ?_
  refine sd_g11_10 (k := 0) C X (by decide) sd_w3_5 dX11_forgetWorkedOut_6 ?_
  obtain ⟨r_3, S_2, er_3, h⟩ := sd_cl_some h
  refine k_X10_forget C X hl.1 (by decide) er_3 sd_w18_11 (by decide) (Nat.le_of_ble_eq_true rfl) dX11_forgetWorkedOut_9 (fun H locs X => ?_)
  cases h
  exact sd_vret C X dX11_forgetWorkedOut_12
theorem k_X11_forgetWorkedOut (C : sd_C own cc nL rt D cy ad A b0 p s m args meth c) (X : sd_H D cy ad A s S H locs) (hls : ls.size = nL) {S2 : sd_St} (h : f_X11_forgetWorkedOut S = some ((), S2)) (hlink : Cond.methodLink own index yX11_forgetWorkedOut ∈ sd_wl) (hR : 3 ≤ R.frames ∧ 100 ≤ R.locals ∧ cells ≤ R.cells ∧ slots ≤ R.slots) (hst : (rest.map fun v => v.category).sum ≤ 8) (hdg : decode cc pc = .ok (.invokevirtual index, 3)) (kk : ∀ (H1 : Heap) (locs1 : List Loc), sd_H D cy ad A s S2 H1 locs1 → W p l e R s m args below meth c H1 locs1 cells slots Q (F0 m (pc + 3) ls rest)) : W p l e R s m args below meth c H locs cells slots Q (F0 m pc ls (.ref (ad 0) :: rest)) :=
  sd_goV X (sd_runV C X hls (n := 0) (k := 0) (As := []) (c_X11_forgetWorkedOut (l := l) (b0 := b0) h) (sd_goodV hlink sd_w18_7 sd_w18_8 sd_w1_2 sd_w18_9) (ci := 11) rfl (by rw [(show sd_kd 0 = 11 by decide)]; decide) (sd_c11 (show sd_kd 0 = 11 by decide)) (by decide +kernel) rfl hR rfl hst hdg) kk
/-! ===== SecretDays.town()I ===== -/
def f_X11_town (S : sd_St) : Option (Int32 × sd_St) := sd_cl (f_X9_readTape 1 S) (fun r_2 S_1 => (if r_2 = 0 then sd_cl (f_X8_copyFrom 17 2 S_1) (fun _ S_4 => sd_cl (f_X4_wipe 72 S_4) (fun _ S_6 => sd_cl (f_X3_wipe 77 S_6) (fun _ S_8 => sd_cl (f_X11_forgetWorkedOut S_8) (fun _ S_10 => (some (r_2, S_10)))))) else (some (r_2, S_1))))
set_option maxHeartbeats 4000000 in
set_option maxRecDepth 100000 in
theorem c_X11_town {S S' : sd_St} {r : Int32} (h : f_X11_town S = some (r, S')) : Met l yX11_town (Cond.code yX11_town cX11_town 2 (some .int) :: sd_wl) (sd_rm 7) (sd_P D cy ad A b0 [.ref (ad 0)] S) (sd_Qi D cy ad A r S') 0 0 A := by
  refine sd_met (by decide) (Nat.le_of_ble_eq_true rfl) (fun p e s m args below meth c ls C X hl => ?_)
  obtain ⟨hx, hb, -, hml, hown, hts, -, hG⟩ := id C
  replace C : sd_C RX11 cX11_town 2 (some .int) D cy ad A b0 p s m args meth c := C
  replace hl : lv_has ls 2 [(0, .ref (ad 0))] := hl
  unfold f_X11_town at h
  refine lv_aload_n hx hb dX11_town_0 rfl (lv_at hl 0 rfl) ?_
  refine sd_g11_0 (k := 0) C X (by decide) sd_w1_16 dX11_town_1 ?_
  obtain ⟨r_2, S_1, er_2, h⟩ := sd_cl_some h
  refine k_X9_readTape C X hl.1 (by decide) er_2 sd_w10_9 (by decide) (Nat.le_of_ble_eq_true rfl) dX11_town_4 (fun H locs X => ?_)
  refine lv_istore_n (lv' := [(1, .int r_2), (0, .ref (ad 0))]) hx hb dX11_town_7 rfl hl (by decide) rfl (fun ls hl => ?_)
  refine lv_iload_n hx hb dX11_town_8 rfl (lv_at hl 0 rfl) ?_
  refine lv_if_ne (tgt := 44) hx hb dX11_town_9 (by decide) (fun c_3 => ?_) (fun c_3 => ?_)
  · have h := sd_ifn c_3 h
    refine lv_iload_n hx hb dX11_town_44 rfl (lv_at hl 0 rfl) ?_
    cases h
    exact sd_iret C X dX11_town_45
  · have h := sd_ifp c_3 h
    refine lv_aload_n hx hb dX11_town_12 rfl (lv_at hl 1 rfl) ?_
    refine sd_g11_1 (k := 0) C X (by decide) sd_w1_20 dX11_town_13 ?_
    refine lv_aload_n hx hb dX11_town_16 rfl (lv_at hl 1 rfl) ?_
    refine sd_g11_0 (k := 0) C X (by decide) sd_w1_16 dX11_town_17 ?_
    refine sd_g9_0 (k := 1) C X (by decide) sd_w10_8 dX11_town_20 ?_
    obtain ⟨r_5, S_4, er_5, h⟩ := sd_cl_some h
    refine k_X8_copyFrom C X hl.1 (by decide) (by decide) er_5 sd_w17_13 (by decide) (Nat.le_of_ble_eq_true rfl) dX11_town_23 (fun H locs X => ?_)
    refine lv_aload_n hx hb dX11_town_26 rfl (lv_at hl 1 rfl) ?_
    refine sd_g11_8 (k := 0) C X (by decide) sd_w2_21 dX11_town_27 ?_
    obtain ⟨r_7, S_6, er_7, h⟩ := sd_cl_some h
    refine k_X4_wipe C X hl.1 (by decide) er_7 sd_w17_21 (by decide) (Nat.le_of_ble_eq_true rfl) dX11_town_30 (fun H locs X => ?_)
    refine lv_aload_n hx hb dX11_town_33 rfl (lv_at hl 1 rfl) ?_
    refine sd_g11_9 (k := 0) C X (by decide) sd_w3_1 dX11_town_34 ?_
    obtain ⟨r_9, S_8, er_9, h⟩ := sd_cl_some h
    refine k_X3_wipe C X hl.1 (by decide) er_9 sd_w18_2 (by decide) (Nat.le_of_ble_eq_true rfl) dX11_town_37 (fun H locs X => ?_)
    refine lv_aload_n hx hb dX11_town_40 rfl (lv_at hl 1 rfl) ?_
    obtain ⟨r_11, S_10, er_11, h⟩ := sd_cl_some h
    refine k_X11_forgetWorkedOut C X hl.1 er_11 sd_w18_6 (by decide) (Nat.le_of_ble_eq_true rfl) dX11_town_41 (fun H locs X => ?_)
    refine lv_iload_n hx hb dX11_town_44 rfl (lv_at hl 0 rfl) ?_
    cases h
    exact sd_iret C X dX11_town_45
theorem k_X11_town (C : sd_C own cc nL rt D cy ad A b0 p s m args meth c) (X : sd_H D cy ad A s S H locs) (hls : ls.size = nL) {S2 : sd_St} {r : Int32} (h : f_X11_town S = some (r, S2)) (hlink : Cond.methodLink own index yX11_town ∈ sd_wl) (hR : 8 ≤ R.frames ∧ 301 ≤ R.locals ∧ cells ≤ R.cells ∧ slots ≤ R.slots) (hst : (rest.map fun v => v.category).sum ≤ 8) (hdg : decode cc pc = .ok (.invokevirtual index, 3)) (kk : ∀ (H1 : Heap) (locs1 : List Loc), sd_H D cy ad A s S2 H1 locs1 → W p l e R s m args below meth c H1 locs1 cells slots Q (F0 m (pc + 3) ls (.int r :: rest))) : W p l e R s m args below meth c H locs cells slots Q (F0 m pc ls (.ref (ad 0) :: rest)) :=
  sd_goI X (sd_runV C X hls (n := 0) (k := 0) (As := []) (c_X11_town (l := l) (b0 := b0) h) (sd_goodV hlink sd_w10_5 sd_w10_6 sd_w1_2 sd_w10_7) (ci := 11) rfl (by rw [(show sd_kd 0 = 11 by decide)]; decide) (sd_c11 (show sd_kd 0 = 11 by decide)) (by decide +kernel) rfl hR rfl hst hdg) kk
/-! ===== SecretDays.law(Z)Z ===== -/
def f_X11_law (x1 : Int32) (S : sd_St) : Option (Int32 × sd_St) := sd_ckz x1 (sd_nm (sd_I S 17 15 x1) (fun S_2 => sd_cl (f_X11_forgetWorkedOut S_2) (fun _ S_3 => (some ((1 : Int32), S_3)))))
set_option maxHeartbeats 4000000 in
set_option maxRecDepth 100000 in
theorem c_X11_law {x1 : Int32} {S S' : sd_St} {r : Int32} (h : f_X11_law x1 S = some (r, S')) : Met l yX11_law (Cond.code yX11_law cX11_law 2 (some .boolean) :: sd_wl) (sd_rm 3) (sd_P D cy ad A b0 [.ref (ad 0), .int x1] S) (sd_Qi D cy ad A r S') 0 0 A := by
  refine sd_met (by decide) (Nat.le_of_ble_eq_true rfl) (fun p e s m args below meth c ls C X hl => ?_)
  obtain ⟨hx, hb, -, hml, hown, hts, -, hG⟩ := id C
  replace C : sd_C RX11 cX11_law 2 (some .boolean) D cy ad A b0 p s m args meth c := C
  replace hl : lv_has ls 2 [(0, .ref (ad 0)), (1, .int x1)] := hl
  unfold f_X11_law at h
  refine lv_aload_n hx hb dX11_law_0 rfl (lv_at hl 0 rfl) ?_
  refine sd_g11_1 (k := 0) C X (by decide) sd_w1_20 dX11_law_1 ?_
  refine lv_iload_n hx hb dX11_law_4 rfl (lv_at hl 1 rfl) ?_
  obtain ⟨z_1, h⟩ := sd_ckz_some h
  obtain ⟨S_2, eS_2, h⟩ := sd_nm_some h
  refine sd_p8_15 C X z_1 (by decide) sd_w23_15 dX11_law_5 (fun H locs X => ?_)
  rw [← eS_2] at X
  refine lv_aload_n hx hb dX11_law_8 rfl (lv_at hl 0 rfl) ?_
  obtain ⟨r_4, S_3, er_4, h⟩ := sd_cl_some h
  refine k_X11_forgetWorkedOut C X hl.1 er_4 sd_w18_6 (by decide) (Nat.le_of_ble_eq_true rfl) dX11_law_9 (fun H locs X => ?_)
  refine lv_iconst (v := (1 : Int32)) hx hb dX11_law_12 (by decide) ?_
  cases h
  exact sd_zret C X (by decide) dX11_law_13
theorem k_X11_law (C : sd_C own cc nL rt D cy ad A b0 p s m args meth c) (X : sd_H D cy ad A s S H locs) (hls : ls.size = nL) {x1 : Int32} {S2 : sd_St} {r : Int32} (h : f_X11_law x1 S = some (r, S2)) (hlink : Cond.methodLink own index yX11_law ∈ sd_wl) (hR : 4 ≤ R.frames ∧ 141 ≤ R.locals ∧ cells ≤ R.cells ∧ slots ≤ R.slots) (hst : (rest.map fun v => v.category).sum ≤ 8) (hdg : decode cc pc = .ok (.invokevirtual index, 3)) (kk : ∀ (H1 : Heap) (locs1 : List Loc), sd_H D cy ad A s S2 H1 locs1 → W p l e R s m args below meth c H1 locs1 cells slots Q (F0 m (pc + 3) ls (.int r :: rest))) : W p l e R s m args below meth c H locs cells slots Q (F0 m pc ls (.int x1 :: .ref (ad 0) :: rest)) :=
  sd_goI X (sd_runV C X hls (n := 1) (k := 0) (As := [.int x1]) (c_X11_law (l := l) (b0 := b0) h) (sd_goodV hlink sd_w23_12 sd_w23_13 sd_w1_2 sd_w23_14) (ci := 11) rfl (by rw [(show sd_kd 0 = 11 by decide)]; decide) (sd_c11 (show sd_kd 0 = 11 by decide)) (by decide +kernel) rfl hR rfl hst hdg) kk
/-! ===== SecretDays.isPerson(I)Z ===== -/
def f_X11_isPerson (x1 : Int32) (S : sd_St) : Option (Int32 × sd_St) := (if x1 < 0 then (some ((0 : Int32), S)) else (if (S.1 17 0) ≤ x1 then (some ((0 : Int32), S)) else (some ((1 : Int32), S))))
set_option maxHeartbeats 4000000 in
set_option maxRecDepth 100000 in
theorem c_X11_isPerson {x1 : Int32} {S S' : sd_St} {r : Int32} (h : f_X11_isPerson x1 S = some (r, S')) : Met l yX11_isPerson (Cond.code yX11_isPerson cX11_isPerson 2 (some .boolean) :: sd_wl) (sd_rm 0) (sd_P D cy ad A b0 [.ref (ad 0), .int x1] S) (sd_Qi D cy ad A r S') 0 0 A := by
  refine sd_met (by decide) (Nat.le_of_ble_eq_true rfl) (fun p e s m args below meth c ls C X hl => ?_)
  obtain ⟨hx, hb, -, hml, hown, hts, -, hG⟩ := id C
  replace C : sd_C RX11 cX11_isPerson 2 (some .boolean) D cy ad A b0 p s m args meth c := C
  replace hl : lv_has ls 2 [(0, .ref (ad 0)), (1, .int x1)] := hl
  unfold f_X11_isPerson at h
  refine lv_iload_n hx hb dX11_isPerson_0 rfl (lv_at hl 1 rfl) ?_
  refine lv_if_lt (tgt := 19) hx hb dX11_isPerson_1 (by decide) (fun c_1 => ?_) (fun c_1 => ?_)
  · have h := sd_ifp c_1 h
    refine lv_iconst (v := (0 : Int32)) hx hb dX11_isPerson_19 (by decide) ?_
    cases h
    exact sd_zret C X (by decide) dX11_isPerson_20
  · have h := sd_ifn c_1 h
    refine lv_iload_n hx hb dX11_isPerson_4 rfl (lv_at hl 1 rfl) ?_
    refine lv_aload_n hx hb dX11_isPerson_5 rfl (lv_at hl 0 rfl) ?_
    refine sd_g11_1 (k := 0) C X (by decide) sd_w1_20 dX11_isPerson_6 ?_
    refine sd_g8_0 C X (by decide) sd_w24_9 dX11_isPerson_9 ?_
    refine lv_icmp_ge (tgt := 19) hx hb dX11_isPerson_12 (by decide) (fun c_2 => ?_) (fun c_2 => ?_)
    · have h := sd_ifp c_2 h
      refine lv_iconst (v := (0 : Int32)) hx hb dX11_isPerson_19 (by decide) ?_
      cases h
      exact sd_zret C X (by decide) dX11_isPerson_20
    · have h := sd_ifn c_2 h
      refine lv_iconst (v := (1 : Int32)) hx hb dX11_isPerson_15 (by decide) ?_
      refine lv_goto (tgt := 20) hx hb dX11_isPerson_16 (by decide) ?_
      cases h
      exact sd_zret C X (by decide) dX11_isPerson_20
theorem k_X11_isPerson (C : sd_C own cc nL rt D cy ad A b0 p s m args meth c) (X : sd_H D cy ad A s S H locs) (hls : ls.size = nL) {x1 : Int32} {S2 : sd_St} {r : Int32} (h : f_X11_isPerson x1 S = some (r, S2)) (hlink : Cond.methodLink own index yX11_isPerson ∈ sd_wl) (hR : 1 ≤ R.frames ∧ 21 ≤ R.locals ∧ cells ≤ R.cells ∧ slots ≤ R.slots) (hst : (rest.map fun v => v.category).sum ≤ 8) (hdg : decode cc pc = .ok (.invokevirtual index, 3)) (kk : ∀ (H1 : Heap) (locs1 : List Loc), sd_H D cy ad A s S2 H1 locs1 → W p l e R s m args below meth c H1 locs1 cells slots Q (F0 m (pc + 3) ls (.int r :: rest))) : W p l e R s m args below meth c H locs cells slots Q (F0 m pc ls (.int x1 :: .ref (ad 0) :: rest)) :=
  sd_goI X (sd_runV C X hls (n := 1) (k := 0) (As := [.int x1]) (c_X11_isPerson (l := l) (b0 := b0) h) (sd_goodV hlink sd_w24_6 sd_w24_7 sd_w1_2 sd_w24_8) (ci := 11) rfl (by rw [(show sd_kd 0 = 11 by decide)]; decide) (sd_c11 (show sd_kd 0 = 11 by decide)) (by decide +kernel) rfl hR rfl hst hdg) kk
/-! ===== SecretDays.person(II)I ===== -/
def f_X11_person (x1 : Int32) (x2 : Int32) (S : sd_St) : Option (Int32 × sd_St) := sd_cl (f_X11_isPerson x1 S) (fun r_2 S_1 => (if r_2 = 0 then (some ((-1 : Int32), S_1)) else (if x2 = (0 : Int32) then sd_ld S_1 18 x1 (fun v_5 => (some (v_5, S_1))) else (if x2 = (1 : Int32) then sd_ld S_1 19 x1 (fun v_7 => (some (v_7, S_1))) else (if x2 = (2 : Int32) then sd_ld S_1 20 x1 (fun v_9 => (some (v_9, S_1))) else (if x2 = (3 : Int32) then sd_ld S_1 21 x1 (fun v_11 => (some (v_11, S_1))) else (if x2 = (4 : Int32) then sd_ld S_1 22 x1 (fun v_13 => (some (v_13, S_1))) else (some ((-1 : Int32), S_1)))))))))
set_option maxHeartbeats 4000000 in
set_option maxRecDepth 100000 in
theorem c_X11_person {x1 : Int32} {x2 : Int32} {S S' : sd_St} {r : Int32} (h : f_X11_person x1 x2 S = some (r, S')) : Met l yX11_person (Cond.code yX11_person cX11_person 3 (some .int) :: sd_wl) (sd_rm 1) (sd_P D cy ad A b0 [.ref (ad 0), .int x1, .int x2] S) (sd_Qi D cy ad A r S') 0 0 A := by
  refine sd_met (by decide) (Nat.le_of_ble_eq_true rfl) (fun p e s m args below meth c ls C X hl => ?_)
  obtain ⟨hx, hb, -, hml, hown, hts, -, hG⟩ := id C
  replace C : sd_C RX11 cX11_person 3 (some .int) D cy ad A b0 p s m args meth c := C
  replace hl : lv_has ls 3 [(0, .ref (ad 0)), (1, .int x1), (2, .int x2)] := hl
  unfold f_X11_person at h
  refine lv_aload_n hx hb dX11_person_0 rfl (lv_at hl 0 rfl) ?_
  refine lv_iload_n hx hb dX11_person_1 rfl (lv_at hl 1 rfl) ?_
  obtain ⟨r_2, S_1, er_2, h⟩ := sd_cl_some h
  refine k_X11_isPerson C X hl.1 er_2 sd_w24_5 (by decide) (Nat.le_of_ble_eq_true rfl) dX11_person_2 (fun H locs X => ?_)
  refine lv_if_ne (tgt := 10) hx hb dX11_person_5 (by decide) (fun c_3 => ?_) (fun c_3 => ?_)
  · have h := sd_ifn c_3 h
    refine lv_iload_n hx hb dX11_person_10 rfl (lv_at hl 2 rfl) ?_
    by_cases c_4 : x2 = (0 : Int32)
    · have h := sd_ifp c_4 h
      refine lv_tableIn (tgt := 44) hx hb dX11_person_11 (by rw [c_4]; decide) (by rw [c_4]; decide) (by rw [c_4]; rfl) (by decide) ?_
      refine lv_aload_n hx hb dX11_person_44 rfl (lv_at hl 0 rfl) ?_
      refine sd_g11_1 (k := 0) C X (by decide) sd_w1_20 dX11_person_45 ?_
      refine sd_g8_1 (k := 17) C X (by decide) sd_w24_0 dX11_person_48 ?_
      refine lv_iload_n hx hb dX11_person_51 rfl (lv_at hl 1 rfl) ?_
      obtain ⟨b_5, v_5, e_5, h⟩ := sd_ld_some h
      refine sd_iald C X (by decide) b_5 dX11_person_52 (sd_nmi e_5 ?_)
      cases h
      exact sd_iret C X dX11_person_53
    have h := sd_ifn c_4 h
    by_cases c_6 : x2 = (1 : Int32)
    · have h := sd_ifp c_6 h
      refine lv_tableIn (tgt := 54) hx hb dX11_person_11 (by rw [c_6]; decide) (by rw [c_6]; decide) (by rw [c_6]; rfl) (by decide) ?_
      refine lv_aload_n hx hb dX11_person_54 rfl (lv_at hl 0 rfl) ?_
      refine sd_g11_1 (k := 0) C X (by decide) sd_w1_20 dX11_person_55 ?_
      refine sd_g8_2 (k := 17) C X (by decide) sd_w24_1 dX11_person_58 ?_
      refine lv_iload_n hx hb dX11_person_61 rfl (lv_at hl 1 rfl) ?_
      obtain ⟨b_7, v_7, e_7, h⟩ := sd_ld_some h
      refine sd_iald C X (by decide) b_7 dX11_person_62 (sd_nmi e_7 ?_)
      cases h
      exact sd_iret C X dX11_person_63
    have h := sd_ifn c_6 h
    by_cases c_8 : x2 = (2 : Int32)
    · have h := sd_ifp c_8 h
      refine lv_tableIn (tgt := 64) hx hb dX11_person_11 (by rw [c_8]; decide) (by rw [c_8]; decide) (by rw [c_8]; rfl) (by decide) ?_
      refine lv_aload_n hx hb dX11_person_64 rfl (lv_at hl 0 rfl) ?_
      refine sd_g11_1 (k := 0) C X (by decide) sd_w1_20 dX11_person_65 ?_
      refine sd_g8_3 (k := 17) C X (by decide) sd_w24_2 dX11_person_68 ?_
      refine lv_iload_n hx hb dX11_person_71 rfl (lv_at hl 1 rfl) ?_
      obtain ⟨b_9, v_9, e_9, h⟩ := sd_ld_some h
      refine sd_iald C X (by decide) b_9 dX11_person_72 (sd_nmi e_9 ?_)
      cases h
      exact sd_iret C X dX11_person_73
    have h := sd_ifn c_8 h
    by_cases c_10 : x2 = (3 : Int32)
    · have h := sd_ifp c_10 h
      refine lv_tableIn (tgt := 74) hx hb dX11_person_11 (by rw [c_10]; decide) (by rw [c_10]; decide) (by rw [c_10]; rfl) (by decide) ?_
      refine lv_aload_n hx hb dX11_person_74 rfl (lv_at hl 0 rfl) ?_
      refine sd_g11_1 (k := 0) C X (by decide) sd_w1_20 dX11_person_75 ?_
      refine sd_g8_4 (k := 17) C X (by decide) sd_w24_3 dX11_person_78 ?_
      refine lv_iload_n hx hb dX11_person_81 rfl (lv_at hl 1 rfl) ?_
      obtain ⟨b_11, v_11, e_11, h⟩ := sd_ld_some h
      refine sd_iald C X (by decide) b_11 dX11_person_82 (sd_nmi e_11 ?_)
      cases h
      exact sd_iret C X dX11_person_83
    have h := sd_ifn c_10 h
    by_cases c_12 : x2 = (4 : Int32)
    · have h := sd_ifp c_12 h
      refine lv_tableIn (tgt := 84) hx hb dX11_person_11 (by rw [c_12]; decide) (by rw [c_12]; decide) (by rw [c_12]; rfl) (by decide) ?_
      refine lv_aload_n hx hb dX11_person_84 rfl (lv_at hl 0 rfl) ?_
      refine sd_g11_1 (k := 0) C X (by decide) sd_w1_20 dX11_person_85 ?_
      refine sd_g8_5 (k := 17) C X (by decide) sd_w24_4 dX11_person_88 ?_
      refine lv_iload_n hx hb dX11_person_91 rfl (lv_at hl 1 rfl) ?_
      obtain ⟨b_13, v_13, e_13, h⟩ := sd_ld_some h
      refine sd_iald C X (by decide) b_13 dX11_person_92 (sd_nmi e_13 ?_)
      cases h
      exact sd_iret C X dX11_person_93
    have h := sd_ifn c_12 h
    refine lv_tableOut (tgt := 94) hx hb dX11_person_11 (sd_swo5 c_4 c_6 c_8 c_10 c_12) (by decide) ?_
    refine lv_iconst (v := (-1 : Int32)) hx hb dX11_person_94 (by decide) ?_
    cases h
    exact sd_iret C X dX11_person_95
  · have h := sd_ifp c_3 h
    refine lv_iconst (v := (-1 : Int32)) hx hb dX11_person_8 (by decide) ?_
    cases h
    exact sd_iret C X dX11_person_9
theorem k_X11_person (C : sd_C own cc nL rt D cy ad A b0 p s m args meth c) (X : sd_H D cy ad A s S H locs) (hls : ls.size = nL) {x1 : Int32} {x2 : Int32} {S2 : sd_St} {r : Int32} (h : f_X11_person x1 x2 S = some (r, S2)) (hlink : Cond.methodLink own index yX11_person ∈ sd_wl) (hR : 2 ≤ R.frames ∧ 62 ≤ R.locals ∧ cells ≤ R.cells ∧ slots ≤ R.slots) (hst : (rest.map fun v => v.category).sum ≤ 8) (hdg : decode cc pc = .ok (.invokevirtual index, 3)) (kk : ∀ (H1 : Heap) (locs1 : List Loc), sd_H D cy ad A s S2 H1 locs1 → W p l e R s m args below meth c H1 locs1 cells slots Q (F0 m (pc + 3) ls (.int r :: rest))) : W p l e R s m args below meth c H locs cells slots Q (F0 m pc ls (.int x2 :: .int x1 :: .ref (ad 0) :: rest)) :=
  sd_goI X (sd_runV C X hls (n := 2) (k := 0) (As := [.int x1, .int x2]) (c_X11_person (l := l) (b0 := b0) h) (sd_goodV hlink sd_w23_21 sd_w23_22 sd_w1_2 sd_w23_23) (ci := 11) rfl (by rw [(show sd_kd 0 = 11 by decide)]; decide) (sd_c11 (show sd_kd 0 = 11 by decide)) (by decide +kernel) rfl hR rfl hst hdg) kk
/-! ===== SecretDays.date(II)I ===== -/
def f_X11_date (x1 : Int32) (x2 : Int32) (S : sd_St) : Option (Int32 × sd_St) := (if x1 < 0 then (some ((-1 : Int32), S)) else (if (12 : Int32) ≤ x1 then (some ((-1 : Int32), S)) else (if x2 < 0 then (some ((-1 : Int32), S)) else (if x2 < (366 : Int32) then sd_cl (f_X8_hasDay 17 x1 x2 S) (fun r_6 S_5 => (if r_6 = 0 then (some ((-1 : Int32), S_5)) else (some (((x1 * (366 : Int32)) + x2), S_5)))) else (some ((-1 : Int32), S))))))
set_option maxHeartbeats 4000000 in
set_option maxRecDepth 100000 in
theorem c_X11_date {x1 : Int32} {x2 : Int32} {S S' : sd_St} {r : Int32} (h : f_X11_date x1 x2 S = some (r, S')) : Met l yX11_date (Cond.code yX11_date cX11_date 3 (some .int) :: sd_wl) (sd_rm 1) (sd_P D cy ad A b0 [.ref (ad 0), .int x1, .int x2] S) (sd_Qi D cy ad A r S') 0 0 A := by
  refine sd_met (by decide) (Nat.le_of_ble_eq_true rfl) (fun p e s m args below meth c ls C X hl => ?_)
  obtain ⟨hx, hb, -, hml, hown, hts, -, hG⟩ := id C
  replace C : sd_C RX11 cX11_date 3 (some .int) D cy ad A b0 p s m args meth c := C
  replace hl : lv_has ls 3 [(0, .ref (ad 0)), (1, .int x1), (2, .int x2)] := hl
  unfold f_X11_date at h
  refine lv_iload_n hx hb dX11_date_0 rfl (lv_at hl 1 rfl) ?_
  refine lv_if_lt (tgt := 21) hx hb dX11_date_1 (by decide) (fun c_1 => ?_) (fun c_1 => ?_)
  · have h := sd_ifp c_1 h
    refine lv_iconst (v := (-1 : Int32)) hx hb dX11_date_21 (by decide) ?_
    cases h
    exact sd_iret C X dX11_date_22
  · have h := sd_ifn c_1 h
    refine lv_iload_n hx hb dX11_date_4 rfl (lv_at hl 1 rfl) ?_
    refine lv_bipush (v := (12 : Int32)) hx hb dX11_date_5 (by decide) ?_
    refine lv_icmp_ge (tgt := 21) hx hb dX11_date_7 (by decide) (fun c_2 => ?_) (fun c_2 => ?_)
    · have h := sd_ifp c_2 h
      refine lv_iconst (v := (-1 : Int32)) hx hb dX11_date_21 (by decide) ?_
      cases h
      exact sd_iret C X dX11_date_22
    · have h := sd_ifn c_2 h
      refine lv_iload_n hx hb dX11_date_10 rfl (lv_at hl 2 rfl) ?_
      refine lv_if_lt (tgt := 21) hx hb dX11_date_11 (by decide) (fun c_3 => ?_) (fun c_3 => ?_)
      · have h := sd_ifp c_3 h
        refine lv_iconst (v := (-1 : Int32)) hx hb dX11_date_21 (by decide) ?_
        cases h
        exact sd_iret C X dX11_date_22
      · have h := sd_ifn c_3 h
        refine lv_iload_n hx hb dX11_date_14 rfl (lv_at hl 2 rfl) ?_
        refine lv_sipush (v := (366 : Int32)) hx hb dX11_date_15 (by decide) ?_
        refine lv_icmp_lt (tgt := 23) hx hb dX11_date_18 (by decide) (fun c_4 => ?_) (fun c_4 => ?_)
        · have h := sd_ifp c_4 h
          refine lv_aload_n hx hb dX11_date_23 rfl (lv_at hl 0 rfl) ?_
          refine sd_g11_1 (k := 0) C X (by decide) sd_w1_20 dX11_date_24 ?_
          refine lv_iload_n hx hb dX11_date_27 rfl (lv_at hl 1 rfl) ?_
          refine lv_iload_n hx hb dX11_date_28 rfl (lv_at hl 2 rfl) ?_
          obtain ⟨r_6, S_5, er_6, h⟩ := sd_cl_some h
          refine k_X8_hasDay C X hl.1 (by decide) er_6 sd_w25_13 (by decide) (Nat.le_of_ble_eq_true rfl) dX11_date_29 (fun H locs X => ?_)
          refine lv_if_eq (tgt := 45) hx hb dX11_date_32 (by decide) (fun c_7 => ?_) (fun c_7 => ?_)
          · have h := sd_ifp c_7 h
            refine lv_iconst (v := (-1 : Int32)) hx hb dX11_date_45 (by decide) ?_
            cases h
            exact sd_iret C X dX11_date_46
          · have h := sd_ifn c_7 h
            refine lv_iload_n hx hb dX11_date_35 rfl (lv_at hl 1 rfl) ?_
            refine lv_sipush (v := (366 : Int32)) hx hb dX11_date_36 (by decide) ?_
            refine lv_imul hx hb dX11_date_39 ?_
            refine lv_iload_n hx hb dX11_date_40 rfl (lv_at hl 2 rfl) ?_
            refine lv_iadd hx hb dX11_date_41 ?_
            refine lv_goto (tgt := 46) hx hb dX11_date_42 (by decide) ?_
            cases h
            exact sd_iret C X dX11_date_46
        · have h := sd_ifn c_4 h
          refine lv_iconst (v := (-1 : Int32)) hx hb dX11_date_21 (by decide) ?_
          cases h
          exact sd_iret C X dX11_date_22
theorem k_X11_date (C : sd_C own cc nL rt D cy ad A b0 p s m args meth c) (X : sd_H D cy ad A s S H locs) (hls : ls.size = nL) {x1 : Int32} {x2 : Int32} {S2 : sd_St} {r : Int32} (h : f_X11_date x1 x2 S = some (r, S2)) (hlink : Cond.methodLink own index yX11_date ∈ sd_wl) (hR : 2 ≤ R.frames ∧ 62 ≤ R.locals ∧ cells ≤ R.cells ∧ slots ≤ R.slots) (hst : (rest.map fun v => v.category).sum ≤ 8) (hdg : decode cc pc = .ok (.invokevirtual index, 3)) (kk : ∀ (H1 : Heap) (locs1 : List Loc), sd_H D cy ad A s S2 H1 locs1 → W p l e R s m args below meth c H1 locs1 cells slots Q (F0 m (pc + 3) ls (.int r :: rest))) : W p l e R s m args below meth c H locs cells slots Q (F0 m pc ls (.int x2 :: .int x1 :: .ref (ad 0) :: rest)) :=
  sd_goI X (sd_runV C X hls (n := 2) (k := 0) (As := [.int x1, .int x2]) (c_X11_date (l := l) (b0 := b0) h) (sd_goodV hlink sd_w25_10 sd_w25_11 sd_w1_2 sd_w25_12) (ci := 11) rfl (by rw [(show sd_kd 0 = 11 by decide)]; decide) (sd_c11 (show sd_kd 0 = 11 by decide)) (by decide +kernel) rfl hR rfl hst hdg) kk
/-! ===== SecretDays.isDate(I)Z ===== -/
def f_X11_isDate (x1 : Int32) (S : sd_St) : Option (Int32 × sd_St) := (if x1 < 0 then (some ((0 : Int32), S)) else (if (4392 : Int32) ≤ x1 then (some ((0 : Int32), S)) else (some ((1 : Int32), S))))
set_option maxHeartbeats 4000000 in
set_option maxRecDepth 100000 in
theorem c_X11_isDate {x1 : Int32} {S S' : sd_St} {r : Int32} (h : f_X11_isDate x1 S = some (r, S')) : Met l yX11_isDate (Cond.code yX11_isDate cX11_isDate 2 (some .boolean) :: sd_wl) (sd_rm 0) (sd_P D cy ad A b0 [.ref (ad 0), .int x1] S) (sd_Qi D cy ad A r S') 0 0 A := by
  refine sd_met (by decide) (Nat.le_of_ble_eq_true rfl) (fun p e s m args below meth c ls C X hl => ?_)
  obtain ⟨hx, hb, -, hml, hown, hts, -, hG⟩ := id C
  replace C : sd_C RX11 cX11_isDate 2 (some .boolean) D cy ad A b0 p s m args meth c := C
  replace hl : lv_has ls 2 [(0, .ref (ad 0)), (1, .int x1)] := hl
  unfold f_X11_isDate at h
  refine lv_iload_n hx hb dX11_isDate_0 rfl (lv_at hl 1 rfl) ?_
  refine lv_if_lt (tgt := 15) hx hb dX11_isDate_1 (by decide) (fun c_1 => ?_) (fun c_1 => ?_)
  · have h := sd_ifp c_1 h
    refine lv_iconst (v := (0 : Int32)) hx hb dX11_isDate_15 (by decide) ?_
    cases h
    exact sd_zret C X (by decide) dX11_isDate_16
  · have h := sd_ifn c_1 h
    refine lv_iload_n hx hb dX11_isDate_4 rfl (lv_at hl 1 rfl) ?_
    refine lv_sipush (v := (4392 : Int32)) hx hb dX11_isDate_5 (by decide) ?_
    refine lv_icmp_ge (tgt := 15) hx hb dX11_isDate_8 (by decide) (fun c_2 => ?_) (fun c_2 => ?_)
    · have h := sd_ifp c_2 h
      refine lv_iconst (v := (0 : Int32)) hx hb dX11_isDate_15 (by decide) ?_
      cases h
      exact sd_zret C X (by decide) dX11_isDate_16
    · have h := sd_ifn c_2 h
      refine lv_iconst (v := (1 : Int32)) hx hb dX11_isDate_11 (by decide) ?_
      refine lv_goto (tgt := 16) hx hb dX11_isDate_12 (by decide) ?_
      cases h
      exact sd_zret C X (by decide) dX11_isDate_16
theorem k_X11_isDate (C : sd_C own cc nL rt D cy ad A b0 p s m args meth c) (X : sd_H D cy ad A s S H locs) (hls : ls.size = nL) {x1 : Int32} {S2 : sd_St} {r : Int32} (h : f_X11_isDate x1 S = some (r, S2)) (hlink : Cond.methodLink own index yX11_isDate ∈ sd_wl) (hR : 1 ≤ R.frames ∧ 21 ≤ R.locals ∧ cells ≤ R.cells ∧ slots ≤ R.slots) (hst : (rest.map fun v => v.category).sum ≤ 8) (hdg : decode cc pc = .ok (.invokevirtual index, 3)) (kk : ∀ (H1 : Heap) (locs1 : List Loc), sd_H D cy ad A s S2 H1 locs1 → W p l e R s m args below meth c H1 locs1 cells slots Q (F0 m (pc + 3) ls (.int r :: rest))) : W p l e R s m args below meth c H locs cells slots Q (F0 m pc ls (.int x1 :: .ref (ad 0) :: rest)) :=
  sd_goI X (sd_runV C X hls (n := 1) (k := 0) (As := [.int x1]) (c_X11_isDate (l := l) (b0 := b0) h) (sd_goodV hlink sd_w26_13 sd_w26_14 sd_w1_2 sd_w26_15) (ci := 11) rfl (by rw [(show sd_kd 0 = 11 by decide)]; decide) (sd_c11 (show sd_kd 0 = 11 by decide)) (by decide +kernel) rfl hR rfl hst hdg) kk
/-! ===== SecretDays.isThere(I)Z ===== -/
def f_X11_isThere (x1 : Int32) (S : sd_St) : Option (Int32 × sd_St) := sd_cl (f_X11_isDate x1 S) (fun r_2 S_1 => (if r_2 = 0 then (some ((0 : Int32), S_1)) else sd_cl (f_X8_hasDay 17 (x1 / (366 : Int32)) (sd_rem x1 (366 : Int32)) S_1) (fun r_5 S_4 => (if r_5 = 0 then (some ((0 : Int32), S_4)) else (some ((1 : Int32), S_4))))))
set_option maxHeartbeats 4000000 in
set_option maxRecDepth 100000 in
theorem c_X11_isThere {x1 : Int32} {S S' : sd_St} {r : Int32} (h : f_X11_isThere x1 S = some (r, S')) : Met l yX11_isThere (Cond.code yX11_isThere cX11_isThere 2 (some .boolean) :: sd_wl) (sd_rm 1) (sd_P D cy ad A b0 [.ref (ad 0), .int x1] S) (sd_Qi D cy ad A r S') 0 0 A := by
  refine sd_met (by decide) (Nat.le_of_ble_eq_true rfl) (fun p e s m args below meth c ls C X hl => ?_)
  obtain ⟨hx, hb, -, hml, hown, hts, -, hG⟩ := id C
  replace C : sd_C RX11 cX11_isThere 2 (some .boolean) D cy ad A b0 p s m args meth c := C
  replace hl : lv_has ls 2 [(0, .ref (ad 0)), (1, .int x1)] := hl
  unfold f_X11_isThere at h
  refine lv_aload_n hx hb dX11_isThere_0 rfl (lv_at hl 0 rfl) ?_
  refine lv_iload_n hx hb dX11_isThere_1 rfl (lv_at hl 1 rfl) ?_
  obtain ⟨r_2, S_1, er_2, h⟩ := sd_cl_some h
  refine k_X11_isDate C X hl.1 er_2 sd_w26_12 (by decide) (Nat.le_of_ble_eq_true rfl) dX11_isThere_2 (fun H locs X => ?_)
  refine lv_if_eq (tgt := 32) hx hb dX11_isThere_5 (by decide) (fun c_3 => ?_) (fun c_3 => ?_)
  · have h := sd_ifp c_3 h
    refine lv_iconst (v := (0 : Int32)) hx hb dX11_isThere_32 (by decide) ?_
    cases h
    exact sd_zret C X (by decide) dX11_isThere_33
  · have h := sd_ifn c_3 h
    refine lv_aload_n hx hb dX11_isThere_8 rfl (lv_at hl 0 rfl) ?_
    refine sd_g11_1 (k := 0) C X (by decide) sd_w1_20 dX11_isThere_9 ?_
    refine lv_iload_n hx hb dX11_isThere_12 rfl (lv_at hl 1 rfl) ?_
    refine lv_sipush (v := (366 : Int32)) hx hb dX11_isThere_13 (by decide) ?_
    refine lv_idiv hx hb dX11_isThere_16 (by decide) ?_
    refine lv_iload_n hx hb dX11_isThere_17 rfl (lv_at hl 1 rfl) ?_
    refine lv_sipush (v := (366 : Int32)) hx hb dX11_isThere_18 (by decide) ?_
    refine lv_irem hx hb dX11_isThere_21 (by decide) ?_
    obtain ⟨r_5, S_4, er_5, h⟩ := sd_cl_some h
    refine k_X8_hasDay C X hl.1 (by decide) er_5 sd_w25_13 (by decide) (Nat.le_of_ble_eq_true rfl) dX11_isThere_22 (fun H locs X => ?_)
    refine lv_if_eq (tgt := 32) hx hb dX11_isThere_25 (by decide) (fun c_6 => ?_) (fun c_6 => ?_)
    · have h := sd_ifp c_6 h
      refine lv_iconst (v := (0 : Int32)) hx hb dX11_isThere_32 (by decide) ?_
      cases h
      exact sd_zret C X (by decide) dX11_isThere_33
    · have h := sd_ifn c_6 h
      refine lv_iconst (v := (1 : Int32)) hx hb dX11_isThere_28 (by decide) ?_
      refine lv_goto (tgt := 33) hx hb dX11_isThere_29 (by decide) ?_
      cases h
      exact sd_zret C X (by decide) dX11_isThere_33
theorem k_X11_isThere (C : sd_C own cc nL rt D cy ad A b0 p s m args meth c) (X : sd_H D cy ad A s S H locs) (hls : ls.size = nL) {x1 : Int32} {S2 : sd_St} {r : Int32} (h : f_X11_isThere x1 S = some (r, S2)) (hlink : Cond.methodLink own index yX11_isThere ∈ sd_wl) (hR : 2 ≤ R.frames ∧ 61 ≤ R.locals ∧ cells ≤ R.cells ∧ slots ≤ R.slots) (hst : (rest.map fun v => v.category).sum ≤ 8) (hdg : decode cc pc = .ok (.invokevirtual index, 3)) (kk : ∀ (H1 : Heap) (locs1 : List Loc), sd_H D cy ad A s S2 H1 locs1 → W p l e R s m args below meth c H1 locs1 cells slots Q (F0 m (pc + 3) ls (.int r :: rest))) : W p l e R s m args below meth c H locs cells slots Q (F0 m pc ls (.int x1 :: .ref (ad 0) :: rest)) :=
  sd_goI X (sd_runV C X hls (n := 1) (k := 0) (As := [.int x1]) (c_X11_isThere (l := l) (b0 := b0) h) (sd_goodV hlink sd_w26_9 sd_w26_10 sd_w1_2 sd_w26_11) (ci := 11) rfl (by rw [(show sd_kd 0 = 11 by decide)]; decide) (sd_c11 (show sd_kd 0 = 11 by decide)) (by decide +kernel) rfl hR rfl hst hdg) kk
/-! ===== SecretDays.free(II)I ===== -/
def f_X11_free (x1 : Int32) (x2 : Int32) (S : sd_St) : Option (Int32 × sd_St) := sd_cl (f_X11_isPerson x1 S) (fun r_2 S_1 => (if r_2 = 0 then (some ((-1 : Int32), S_1)) else sd_cl (f_X11_isThere x2 S_1) (fun r_5 S_4 => (if r_5 = 0 then (some ((-1 : Int32), S_4)) else sd_cl (f_X8_isFeast 17 x1 (sd_rem x2 (366 : Int32)) S_4) (fun r_8 S_7 => (if r_8 = 0 then (some ((0 : Int32), S_7)) else sd_cl (f_X8_awayOn 17 x2 S_7) (fun r_11 S_10 => sd_cl (f_X11_has r_11 x1 S_10) (fun r_13 S_12 => (if r_13 = 0 then (some ((1 : Int32), S_12)) else (some ((0 : Int32), S_12)))))))))))
set_option maxHeartbeats 4000000 in
set_option maxRecDepth 100000 in
theorem c_X11_free {x1 : Int32} {x2 : Int32} {S S' : sd_St} {r : Int32} (h : f_X11_free x1 x2 S = some (r, S')) : Met l yX11_free (Cond.code yX11_free cX11_free 4 (some .int) :: sd_wl) (sd_rm 2) (sd_P D cy ad A b0 [.ref (ad 0), .int x1, .int x2] S) (sd_Qi D cy ad A r S') 0 0 A := by
  refine sd_met (by decide) (Nat.le_of_ble_eq_true rfl) (fun p e s m args below meth c ls C X hl => ?_)
  obtain ⟨hx, hb, -, hml, hown, hts, -, hG⟩ := id C
  replace C : sd_C RX11 cX11_free 4 (some .int) D cy ad A b0 p s m args meth c := C
  replace hl : lv_has ls 4 [(0, .ref (ad 0)), (1, .int x1), (2, .int x2)] := hl
  unfold f_X11_free at h
  refine lv_aload_n hx hb dX11_free_0 rfl (lv_at hl 0 rfl) ?_
  refine lv_iload_n hx hb dX11_free_1 rfl (lv_at hl 1 rfl) ?_
  obtain ⟨r_2, S_1, er_2, h⟩ := sd_cl_some h
  refine k_X11_isPerson C X hl.1 er_2 sd_w24_5 (by decide) (Nat.le_of_ble_eq_true rfl) dX11_free_2 (fun H locs X => ?_)
  refine lv_if_eq (tgt := 16) hx hb dX11_free_5 (by decide) (fun c_3 => ?_) (fun c_3 => ?_)
  · have h := sd_ifp c_3 h
    refine lv_iconst (v := (-1 : Int32)) hx hb dX11_free_16 (by decide) ?_
    cases h
    exact sd_iret C X dX11_free_17
  · have h := sd_ifn c_3 h
    refine lv_aload_n hx hb dX11_free_8 rfl (lv_at hl 0 rfl) ?_
    refine lv_iload_n hx hb dX11_free_9 rfl (lv_at hl 2 rfl) ?_
    obtain ⟨r_5, S_4, er_5, h⟩ := sd_cl_some h
    refine k_X11_isThere C X hl.1 er_5 sd_w26_8 (by decide) (Nat.le_of_ble_eq_true rfl) dX11_free_10 (fun H locs X => ?_)
    refine lv_if_ne (tgt := 18) hx hb dX11_free_13 (by decide) (fun c_6 => ?_) (fun c_6 => ?_)
    · have h := sd_ifn c_6 h
      refine lv_aload_n hx hb dX11_free_18 rfl (lv_at hl 0 rfl) ?_
      refine sd_g11_1 (k := 0) C X (by decide) sd_w1_20 dX11_free_19 ?_
      refine lv_iload_n hx hb dX11_free_22 rfl (lv_at hl 1 rfl) ?_
      refine lv_iload_n hx hb dX11_free_23 rfl (lv_at hl 2 rfl) ?_
      refine lv_sipush (v := (366 : Int32)) hx hb dX11_free_24 (by decide) ?_
      refine lv_irem hx hb dX11_free_27 (by decide) ?_
      obtain ⟨r_8, S_7, er_8, h⟩ := sd_cl_some h
      refine k_X8_isFeast C X hl.1 (by decide) er_8 sd_w26_16 (by decide) (Nat.le_of_ble_eq_true rfl) dX11_free_28 (fun H locs X => ?_)
      refine lv_istore_n (lv' := [(3, .int r_8), (0, .ref (ad 0)), (1, .int x1), (2, .int x2)]) hx hb dX11_free_31 rfl hl (by decide) rfl (fun ls hl => ?_)
      refine lv_iload_n hx hb dX11_free_32 rfl (lv_at hl 0 rfl) ?_
      refine lv_if_eq (tgt := 55) hx hb dX11_free_33 (by decide) (fun c_9 => ?_) (fun c_9 => ?_)
      · have h := sd_ifp c_9 h
        refine lv_iconst (v := (0 : Int32)) hx hb dX11_free_55 (by decide) ?_
        cases h
        exact sd_iret C X dX11_free_56
      · have h := sd_ifn c_9 h
        refine lv_aload_n hx hb dX11_free_36 rfl (lv_at hl 1 rfl) ?_
        refine sd_g11_1 (k := 0) C X (by decide) sd_w1_20 dX11_free_37 ?_
        refine lv_iload_n hx hb dX11_free_40 rfl (lv_at hl 3 rfl) ?_
        obtain ⟨r_11, S_10, er_11, h⟩ := sd_cl_some h
        refine k_X8_awayOn C X hl.1 (by decide) er_11 sd_w26_20 (by decide) (Nat.le_of_ble_eq_true rfl) dX11_free_41 (fun H locs X => ?_)
        refine lv_iload_n hx hb dX11_free_44 rfl (lv_at hl 2 rfl) ?_
        obtain ⟨r_13, S_12, er_13, h⟩ := sd_cl_some h
        refine k_X11_has C X hl.1 er_13 sd_w27_0 (by decide) (Nat.le_of_ble_eq_true rfl) dX11_free_45 (fun H locs X => ?_)
        refine lv_if_ne (tgt := 55) hx hb dX11_free_48 (by decide) (fun c_14 => ?_) (fun c_14 => ?_)
        · have h := sd_ifn c_14 h
          refine lv_iconst (v := (0 : Int32)) hx hb dX11_free_55 (by decide) ?_
          cases h
          exact sd_iret C X dX11_free_56
        · have h := sd_ifp c_14 h
          refine lv_iconst (v := (1 : Int32)) hx hb dX11_free_51 (by decide) ?_
          refine lv_goto (tgt := 56) hx hb dX11_free_52 (by decide) ?_
          cases h
          exact sd_iret C X dX11_free_56
    · have h := sd_ifp c_6 h
      refine lv_iconst (v := (-1 : Int32)) hx hb dX11_free_16 (by decide) ?_
      cases h
      exact sd_iret C X dX11_free_17
theorem k_X11_free (C : sd_C own cc nL rt D cy ad A b0 p s m args meth c) (X : sd_H D cy ad A s S H locs) (hls : ls.size = nL) {x1 : Int32} {x2 : Int32} {S2 : sd_St} {r : Int32} (h : f_X11_free x1 x2 S = some (r, S2)) (hlink : Cond.methodLink own index yX11_free ∈ sd_wl) (hR : 3 ≤ R.frames ∧ 103 ≤ R.locals ∧ cells ≤ R.cells ∧ slots ≤ R.slots) (hst : (rest.map fun v => v.category).sum ≤ 8) (hdg : decode cc pc = .ok (.invokevirtual index, 3)) (kk : ∀ (H1 : Heap) (locs1 : List Loc), sd_H D cy ad A s S2 H1 locs1 → W p l e R s m args below meth c H1 locs1 cells slots Q (F0 m (pc + 3) ls (.int r :: rest))) : W p l e R s m args below meth c H locs cells slots Q (F0 m pc ls (.int x2 :: .int x1 :: .ref (ad 0) :: rest)) :=
  sd_goI X (sd_runV C X hls (n := 2) (k := 0) (As := [.int x1, .int x2]) (c_X11_free (l := l) (b0 := b0) h) (sd_goodV hlink sd_w26_5 sd_w26_6 sd_w1_2 sd_w26_7) (ci := 11) rfl (by rw [(show sd_kd 0 = 11 by decide)]; decide) (sd_c11 (show sd_kd 0 = 11 by decide)) (by decide +kernel) rfl hR rfl hst hdg) kk
/-! ===== SecretDays.away(II)I ===== -/
def f_X11_away (x1 : Int32) (x2 : Int32) (S : sd_St) : Option (Int32 × sd_St) := sd_cl (f_X11_isPerson x1 S) (fun r_2 S_1 => (if r_2 = 0 then (some ((-1 : Int32), S_1)) else sd_cl (f_X11_isThere x2 S_1) (fun r_5 S_4 => (if r_5 = 0 then (some ((-1 : Int32), S_4)) else sd_cl (f_X8_awayOn 17 x2 S_4) (fun r_8 S_7 => sd_cl (f_X11_has r_8 x1 S_7) (fun r_10 S_9 => (if r_10 = 0 then (some ((0 : Int32), S_9)) else (some ((1 : Int32), S_9)))))))))
set_option maxHeartbeats 4000000 in
set_option maxRecDepth 100000 in
theorem c_X11_away {x1 : Int32} {x2 : Int32} {S S' : sd_St} {r : Int32} (h : f_X11_away x1 x2 S = some (r, S')) : Met l yX11_away (Cond.code yX11_away cX11_away 3 (some .int) :: sd_wl) (sd_rm 2) (sd_P D cy ad A b0 [.ref (ad 0), .int x1, .int x2] S) (sd_Qi D cy ad A r S') 0 0 A := by
  refine sd_met (by decide) (Nat.le_of_ble_eq_true rfl) (fun p e s m args below meth c ls C X hl => ?_)
  obtain ⟨hx, hb, -, hml, hown, hts, -, hG⟩ := id C
  replace C : sd_C RX11 cX11_away 3 (some .int) D cy ad A b0 p s m args meth c := C
  replace hl : lv_has ls 3 [(0, .ref (ad 0)), (1, .int x1), (2, .int x2)] := hl
  unfold f_X11_away at h
  refine lv_aload_n hx hb dX11_away_0 rfl (lv_at hl 0 rfl) ?_
  refine lv_iload_n hx hb dX11_away_1 rfl (lv_at hl 1 rfl) ?_
  obtain ⟨r_2, S_1, er_2, h⟩ := sd_cl_some h
  refine k_X11_isPerson C X hl.1 er_2 sd_w24_5 (by decide) (Nat.le_of_ble_eq_true rfl) dX11_away_2 (fun H locs X => ?_)
  refine lv_if_eq (tgt := 16) hx hb dX11_away_5 (by decide) (fun c_3 => ?_) (fun c_3 => ?_)
  · have h := sd_ifp c_3 h
    refine lv_iconst (v := (-1 : Int32)) hx hb dX11_away_16 (by decide) ?_
    cases h
    exact sd_iret C X dX11_away_17
  · have h := sd_ifn c_3 h
    refine lv_aload_n hx hb dX11_away_8 rfl (lv_at hl 0 rfl) ?_
    refine lv_iload_n hx hb dX11_away_9 rfl (lv_at hl 2 rfl) ?_
    obtain ⟨r_5, S_4, er_5, h⟩ := sd_cl_some h
    refine k_X11_isThere C X hl.1 er_5 sd_w26_8 (by decide) (Nat.le_of_ble_eq_true rfl) dX11_away_10 (fun H locs X => ?_)
    refine lv_if_ne (tgt := 18) hx hb dX11_away_13 (by decide) (fun c_6 => ?_) (fun c_6 => ?_)
    · have h := sd_ifn c_6 h
      refine lv_aload_n hx hb dX11_away_18 rfl (lv_at hl 0 rfl) ?_
      refine sd_g11_1 (k := 0) C X (by decide) sd_w1_20 dX11_away_19 ?_
      refine lv_iload_n hx hb dX11_away_22 rfl (lv_at hl 2 rfl) ?_
      obtain ⟨r_8, S_7, er_8, h⟩ := sd_cl_some h
      refine k_X8_awayOn C X hl.1 (by decide) er_8 sd_w26_20 (by decide) (Nat.le_of_ble_eq_true rfl) dX11_away_23 (fun H locs X => ?_)
      refine lv_iload_n hx hb dX11_away_26 rfl (lv_at hl 1 rfl) ?_
      obtain ⟨r_10, S_9, er_10, h⟩ := sd_cl_some h
      refine k_X11_has C X hl.1 er_10 sd_w27_0 (by decide) (Nat.le_of_ble_eq_true rfl) dX11_away_27 (fun H locs X => ?_)
      refine lv_if_eq (tgt := 37) hx hb dX11_away_30 (by decide) (fun c_11 => ?_) (fun c_11 => ?_)
      · have h := sd_ifp c_11 h
        refine lv_iconst (v := (0 : Int32)) hx hb dX11_away_37 (by decide) ?_
        cases h
        exact sd_iret C X dX11_away_38
      · have h := sd_ifn c_11 h
        refine lv_iconst (v := (1 : Int32)) hx hb dX11_away_33 (by decide) ?_
        refine lv_goto (tgt := 38) hx hb dX11_away_34 (by decide) ?_
        cases h
        exact sd_iret C X dX11_away_38
    · have h := sd_ifp c_6 h
      refine lv_iconst (v := (-1 : Int32)) hx hb dX11_away_16 (by decide) ?_
      cases h
      exact sd_iret C X dX11_away_17
theorem k_X11_away (C : sd_C own cc nL rt D cy ad A b0 p s m args meth c) (X : sd_H D cy ad A s S H locs) (hls : ls.size = nL) {x1 : Int32} {x2 : Int32} {S2 : sd_St} {r : Int32} (h : f_X11_away x1 x2 S = some (r, S2)) (hlink : Cond.methodLink own index yX11_away ∈ sd_wl) (hR : 3 ≤ R.frames ∧ 102 ≤ R.locals ∧ cells ≤ R.cells ∧ slots ≤ R.slots) (hst : (rest.map fun v => v.category).sum ≤ 8) (hdg : decode cc pc = .ok (.invokevirtual index, 3)) (kk : ∀ (H1 : Heap) (locs1 : List Loc), sd_H D cy ad A s S2 H1 locs1 → W p l e R s m args below meth c H1 locs1 cells slots Q (F0 m (pc + 3) ls (.int r :: rest))) : W p l e R s m args below meth c H locs cells slots Q (F0 m pc ls (.int x2 :: .int x1 :: .ref (ad 0) :: rest)) :=
  sd_goI X (sd_runV C X hls (n := 2) (k := 0) (As := [.int x1, .int x2]) (c_X11_away (l := l) (b0 := b0) h) (sd_goodV hlink sd_w27_22 sd_w27_23 sd_w1_2 sd_w28_0) (ci := 11) rfl (by rw [(show sd_kd 0 = 11 by decide)]; decide) (sd_c11 (show sd_kd 0 = 11 by decide)) (by decide +kernel) rfl hR rfl hst hdg) kk
/-! ===== SecretDays.isSecret(I)Z ===== -/
def f_X11_isSecret (x1 : Int32) (S : sd_St) : Option (Int32 × sd_St) := (if x1 < 0 then (some ((0 : Int32), S)) else (if (S.1 17 11) ≤ x1 then (some ((0 : Int32), S)) else (some ((1 : Int32), S))))
set_option maxHeartbeats 4000000 in
set_option maxRecDepth 100000 in
theorem c_X11_isSecret {x1 : Int32} {S S' : sd_St} {r : Int32} (h : f_X11_isSecret x1 S = some (r, S')) : Met l yX11_isSecret (Cond.code yX11_isSecret cX11_isSecret 2 (some .boolean) :: sd_wl) (sd_rm 0) (sd_P D cy ad A b0 [.ref (ad 0), .int x1] S) (sd_Qi D cy ad A r S') 0 0 A := by
  refine sd_met (by decide) (Nat.le_of_ble_eq_true rfl) (fun p e s m args below meth c ls C X hl => ?_)
  obtain ⟨hx, hb, -, hml, hown, hts, -, hG⟩ := id C
  replace C : sd_C RX11 cX11_isSecret 2 (some .boolean) D cy ad A b0 p s m args meth c := C
  replace hl : lv_has ls 2 [(0, .ref (ad 0)), (1, .int x1)] := hl
  unfold f_X11_isSecret at h
  refine lv_iload_n hx hb dX11_isSecret_0 rfl (lv_at hl 1 rfl) ?_
  refine lv_if_lt (tgt := 19) hx hb dX11_isSecret_1 (by decide) (fun c_1 => ?_) (fun c_1 => ?_)
  · have h := sd_ifp c_1 h
    refine lv_iconst (v := (0 : Int32)) hx hb dX11_isSecret_19 (by decide) ?_
    cases h
    exact sd_zret C X (by decide) dX11_isSecret_20
  · have h := sd_ifn c_1 h
    refine lv_iload_n hx hb dX11_isSecret_4 rfl (lv_at hl 1 rfl) ?_
    refine lv_aload_n hx hb dX11_isSecret_5 rfl (lv_at hl 0 rfl) ?_
    refine sd_g11_1 (k := 0) C X (by decide) sd_w1_20 dX11_isSecret_6 ?_
    refine sd_g8_11 C X (by decide) sd_w28_13 dX11_isSecret_9 ?_
    refine lv_icmp_ge (tgt := 19) hx hb dX11_isSecret_12 (by decide) (fun c_2 => ?_) (fun c_2 => ?_)
    · have h := sd_ifp c_2 h
      refine lv_iconst (v := (0 : Int32)) hx hb dX11_isSecret_19 (by decide) ?_
      cases h
      exact sd_zret C X (by decide) dX11_isSecret_20
    · have h := sd_ifn c_2 h
      refine lv_iconst (v := (1 : Int32)) hx hb dX11_isSecret_15 (by decide) ?_
      refine lv_goto (tgt := 20) hx hb dX11_isSecret_16 (by decide) ?_
      cases h
      exact sd_zret C X (by decide) dX11_isSecret_20
theorem k_X11_isSecret (C : sd_C own cc nL rt D cy ad A b0 p s m args meth c) (X : sd_H D cy ad A s S H locs) (hls : ls.size = nL) {x1 : Int32} {S2 : sd_St} {r : Int32} (h : f_X11_isSecret x1 S = some (r, S2)) (hlink : Cond.methodLink own index yX11_isSecret ∈ sd_wl) (hR : 1 ≤ R.frames ∧ 21 ≤ R.locals ∧ cells ≤ R.cells ∧ slots ≤ R.slots) (hst : (rest.map fun v => v.category).sum ≤ 8) (hdg : decode cc pc = .ok (.invokevirtual index, 3)) (kk : ∀ (H1 : Heap) (locs1 : List Loc), sd_H D cy ad A s S2 H1 locs1 → W p l e R s m args below meth c H1 locs1 cells slots Q (F0 m (pc + 3) ls (.int r :: rest))) : W p l e R s m args below meth c H locs cells slots Q (F0 m pc ls (.int x1 :: .ref (ad 0) :: rest)) :=
  sd_goI X (sd_runV C X hls (n := 1) (k := 0) (As := [.int x1]) (c_X11_isSecret (l := l) (b0 := b0) h) (sd_goodV hlink sd_w28_10 sd_w28_11 sd_w1_2 sd_w28_12) (ci := 11) rfl (by rw [(show sd_kd 0 = 11 by decide)]; decide) (sd_c11 (show sd_kd 0 = 11 by decide)) (by decide +kernel) rfl hR rfl hst hdg) kk
/-! ===== SecretDays.bringUpToDate()V ===== -/
def f_X11_bringUpToDate_l21 : Nat → Int32 → sd_St → Option (Unit × sd_St)
  | 0 => fun _ _ => none
  | n + 1 => fun x1 S => (if (S.1 17 11) ≤ x1 then sd_nm (sd_I S 0 11 (1 : Int32)) (fun S_2 => (some ((), S_2))) else sd_in x1 (sd_al 33) (sd_nm (34 + 5 * x1.toNatClampNeg) (fun q_4 => sd_ld S 26 x1 (fun v_5 => sd_ld S 27 x1 (fun v_6 => sd_cl (f_X5_spread q_4 28 v_5 v_6 (4391 : Int32) S) (fun _ S_7 => sd_in x1 (sd_al 33) (sd_nm (34 + 5 * x1.toNatClampNeg) (fun q_10 => sd_cl (f_X5_trace q_10 28 S_7) (fun _ S_11 => (f_X11_bringUpToDate_l21 n) (x1 + (1 : Int32)) S_11)))))))))
set_option maxHeartbeats 4000000 in
set_option maxRecDepth 100000 in
theorem t_X11_bringUpToDate_l21 (C : sd_C RX11 cX11_bringUpToDate 2 none D cy ad A b0 p s m args meth c) {S' : sd_St} : ∀ (n : Nat) (x1 : Int32) (S : sd_St) (H : Heap) (locs : List Loc) (ls : Array Slot), f_X11_bringUpToDate_l21 n x1 S = some ((), S') → sd_H D cy ad A s S H locs → lv_has ls 2 [(0, .ref (ad 0)), (1, .int x1)] → W p l e (sd_rm 4) s m args below meth c H locs 0 0 (MQ below (sd_Qv D cy ad A S') args s 0 0 A) (F0 m 21 ls []) := by
  obtain ⟨hx, hb, -, hml, hown, hts, -, hG⟩ := id C
  intro n
  induction n with
  | zero => intro x1 S H locs ls h; cases h
  | succ n ih =>
    intro x1 S H locs ls h X hl
    unfold f_X11_bringUpToDate_l21 at h
    refine lv_iload_n hx hb dX11_bringUpToDate_21 rfl (lv_at hl 1 rfl) ?_
    refine lv_aload_n hx hb dX11_bringUpToDate_22 rfl (lv_at hl 0 rfl) ?_
    refine sd_g11_1 (k := 0) C X (by decide) sd_w1_20 dX11_bringUpToDate_23 ?_
    refine sd_g8_11 C X (by decide) sd_w28_13 dX11_bringUpToDate_26 ?_
    refine lv_icmp_ge (tgt := 85) hx hb dX11_bringUpToDate_29 (by decide) (fun c_1 => ?_) (fun c_1 => ?_)
    · have h := sd_ifp c_1 h
      refine lv_aload_n hx hb dX11_bringUpToDate_85 rfl (lv_at hl 0 rfl) ?_
      refine lv_iconst (v := (1 : Int32)) hx hb dX11_bringUpToDate_86 (by decide) ?_
      obtain ⟨S_2, eS_2, h⟩ := sd_nm_some h
      refine sd_p11_11 C X (by decide) (by decide) sd_w18_10 dX11_bringUpToDate_87 (fun H locs X => ?_)
      rw [← eS_2] at X
      cases h
      exact sd_vret C X dX11_bringUpToDate_90
    · have h := sd_ifn c_1 h
      refine lv_aload_n hx hb dX11_bringUpToDate_32 rfl (lv_at hl 0 rfl) ?_
      refine sd_g11_3 (k := 0) C X (by decide) sd_w2_2 dX11_bringUpToDate_33 ?_
      refine lv_iload_n hx hb dX11_bringUpToDate_36 rfl (lv_at hl 1 rfl) ?_
      obtain ⟨b_3, h⟩ := sd_in_some h
      obtain ⟨q_4, eq_4, h⟩ := sd_nm_some h
      have hq_4 : sd_kd q_4 = 5 := sd_e5 (by decide) b_3 eq_4
      refine sd_aald5 C X (by decide) b_3 dX11_bringUpToDate_37 ?_
      rw [← eq_4]
      refine lv_aload_n hx hb dX11_bringUpToDate_38 rfl (lv_at hl 0 rfl) ?_
      refine sd_g11_2 (k := 0) C X (by decide) sd_w2_0 dX11_bringUpToDate_39 ?_
      refine lv_aload_n hx hb dX11_bringUpToDate_42 rfl (lv_at hl 0 rfl) ?_
      refine sd_g11_1 (k := 0) C X (by decide) sd_w1_20 dX11_bringUpToDate_43 ?_
      refine sd_g8_12 (k := 17) C X (by decide) sd_w28_18 dX11_bringUpToDate_46 ?_
      refine lv_iload_n hx hb dX11_bringUpToDate_49 rfl (lv_at hl 1 rfl) ?_
      obtain ⟨b_5, v_5, e_5, h⟩ := sd_ld_some h
      refine sd_iald C X (by decide) b_5 dX11_bringUpToDate_50 (sd_nmi e_5 ?_)
      refine lv_aload_n hx hb dX11_bringUpToDate_51 rfl (lv_at hl 0 rfl) ?_
      refine sd_g11_1 (k := 0) C X (by decide) sd_w1_20 dX11_bringUpToDate_52 ?_
      refine sd_g8_13 (k := 17) C X (by decide) sd_w28_19 dX11_bringUpToDate_55 ?_
      refine lv_iload_n hx hb dX11_bringUpToDate_58 rfl (lv_at hl 1 rfl) ?_
      obtain ⟨b_6, v_6, e_6, h⟩ := sd_ld_some h
      refine sd_iald C X (by decide) b_6 dX11_bringUpToDate_59 (sd_nmi e_6 ?_)
      refine lv_sipush (v := (4391 : Int32)) hx hb dX11_bringUpToDate_60 (by decide) ?_
      obtain ⟨r_8, S_7, er_8, h⟩ := sd_cl_some h
      refine k_X5_spread C X hl.1 hq_4 (by decide) er_8 sd_w29_22 (by decide) (Nat.le_of_ble_eq_true rfl) dX11_bringUpToDate_63 (fun H locs X => ?_)
      refine lv_aload_n hx hb dX11_bringUpToDate_66 rfl (lv_at hl 0 rfl) ?_
      refine sd_g11_3 (k := 0) C X (by decide) sd_w2_2 dX11_bringUpToDate_67 ?_
      refine lv_iload_n hx hb dX11_bringUpToDate_70 rfl (lv_at hl 1 rfl) ?_
      obtain ⟨b_9, h⟩ := sd_in_some h
      obtain ⟨q_10, eq_10, h⟩ := sd_nm_some h
      have hq_10 : sd_kd q_10 = 5 := sd_e5 (by decide) b_9 eq_10
      refine sd_aald5 C X (by decide) b_9 dX11_bringUpToDate_71 ?_
      rw [← eq_10]
      refine lv_aload_n hx hb dX11_bringUpToDate_72 rfl (lv_at hl 0 rfl) ?_
      refine sd_g11_2 (k := 0) C X (by decide) sd_w2_0 dX11_bringUpToDate_73 ?_
      obtain ⟨r_12, S_11, er_12, h⟩ := sd_cl_some h
      refine k_X5_trace C X hl.1 hq_10 (by decide) er_12 sd_w30_17 (by decide) (Nat.le_of_ble_eq_true rfl) dX11_bringUpToDate_76 (fun H locs X => ?_)
      refine lv_iinc (v := (x1 + (1 : Int32))) (lv' := [(1, .int (x1 + (1 : Int32))), (0, .ref (ad 0))]) hx hb dX11_bringUpToDate_79 hl (k := 1) rfl rfl (by decide) rfl (fun ls hl => ?_)
      refine lv_goto (tgt := 21) hx hb dX11_bringUpToDate_82 (by decide) ?_
      exact ih (x1 + (1 : Int32)) S_11 _ _ _ h X (lv_sub hl [1, 0] rfl)
def f_X11_bringUpToDate (S : sd_St) : Option (Unit × sd_St) := (if (S.1 0 11) = 0 then sd_cl (f_X1_openAll 28 17 S) (fun _ S_14 => f_X11_bringUpToDate_l21 sd_FU (0 : Int32) S_14) else (some ((), S)))
set_option maxHeartbeats 4000000 in
set_option maxRecDepth 100000 in
theorem c_X11_bringUpToDate {S S' : sd_St} (h : f_X11_bringUpToDate S = some ((), S')) : Met l yX11_bringUpToDate (Cond.code yX11_bringUpToDate cX11_bringUpToDate 2 none :: sd_wl) (sd_rm 4) (sd_P D cy ad A b0 [.ref (ad 0)] S) (sd_Qv D cy ad A S') 0 0 A := by
  refine sd_met (by decide) (Nat.le_of_ble_eq_true rfl) (fun p e s m args below meth c ls C X hl => ?_)
  obtain ⟨hx, hb, -, hml, hown, hts, -, hG⟩ := id C
  replace C : sd_C RX11 cX11_bringUpToDate 2 none D cy ad A b0 p s m args meth c := C
  replace hl : lv_has ls 2 [(0, .ref (ad 0))] := hl
  unfold f_X11_bringUpToDate at h
  refine lv_aload_n hx hb dX11_bringUpToDate_0 rfl (lv_at hl 0 rfl) ?_
  refine sd_g11_11 C X (by decide) sd_w18_10 dX11_bringUpToDate_1 ?_
  refine lv_if_eq (tgt := 8) hx hb dX11_bringUpToDate_4 (by decide) (fun c_13 => ?_) (fun c_13 => ?_)
  · have h := sd_ifp c_13 h
    refine lv_aload_n hx hb dX11_bringUpToDate_8 rfl (lv_at hl 0 rfl) ?_
    refine sd_g11_2 (k := 0) C X (by decide) sd_w2_0 dX11_bringUpToDate_9 ?_
    refine lv_aload_n hx hb dX11_bringUpToDate_12 rfl (lv_at hl 0 rfl) ?_
    refine sd_g11_1 (k := 0) C X (by decide) sd_w1_20 dX11_bringUpToDate_13 ?_
    obtain ⟨r_15, S_14, er_15, h⟩ := sd_cl_some h
    refine k_X1_openAll C X hl.1 (by decide) (by decide) er_15 sd_w28_20 (by decide) (Nat.le_of_ble_eq_true rfl) dX11_bringUpToDate_16 (fun H locs X => ?_)
    refine lv_iconst (v := (0 : Int32)) hx hb dX11_bringUpToDate_19 (by decide) ?_
    refine lv_istore_n (lv' := [(1, .int (0 : Int32)), (0, .ref (ad 0))]) hx hb dX11_bringUpToDate_20 rfl hl (by decide) rfl (fun ls hl => ?_)
    exact t_X11_bringUpToDate_l21 C sd_FU (0 : Int32) S_14 _ _ _ h X (lv_sub hl [1, 0] rfl)
  · have h := sd_ifn c_13 h
    cases h
    exact sd_vret C X dX11_bringUpToDate_7
theorem k_X11_bringUpToDate (C : sd_C own cc nL rt D cy ad A b0 p s m args meth c) (X : sd_H D cy ad A s S H locs) (hls : ls.size = nL) {S2 : sd_St} (h : f_X11_bringUpToDate S = some ((), S2)) (hlink : Cond.methodLink own index yX11_bringUpToDate ∈ sd_wl) (hR : 5 ≤ R.frames ∧ 181 ≤ R.locals ∧ cells ≤ R.cells ∧ slots ≤ R.slots) (hst : (rest.map fun v => v.category).sum ≤ 8) (hdg : decode cc pc = .ok (.invokevirtual index, 3)) (kk : ∀ (H1 : Heap) (locs1 : List Loc), sd_H D cy ad A s S2 H1 locs1 → W p l e R s m args below meth c H1 locs1 cells slots Q (F0 m (pc + 3) ls rest)) : W p l e R s m args below meth c H locs cells slots Q (F0 m pc ls (.ref (ad 0) :: rest)) :=
  sd_goV X (sd_runV C X hls (n := 0) (k := 0) (As := []) (c_X11_bringUpToDate (l := l) (b0 := b0) h) (sd_goodV hlink sd_w28_15 sd_w28_16 sd_w1_2 sd_w28_17) (ci := 11) rfl (by rw [(show sd_kd 0 = 11 by decide)]; decide) (sd_c11 (show sd_kd 0 = 11 by decide)) (by decide +kernel) rfl hR rfl hst hdg) kk
/-! ===== SecretDays.soonest(II)I ===== -/
def f_X11_soonest (x1 : Int32) (x2 : Int32) (S : sd_St) : Option (Int32 × sd_St) := sd_cl (f_X11_isSecret x1 S) (fun r_2 S_1 => (if r_2 = 0 then (some ((-1 : Int32), S_1)) else sd_cl (f_X11_isPerson x2 S_1) (fun r_5 S_4 => (if r_5 = 0 then (some ((-1 : Int32), S_4)) else sd_cl (f_X11_bringUpToDate S_4) (fun _ S_7 => sd_in x1 (sd_al 33) (sd_nm (34 + 5 * x1.toNatClampNeg) (fun q_10 => sd_cl (f_X5_had q_10 x2 S_7) (fun r_12 S_11 => (some (r_12, S_11))))))))))
set_option maxHeartbeats 4000000 in
set_option maxRecDepth 100000 in
theorem c_X11_soonest {x1 : Int32} {x2 : Int32} {S S' : sd_St} {r : Int32} (h : f_X11_soonest x1 x2 S = some (r, S')) : Met l yX11_soonest (Cond.code yX11_soonest cX11_soonest 3 (some .int) :: sd_wl) (sd_rm 5) (sd_P D cy ad A b0 [.ref (ad 0), .int x1, .int x2] S) (sd_Qi D cy ad A r S') 0 0 A := by
  refine sd_met (by decide) (Nat.le_of_ble_eq_true rfl) (fun p e s m args below meth c ls C X hl => ?_)
  obtain ⟨hx, hb, -, hml, hown, hts, -, hG⟩ := id C
  replace C : sd_C RX11 cX11_soonest 3 (some .int) D cy ad A b0 p s m args meth c := C
  replace hl : lv_has ls 3 [(0, .ref (ad 0)), (1, .int x1), (2, .int x2)] := hl
  unfold f_X11_soonest at h
  refine lv_aload_n hx hb dX11_soonest_0 rfl (lv_at hl 0 rfl) ?_
  refine lv_iload_n hx hb dX11_soonest_1 rfl (lv_at hl 1 rfl) ?_
  obtain ⟨r_2, S_1, er_2, h⟩ := sd_cl_some h
  refine k_X11_isSecret C X hl.1 er_2 sd_w28_9 (by decide) (Nat.le_of_ble_eq_true rfl) dX11_soonest_2 (fun H locs X => ?_)
  refine lv_if_eq (tgt := 16) hx hb dX11_soonest_5 (by decide) (fun c_3 => ?_) (fun c_3 => ?_)
  · have h := sd_ifp c_3 h
    refine lv_iconst (v := (-1 : Int32)) hx hb dX11_soonest_16 (by decide) ?_
    cases h
    exact sd_iret C X dX11_soonest_17
  · have h := sd_ifn c_3 h
    refine lv_aload_n hx hb dX11_soonest_8 rfl (lv_at hl 0 rfl) ?_
    refine lv_iload_n hx hb dX11_soonest_9 rfl (lv_at hl 2 rfl) ?_
    obtain ⟨r_5, S_4, er_5, h⟩ := sd_cl_some h
    refine k_X11_isPerson C X hl.1 er_5 sd_w24_5 (by decide) (Nat.le_of_ble_eq_true rfl) dX11_soonest_10 (fun H locs X => ?_)
    refine lv_if_ne (tgt := 18) hx hb dX11_soonest_13 (by decide) (fun c_6 => ?_) (fun c_6 => ?_)
    · have h := sd_ifn c_6 h
      refine lv_aload_n hx hb dX11_soonest_18 rfl (lv_at hl 0 rfl) ?_
      obtain ⟨r_8, S_7, er_8, h⟩ := sd_cl_some h
      refine k_X11_bringUpToDate C X hl.1 er_8 sd_w28_14 (by decide) (Nat.le_of_ble_eq_true rfl) dX11_soonest_19 (fun H locs X => ?_)
      refine lv_aload_n hx hb dX11_soonest_22 rfl (lv_at hl 0 rfl) ?_
      refine sd_g11_3 (k := 0) C X (by decide) sd_w2_2 dX11_soonest_23 ?_
      refine lv_iload_n hx hb dX11_soonest_26 rfl (lv_at hl 1 rfl) ?_
      obtain ⟨b_9, h⟩ := sd_in_some h
      obtain ⟨q_10, eq_10, h⟩ := sd_nm_some h
      have hq_10 : sd_kd q_10 = 5 := sd_e5 (by decide) b_9 eq_10
      refine sd_aald5 C X (by decide) b_9 dX11_soonest_27 ?_
      rw [← eq_10]
      refine lv_iload_n hx hb dX11_soonest_28 rfl (lv_at hl 2 rfl) ?_
      obtain ⟨r_12, S_11, er_12, h⟩ := sd_cl_some h
      refine k_X5_had C X hl.1 hq_10 er_12 sd_w31_2 (by decide) (Nat.le_of_ble_eq_true rfl) dX11_soonest_29 (fun H locs X => ?_)
      cases h
      exact sd_iret C X dX11_soonest_32
    · have h := sd_ifp c_6 h
      refine lv_iconst (v := (-1 : Int32)) hx hb dX11_soonest_16 (by decide) ?_
      cases h
      exact sd_iret C X dX11_soonest_17
theorem k_X11_soonest (C : sd_C own cc nL rt D cy ad A b0 p s m args meth c) (X : sd_H D cy ad A s S H locs) (hls : ls.size = nL) {x1 : Int32} {x2 : Int32} {S2 : sd_St} {r : Int32} (h : f_X11_soonest x1 x2 S = some (r, S2)) (hlink : Cond.methodLink own index yX11_soonest ∈ sd_wl) (hR : 6 ≤ R.frames ∧ 222 ≤ R.locals ∧ cells ≤ R.cells ∧ slots ≤ R.slots) (hst : (rest.map fun v => v.category).sum ≤ 8) (hdg : decode cc pc = .ok (.invokevirtual index, 3)) (kk : ∀ (H1 : Heap) (locs1 : List Loc), sd_H D cy ad A s S2 H1 locs1 → W p l e R s m args below meth c H1 locs1 cells slots Q (F0 m (pc + 3) ls (.int r :: rest))) : W p l e R s m args below meth c H locs cells slots Q (F0 m pc ls (.int x2 :: .int x1 :: .ref (ad 0) :: rest)) :=
  sd_goI X (sd_runV C X hls (n := 2) (k := 0) (As := [.int x1, .int x2]) (c_X11_soonest (l := l) (b0 := b0) h) (sd_goodV hlink sd_w28_6 sd_w28_7 sd_w1_2 sd_w28_8) (ci := 11) rfl (by rw [(show sd_kd 0 = 11 by decide)]; decide) (sd_c11 (show sd_kd 0 = 11 by decide)) (by decide +kernel) rfl hR rfl hst hdg) kk
/-! ===== SecretDays.by(II)I ===== -/
def f_X11_by (x1 : Int32) (x2 : Int32) (S : sd_St) : Option (Int32 × sd_St) := sd_cl (f_X11_isSecret x1 S) (fun r_2 S_1 => (if r_2 = 0 then (some ((-1 : Int32), S_1)) else sd_cl (f_X11_isPerson x2 S_1) (fun r_5 S_4 => (if r_5 = 0 then (some ((-1 : Int32), S_4)) else sd_cl (f_X11_bringUpToDate S_4) (fun _ S_7 => sd_in x1 (sd_al 33) (sd_nm (34 + 5 * x1.toNatClampNeg) (fun q_10 => sd_ld S_7 (q_10 + 2) x2 (fun v_11 => (some (v_11, S_7))))))))))
set_option maxHeartbeats 4000000 in
set_option maxRecDepth 100000 in
theorem c_X11_by {x1 : Int32} {x2 : Int32} {S S' : sd_St} {r : Int32} (h : f_X11_by x1 x2 S = some (r, S')) : Met l yX11_by (Cond.code yX11_by cX11_by 3 (some .int) :: sd_wl) (sd_rm 5) (sd_P D cy ad A b0 [.ref (ad 0), .int x1, .int x2] S) (sd_Qi D cy ad A r S') 0 0 A := by
  refine sd_met (by decide) (Nat.le_of_ble_eq_true rfl) (fun p e s m args below meth c ls C X hl => ?_)
  obtain ⟨hx, hb, -, hml, hown, hts, -, hG⟩ := id C
  replace C : sd_C RX11 cX11_by 3 (some .int) D cy ad A b0 p s m args meth c := C
  replace hl : lv_has ls 3 [(0, .ref (ad 0)), (1, .int x1), (2, .int x2)] := hl
  unfold f_X11_by at h
  refine lv_aload_n hx hb dX11_by_0 rfl (lv_at hl 0 rfl) ?_
  refine lv_iload_n hx hb dX11_by_1 rfl (lv_at hl 1 rfl) ?_
  obtain ⟨r_2, S_1, er_2, h⟩ := sd_cl_some h
  refine k_X11_isSecret C X hl.1 er_2 sd_w28_9 (by decide) (Nat.le_of_ble_eq_true rfl) dX11_by_2 (fun H locs X => ?_)
  refine lv_if_eq (tgt := 16) hx hb dX11_by_5 (by decide) (fun c_3 => ?_) (fun c_3 => ?_)
  · have h := sd_ifp c_3 h
    refine lv_iconst (v := (-1 : Int32)) hx hb dX11_by_16 (by decide) ?_
    cases h
    exact sd_iret C X dX11_by_17
  · have h := sd_ifn c_3 h
    refine lv_aload_n hx hb dX11_by_8 rfl (lv_at hl 0 rfl) ?_
    refine lv_iload_n hx hb dX11_by_9 rfl (lv_at hl 2 rfl) ?_
    obtain ⟨r_5, S_4, er_5, h⟩ := sd_cl_some h
    refine k_X11_isPerson C X hl.1 er_5 sd_w24_5 (by decide) (Nat.le_of_ble_eq_true rfl) dX11_by_10 (fun H locs X => ?_)
    refine lv_if_ne (tgt := 18) hx hb dX11_by_13 (by decide) (fun c_6 => ?_) (fun c_6 => ?_)
    · have h := sd_ifn c_6 h
      refine lv_aload_n hx hb dX11_by_18 rfl (lv_at hl 0 rfl) ?_
      obtain ⟨r_8, S_7, er_8, h⟩ := sd_cl_some h
      refine k_X11_bringUpToDate C X hl.1 er_8 sd_w28_14 (by decide) (Nat.le_of_ble_eq_true rfl) dX11_by_19 (fun H locs X => ?_)
      refine lv_aload_n hx hb dX11_by_22 rfl (lv_at hl 0 rfl) ?_
      refine sd_g11_3 (k := 0) C X (by decide) sd_w2_2 dX11_by_23 ?_
      refine lv_iload_n hx hb dX11_by_26 rfl (lv_at hl 1 rfl) ?_
      obtain ⟨b_9, h⟩ := sd_in_some h
      obtain ⟨q_10, eq_10, h⟩ := sd_nm_some h
      have hq_10 : sd_kd q_10 = 5 := sd_e5 (by decide) b_9 eq_10
      refine sd_aald5 C X (by decide) b_9 dX11_by_27 ?_
      rw [← eq_10]
      refine sd_g5_3 (k := q_10) C X hq_10 sd_w33_8 dX11_by_28 ?_
      refine lv_iload_n hx hb dX11_by_31 rfl (lv_at hl 2 rfl) ?_
      obtain ⟨b_11, v_11, e_11, h⟩ := sd_ld_some h
      refine sd_iald C X (sd_k5_2 hq_10) b_11 dX11_by_32 (sd_nmi e_11 ?_)
      cases h
      exact sd_iret C X dX11_by_33
    · have h := sd_ifp c_6 h
      refine lv_iconst (v := (-1 : Int32)) hx hb dX11_by_16 (by decide) ?_
      cases h
      exact sd_iret C X dX11_by_17
theorem k_X11_by (C : sd_C own cc nL rt D cy ad A b0 p s m args meth c) (X : sd_H D cy ad A s S H locs) (hls : ls.size = nL) {x1 : Int32} {x2 : Int32} {S2 : sd_St} {r : Int32} (h : f_X11_by x1 x2 S = some (r, S2)) (hlink : Cond.methodLink own index yX11_by ∈ sd_wl) (hR : 6 ≤ R.frames ∧ 222 ≤ R.locals ∧ cells ≤ R.cells ∧ slots ≤ R.slots) (hst : (rest.map fun v => v.category).sum ≤ 8) (hdg : decode cc pc = .ok (.invokevirtual index, 3)) (kk : ∀ (H1 : Heap) (locs1 : List Loc), sd_H D cy ad A s S2 H1 locs1 → W p l e R s m args below meth c H1 locs1 cells slots Q (F0 m (pc + 3) ls (.int r :: rest))) : W p l e R s m args below meth c H locs cells slots Q (F0 m pc ls (.int x2 :: .int x1 :: .ref (ad 0) :: rest)) :=
  sd_goI X (sd_runV C X hls (n := 2) (k := 0) (As := [.int x1, .int x2]) (c_X11_by (l := l) (b0 := b0) h) (sd_goodV hlink sd_w33_5 sd_w33_6 sd_w1_2 sd_w33_7) (ci := 11) rfl (by rw [(show sd_kd 0 = 11 by decide)]; decide) (sd_c11 (show sd_kd 0 = 11 by decide)) (by decide +kernel) rfl hR rfl hst hdg) kk
/-! ===== SecretDays.hands(II)I ===== -/
def f_X11_hands (x1 : Int32) (x2 : Int32) (S : sd_St) : Option (Int32 × sd_St) := sd_cl (f_X11_isSecret x1 S) (fun r_2 S_1 => (if r_2 = 0 then (some ((-1 : Int32), S_1)) else sd_cl (f_X11_isPerson x2 S_1) (fun r_5 S_4 => (if r_5 = 0 then (some ((-1 : Int32), S_4)) else sd_cl (f_X11_bringUpToDate S_4) (fun _ S_7 => sd_in x1 (sd_al 33) (sd_nm (34 + 5 * x1.toNatClampNeg) (fun q_10 => sd_ld S_7 (q_10 + 3) x2 (fun v_11 => (some (v_11, S_7))))))))))
set_option maxHeartbeats 4000000 in
set_option maxRecDepth 100000 in
theorem c_X11_hands {x1 : Int32} {x2 : Int32} {S S' : sd_St} {r : Int32} (h : f_X11_hands x1 x2 S = some (r, S')) : Met l yX11_hands (Cond.code yX11_hands cX11_hands 3 (some .int) :: sd_wl) (sd_rm 5) (sd_P D cy ad A b0 [.ref (ad 0), .int x1, .int x2] S) (sd_Qi D cy ad A r S') 0 0 A := by
  refine sd_met (by decide) (Nat.le_of_ble_eq_true rfl) (fun p e s m args below meth c ls C X hl => ?_)
  obtain ⟨hx, hb, -, hml, hown, hts, -, hG⟩ := id C
  replace C : sd_C RX11 cX11_hands 3 (some .int) D cy ad A b0 p s m args meth c := C
  replace hl : lv_has ls 3 [(0, .ref (ad 0)), (1, .int x1), (2, .int x2)] := hl
  unfold f_X11_hands at h
  refine lv_aload_n hx hb dX11_hands_0 rfl (lv_at hl 0 rfl) ?_
  refine lv_iload_n hx hb dX11_hands_1 rfl (lv_at hl 1 rfl) ?_
  obtain ⟨r_2, S_1, er_2, h⟩ := sd_cl_some h
  refine k_X11_isSecret C X hl.1 er_2 sd_w28_9 (by decide) (Nat.le_of_ble_eq_true rfl) dX11_hands_2 (fun H locs X => ?_)
  refine lv_if_eq (tgt := 16) hx hb dX11_hands_5 (by decide) (fun c_3 => ?_) (fun c_3 => ?_)
  · have h := sd_ifp c_3 h
    refine lv_iconst (v := (-1 : Int32)) hx hb dX11_hands_16 (by decide) ?_
    cases h
    exact sd_iret C X dX11_hands_17
  · have h := sd_ifn c_3 h
    refine lv_aload_n hx hb dX11_hands_8 rfl (lv_at hl 0 rfl) ?_
    refine lv_iload_n hx hb dX11_hands_9 rfl (lv_at hl 2 rfl) ?_
    obtain ⟨r_5, S_4, er_5, h⟩ := sd_cl_some h
    refine k_X11_isPerson C X hl.1 er_5 sd_w24_5 (by decide) (Nat.le_of_ble_eq_true rfl) dX11_hands_10 (fun H locs X => ?_)
    refine lv_if_ne (tgt := 18) hx hb dX11_hands_13 (by decide) (fun c_6 => ?_) (fun c_6 => ?_)
    · have h := sd_ifn c_6 h
      refine lv_aload_n hx hb dX11_hands_18 rfl (lv_at hl 0 rfl) ?_
      obtain ⟨r_8, S_7, er_8, h⟩ := sd_cl_some h
      refine k_X11_bringUpToDate C X hl.1 er_8 sd_w28_14 (by decide) (Nat.le_of_ble_eq_true rfl) dX11_hands_19 (fun H locs X => ?_)
      refine lv_aload_n hx hb dX11_hands_22 rfl (lv_at hl 0 rfl) ?_
      refine sd_g11_3 (k := 0) C X (by decide) sd_w2_2 dX11_hands_23 ?_
      refine lv_iload_n hx hb dX11_hands_26 rfl (lv_at hl 1 rfl) ?_
      obtain ⟨b_9, h⟩ := sd_in_some h
      obtain ⟨q_10, eq_10, h⟩ := sd_nm_some h
      have hq_10 : sd_kd q_10 = 5 := sd_e5 (by decide) b_9 eq_10
      refine sd_aald5 C X (by decide) b_9 dX11_hands_27 ?_
      rw [← eq_10]
      refine sd_g5_4 (k := q_10) C X hq_10 sd_w33_17 dX11_hands_28 ?_
      refine lv_iload_n hx hb dX11_hands_31 rfl (lv_at hl 2 rfl) ?_
      obtain ⟨b_11, v_11, e_11, h⟩ := sd_ld_some h
      refine sd_iald C X (sd_k5_3 hq_10) b_11 dX11_hands_32 (sd_nmi e_11 ?_)
      cases h
      exact sd_iret C X dX11_hands_33
    · have h := sd_ifp c_6 h
      refine lv_iconst (v := (-1 : Int32)) hx hb dX11_hands_16 (by decide) ?_
      cases h
      exact sd_iret C X dX11_hands_17
theorem k_X11_hands (C : sd_C own cc nL rt D cy ad A b0 p s m args meth c) (X : sd_H D cy ad A s S H locs) (hls : ls.size = nL) {x1 : Int32} {x2 : Int32} {S2 : sd_St} {r : Int32} (h : f_X11_hands x1 x2 S = some (r, S2)) (hlink : Cond.methodLink own index yX11_hands ∈ sd_wl) (hR : 6 ≤ R.frames ∧ 222 ≤ R.locals ∧ cells ≤ R.cells ∧ slots ≤ R.slots) (hst : (rest.map fun v => v.category).sum ≤ 8) (hdg : decode cc pc = .ok (.invokevirtual index, 3)) (kk : ∀ (H1 : Heap) (locs1 : List Loc), sd_H D cy ad A s S2 H1 locs1 → W p l e R s m args below meth c H1 locs1 cells slots Q (F0 m (pc + 3) ls (.int r :: rest))) : W p l e R s m args below meth c H locs cells slots Q (F0 m pc ls (.int x2 :: .int x1 :: .ref (ad 0) :: rest)) :=
  sd_goI X (sd_runV C X hls (n := 2) (k := 0) (As := [.int x1, .int x2]) (c_X11_hands (l := l) (b0 := b0) h) (sd_goodV hlink sd_w33_14 sd_w33_15 sd_w1_2 sd_w33_16) (ci := 11) rfl (by rw [(show sd_kd 0 = 11 by decide)]; decide) (sd_c11 (show sd_kd 0 = 11 by decide)) (by decide +kernel) rfl hR rfl hst hdg) kk
/-! ===== SecretDays.ways(II)I ===== -/
def f_X11_ways (x1 : Int32) (x2 : Int32) (S : sd_St) : Option (Int32 × sd_St) := sd_cl (f_X11_isSecret x1 S) (fun r_2 S_1 => (if r_2 = 0 then (some ((-1 : Int32), S_1)) else sd_cl (f_X11_isPerson x2 S_1) (fun r_5 S_4 => (if r_5 = 0 then (some ((-1 : Int32), S_4)) else sd_cl (f_X11_bringUpToDate S_4) (fun _ S_7 => sd_in x1 (sd_al 33) (sd_nm (34 + 5 * x1.toNatClampNeg) (fun q_10 => sd_ld S_7 (q_10 + 4) x2 (fun v_11 => (some (v_11, S_7))))))))))
set_option maxHeartbeats 4000000 in
set_option maxRecDepth 100000 in
theorem c_X11_ways {x1 : Int32} {x2 : Int32} {S S' : sd_St} {r : Int32} (h : f_X11_ways x1 x2 S = some (r, S')) : Met l yX11_ways (Cond.code yX11_ways cX11_ways 3 (some .int) :: sd_wl) (sd_rm 5) (sd_P D cy ad A b0 [.ref (ad 0), .int x1, .int x2] S) (sd_Qi D cy ad A r S') 0 0 A := by
  refine sd_met (by decide) (Nat.le_of_ble_eq_true rfl) (fun p e s m args below meth c ls C X hl => ?_)
  obtain ⟨hx, hb, -, hml, hown, hts, -, hG⟩ := id C
  replace C : sd_C RX11 cX11_ways 3 (some .int) D cy ad A b0 p s m args meth c := C
  replace hl : lv_has ls 3 [(0, .ref (ad 0)), (1, .int x1), (2, .int x2)] := hl
  unfold f_X11_ways at h
  refine lv_aload_n hx hb dX11_ways_0 rfl (lv_at hl 0 rfl) ?_
  refine lv_iload_n hx hb dX11_ways_1 rfl (lv_at hl 1 rfl) ?_
  obtain ⟨r_2, S_1, er_2, h⟩ := sd_cl_some h
  refine k_X11_isSecret C X hl.1 er_2 sd_w28_9 (by decide) (Nat.le_of_ble_eq_true rfl) dX11_ways_2 (fun H locs X => ?_)
  refine lv_if_eq (tgt := 16) hx hb dX11_ways_5 (by decide) (fun c_3 => ?_) (fun c_3 => ?_)
  · have h := sd_ifp c_3 h
    refine lv_iconst (v := (-1 : Int32)) hx hb dX11_ways_16 (by decide) ?_
    cases h
    exact sd_iret C X dX11_ways_17
  · have h := sd_ifn c_3 h
    refine lv_aload_n hx hb dX11_ways_8 rfl (lv_at hl 0 rfl) ?_
    refine lv_iload_n hx hb dX11_ways_9 rfl (lv_at hl 2 rfl) ?_
    obtain ⟨r_5, S_4, er_5, h⟩ := sd_cl_some h
    refine k_X11_isPerson C X hl.1 er_5 sd_w24_5 (by decide) (Nat.le_of_ble_eq_true rfl) dX11_ways_10 (fun H locs X => ?_)
    refine lv_if_ne (tgt := 18) hx hb dX11_ways_13 (by decide) (fun c_6 => ?_) (fun c_6 => ?_)
    · have h := sd_ifn c_6 h
      refine lv_aload_n hx hb dX11_ways_18 rfl (lv_at hl 0 rfl) ?_
      obtain ⟨r_8, S_7, er_8, h⟩ := sd_cl_some h
      refine k_X11_bringUpToDate C X hl.1 er_8 sd_w28_14 (by decide) (Nat.le_of_ble_eq_true rfl) dX11_ways_19 (fun H locs X => ?_)
      refine lv_aload_n hx hb dX11_ways_22 rfl (lv_at hl 0 rfl) ?_
      refine sd_g11_3 (k := 0) C X (by decide) sd_w2_2 dX11_ways_23 ?_
      refine lv_iload_n hx hb dX11_ways_26 rfl (lv_at hl 1 rfl) ?_
      obtain ⟨b_9, h⟩ := sd_in_some h
      obtain ⟨q_10, eq_10, h⟩ := sd_nm_some h
      have hq_10 : sd_kd q_10 = 5 := sd_e5 (by decide) b_9 eq_10
      refine sd_aald5 C X (by decide) b_9 dX11_ways_27 ?_
      rw [← eq_10]
      refine sd_g5_5 (k := q_10) C X hq_10 sd_w34_2 dX11_ways_28 ?_
      refine lv_iload_n hx hb dX11_ways_31 rfl (lv_at hl 2 rfl) ?_
      obtain ⟨b_11, v_11, e_11, h⟩ := sd_ld_some h
      refine sd_iald C X (sd_k5_4 hq_10) b_11 dX11_ways_32 (sd_nmi e_11 ?_)
      cases h
      exact sd_iret C X dX11_ways_33
    · have h := sd_ifp c_6 h
      refine lv_iconst (v := (-1 : Int32)) hx hb dX11_ways_16 (by decide) ?_
      cases h
      exact sd_iret C X dX11_ways_17
theorem k_X11_ways (C : sd_C own cc nL rt D cy ad A b0 p s m args meth c) (X : sd_H D cy ad A s S H locs) (hls : ls.size = nL) {x1 : Int32} {x2 : Int32} {S2 : sd_St} {r : Int32} (h : f_X11_ways x1 x2 S = some (r, S2)) (hlink : Cond.methodLink own index yX11_ways ∈ sd_wl) (hR : 6 ≤ R.frames ∧ 222 ≤ R.locals ∧ cells ≤ R.cells ∧ slots ≤ R.slots) (hst : (rest.map fun v => v.category).sum ≤ 8) (hdg : decode cc pc = .ok (.invokevirtual index, 3)) (kk : ∀ (H1 : Heap) (locs1 : List Loc), sd_H D cy ad A s S2 H1 locs1 → W p l e R s m args below meth c H1 locs1 cells slots Q (F0 m (pc + 3) ls (.int r :: rest))) : W p l e R s m args below meth c H locs cells slots Q (F0 m pc ls (.int x2 :: .int x1 :: .ref (ad 0) :: rest)) :=
  sd_goI X (sd_runV C X hls (n := 2) (k := 0) (As := [.int x1, .int x2]) (c_X11_ways (l := l) (b0 := b0) h) (sd_goodV hlink sd_w33_23 sd_w34_0 sd_w1_2 sd_w34_1) (ci := 11) rfl (by rw [(show sd_kd 0 = 11 by decide)]; decide) (sd_c11 (show sd_kd 0 = 11 by decide)) (by decide +kernel) rfl hR rfl hst hdg) kk
/-! ===== SecretDays.knowersBehind(II)I ===== -/
def f_X11_knowersBehind_b43 (q9 : (Int32 → Int32 → Int32 → Int32 → sd_St → Option (Int32 × sd_St))) (x1 : Int32) (x2 : Int32) (x3 : Int32) (x4 : Int32) (S : sd_St) : Option (Int32 × sd_St) := q9 x1 x2 x3 (x4 + (1 : Int32)) S
set_option maxHeartbeats 4000000 in
set_option maxRecDepth 100000 in
theorem t_X11_knowersBehind_b43 (C : sd_C RX11 cX11_knowersBehind 5 (some .int) D cy ad A b0 p s m args meth c) {r : Int32} {S' : sd_St} {q9 : (Int32 → Int32 → Int32 → Int32 → sd_St → Option (Int32 × sd_St))} (hq9 : ∀ (x1 : Int32) (x2 : Int32) (x3 : Int32) (x4 : Int32) (S : sd_St) (H : Heap) (locs : List Loc) (ls : Array Slot), q9 x1 x2 x3 x4 S = some (r, S') → sd_H D cy ad A s S H locs → lv_has ls 5 [(0, .ref (ad 0)), (1, .int x1), (2, .int x2), (3, .int x3), (4, .int x4)] → W p l e (sd_rm 5) s m args below meth c H locs 0 0 (MQ below (sd_Qi D cy ad A r S') args s 0 0 A) (F0 m 9 ls [])) : ∀ (x1 : Int32) (x2 : Int32) (x3 : Int32) (x4 : Int32) (S : sd_St) (H : Heap) (locs : List Loc) (ls : Array Slot), f_X11_knowersBehind_b43 q9 x1 x2 x3 x4 S = some (r, S') → sd_H D cy ad A s S H locs → lv_has ls 5 [(0, .ref (ad 0)), (1, .int x1), (2, .int x2), (3, .int x3), (4, .int x4)] → W p l e (sd_rm 5) s m args below meth c H locs 0 0 (MQ below (sd_Qi D cy ad A r S') args s 0 0 A) (F0 m 43 ls []) := by
  obtain ⟨hx, hb, -, hml, hown, hts, -, hG⟩ := id C
  intro x1 x2 x3 x4 S H locs ls h X hl
  unfold f_X11_knowersBehind_b43 at h
  refine lv_iinc (v := (x4 + (1 : Int32))) (lv' := [(4, .int (x4 + (1 : Int32))), (0, .ref (ad 0)), (1, .int x1), (2, .int x2), (3, .int x3)]) hx hb dX11_knowersBehind_43 hl (k := 4) rfl rfl (by decide) rfl (fun ls hl => ?_)
  refine lv_goto (tgt := 9) hx hb dX11_knowersBehind_46 (by decide) ?_
  exact hq9 x1 x2 x3 (x4 + (1 : Int32)) S _ _ _ h X (lv_sub hl [1, 2, 3, 4, 0] rfl)
def f_X11_knowersBehind_l9 : Nat → Int32 → Int32 → Int32 → Int32 → sd_St → Option (Int32 × sd_St)
  | 0 => fun _ _ _ _ _ => none
  | n + 1 => fun x1 x2 x3 x4 S => (if (S.1 17 0) ≤ x4 then (some (x3, S)) else sd_in x1 (sd_al 33) (sd_nm (34 + 5 * x1.toNatClampNeg) (fun q_3 => sd_cl (f_X5_hadBy q_3 x4 x2 S) (fun r_5 S_4 => (if r_5 = 0 then f_X11_knowersBehind_b43 (f_X11_knowersBehind_l9 n) x1 x2 x3 x4 S_4 else sd_nm ((x3 ||| ((1 : Int32) <<< (x4 &&& 31)))) (fun v_7 => f_X11_knowersBehind_b43 (f_X11_knowersBehind_l9 n) x1 x2 v_7 x4 S_4))))))
set_option maxHeartbeats 4000000 in
set_option maxRecDepth 100000 in
theorem t_X11_knowersBehind_l9 (C : sd_C RX11 cX11_knowersBehind 5 (some .int) D cy ad A b0 p s m args meth c) {r : Int32} {S' : sd_St} : ∀ (n : Nat) (x1 : Int32) (x2 : Int32) (x3 : Int32) (x4 : Int32) (S : sd_St) (H : Heap) (locs : List Loc) (ls : Array Slot), f_X11_knowersBehind_l9 n x1 x2 x3 x4 S = some (r, S') → sd_H D cy ad A s S H locs → lv_has ls 5 [(0, .ref (ad 0)), (1, .int x1), (2, .int x2), (3, .int x3), (4, .int x4)] → W p l e (sd_rm 5) s m args below meth c H locs 0 0 (MQ below (sd_Qi D cy ad A r S') args s 0 0 A) (F0 m 9 ls []) := by
  obtain ⟨hx, hb, -, hml, hown, hts, -, hG⟩ := id C
  intro n
  induction n with
  | zero => intro x1 x2 x3 x4 S H locs ls h; cases h
  | succ n ih =>
    intro x1 x2 x3 x4 S H locs ls h X hl
    unfold f_X11_knowersBehind_l9 at h
    refine lv_iload hx hb dX11_knowersBehind_9 (lv_at hl 4 rfl) ?_
    refine lv_aload_n hx hb dX11_knowersBehind_11 rfl (lv_at hl 0 rfl) ?_
    refine sd_g11_1 (k := 0) C X (by decide) sd_w1_20 dX11_knowersBehind_12 ?_
    refine sd_g8_0 C X (by decide) sd_w24_9 dX11_knowersBehind_15 ?_
    refine lv_icmp_ge (tgt := 49) hx hb dX11_knowersBehind_18 (by decide) (fun c_1 => ?_) (fun c_1 => ?_)
    · have h := sd_ifp c_1 h
      refine lv_iload_n hx hb dX11_knowersBehind_49 rfl (lv_at hl 3 rfl) ?_
      cases h
      exact sd_iret C X dX11_knowersBehind_50
    · have h := sd_ifn c_1 h
      refine lv_aload_n hx hb dX11_knowersBehind_21 rfl (lv_at hl 0 rfl) ?_
      refine sd_g11_3 (k := 0) C X (by decide) sd_w2_2 dX11_knowersBehind_22 ?_
      refine lv_iload_n hx hb dX11_knowersBehind_25 rfl (lv_at hl 1 rfl) ?_
      obtain ⟨b_2, h⟩ := sd_in_some h
      obtain ⟨q_3, eq_3, h⟩ := sd_nm_some h
      have hq_3 : sd_kd q_3 = 5 := sd_e5 (by decide) b_2 eq_3
      refine sd_aald5 C X (by decide) b_2 dX11_knowersBehind_26 ?_
      rw [← eq_3]
      refine lv_iload hx hb dX11_knowersBehind_27 (lv_at hl 4 rfl) ?_
      refine lv_iload_n hx hb dX11_knowersBehind_29 rfl (lv_at hl 2 rfl) ?_
      obtain ⟨r_5, S_4, er_5, h⟩ := sd_cl_some h
      refine k_X5_hadBy C X hl.1 hq_3 er_5 sd_w35_0 (by decide) (Nat.le_of_ble_eq_true rfl) dX11_knowersBehind_30 (fun H locs X => ?_)
      refine lv_if_eq (tgt := 43) hx hb dX11_knowersBehind_33 (by decide) (fun c_6 => ?_) (fun c_6 => ?_)
      · have h := sd_ifp c_6 h
        exact t_X11_knowersBehind_b43 C ih x1 x2 x3 x4 S_4 _ _ _ h X (lv_sub hl [0, 1, 2, 3, 4] rfl)
      · have h := sd_ifn c_6 h
        refine lv_iload_n hx hb dX11_knowersBehind_36 rfl (lv_at hl 3 rfl) ?_
        refine lv_iconst (v := (1 : Int32)) hx hb dX11_knowersBehind_37 (by decide) ?_
        refine lv_iload hx hb dX11_knowersBehind_38 (lv_at hl 4 rfl) ?_
        refine lv_ishl hx hb dX11_knowersBehind_40 ?_
        refine lv_ior hx hb dX11_knowersBehind_41 ?_
        obtain ⟨v_7, e_7, h⟩ := sd_nm_some h
        refine sd_nmi e_7 ?_
        refine lv_istore_n (lv' := [(3, .int v_7), (0, .ref (ad 0)), (1, .int x1), (2, .int x2), (4, .int x4)]) hx hb dX11_knowersBehind_42 rfl hl (by decide) rfl (fun ls hl => ?_)
        exact t_X11_knowersBehind_b43 C ih x1 x2 v_7 x4 S_4 _ _ _ h X (lv_sub hl [1, 2, 3, 0, 4] rfl)
def f_X11_knowersBehind (x1 : Int32) (x2 : Int32) (S : sd_St) : Option (Int32 × sd_St) := sd_cl (f_X11_bringUpToDate S) (fun _ S_8 => f_X11_knowersBehind_l9 sd_FU x1 x2 (0 : Int32) (0 : Int32) S_8)
set_option maxHeartbeats 4000000 in
set_option maxRecDepth 100000 in
theorem c_X11_knowersBehind {x1 : Int32} {x2 : Int32} {S S' : sd_St} {r : Int32} (h : f_X11_knowersBehind x1 x2 S = some (r, S')) : Met l yX11_knowersBehind (Cond.code yX11_knowersBehind cX11_knowersBehind 5 (some .int) :: sd_wl) (sd_rm 5) (sd_P D cy ad A b0 [.ref (ad 0), .int x1, .int x2] S) (sd_Qi D cy ad A r S') 0 0 A := by
  refine sd_met (by decide) (Nat.le_of_ble_eq_true rfl) (fun p e s m args below meth c ls C X hl => ?_)
  obtain ⟨hx, hb, -, hml, hown, hts, -, hG⟩ := id C
  replace C : sd_C RX11 cX11_knowersBehind 5 (some .int) D cy ad A b0 p s m args meth c := C
  replace hl : lv_has ls 5 [(0, .ref (ad 0)), (1, .int x1), (2, .int x2)] := hl
  unfold f_X11_knowersBehind at h
  refine lv_aload_n hx hb dX11_knowersBehind_0 rfl (lv_at hl 0 rfl) ?_
  obtain ⟨r_9, S_8, er_9, h⟩ := sd_cl_some h
  refine k_X11_bringUpToDate C X hl.1 er_9 sd_w28_14 (by decide) (Nat.le_of_ble_eq_true rfl) dX11_knowersBehind_1 (fun H locs X => ?_)
  refine lv_iconst (v := (0 : Int32)) hx hb dX11_knowersBehind_4 (by decide) ?_
  refine lv_istore_n (lv' := [(3, .int (0 : Int32)), (0, .ref (ad 0)), (1, .int x1), (2, .int x2)]) hx hb dX11_knowersBehind_5 rfl hl (by decide) rfl (fun ls hl => ?_)
  refine lv_iconst (v := (0 : Int32)) hx hb dX11_knowersBehind_6 (by decide) ?_
  refine lv_istore (lv' := [(4, .int (0 : Int32)), (3, .int (0 : Int32)), (0, .ref (ad 0)), (1, .int x1), (2, .int x2)]) hx hb dX11_knowersBehind_7 hl (by decide) rfl (fun ls hl => ?_)
  exact t_X11_knowersBehind_l9 C sd_FU x1 x2 (0 : Int32) (0 : Int32) S_8 _ _ _ h X (lv_sub hl [2, 3, 4, 1, 0] rfl)
theorem k_X11_knowersBehind (C : sd_C own cc nL rt D cy ad A b0 p s m args meth c) (X : sd_H D cy ad A s S H locs) (hls : ls.size = nL) {x1 : Int32} {x2 : Int32} {S2 : sd_St} {r : Int32} (h : f_X11_knowersBehind x1 x2 S = some (r, S2)) (hlink : Cond.methodLink own index yX11_knowersBehind ∈ sd_wl) (hR : 6 ≤ R.frames ∧ 224 ≤ R.locals ∧ cells ≤ R.cells ∧ slots ≤ R.slots) (hst : (rest.map fun v => v.category).sum ≤ 8) (hdg : decode cc pc = .ok (.invokevirtual index, 3)) (kk : ∀ (H1 : Heap) (locs1 : List Loc), sd_H D cy ad A s S2 H1 locs1 → W p l e R s m args below meth c H1 locs1 cells slots Q (F0 m (pc + 3) ls (.int r :: rest))) : W p l e R s m args below meth c H locs cells slots Q (F0 m pc ls (.int x2 :: .int x1 :: .ref (ad 0) :: rest)) :=
  sd_goI X (sd_runV C X hls (n := 2) (k := 0) (As := [.int x1, .int x2]) (c_X11_knowersBehind (l := l) (b0 := b0) h) (sd_goodV hlink sd_w34_21 sd_w34_22 sd_w1_2 sd_w34_23) (ci := 11) rfl (by rw [(show sd_kd 0 = 11 by decide)]; decide) (sd_c11 (show sd_kd 0 = 11 by decide)) (by decide +kernel) rfl hR rfl hst hdg) kk
/-! ===== SecretDays.cant(II)I ===== -/
def f_X11_cant (x1 : Int32) (x2 : Int32) (S : sd_St) : Option (Int32 × sd_St) := sd_cl (f_X11_isSecret x1 S) (fun r_2 S_1 => (if r_2 = 0 then (some ((-1 : Int32), S_1)) else sd_cl (f_X11_isDate x2 S_1) (fun r_5 S_4 => (if r_5 = 0 then (some ((-1 : Int32), S_4)) else sd_cl (f_X8_everyone 17 S_4) (fun r_8 S_7 => sd_cl (f_X11_knowersBehind x1 x2 S_7) (fun r_10 S_9 => (some ((r_8 &&& (r_10 ^^^ (-1 : Int32))), S_9))))))))
set_option maxHeartbeats 4000000 in
set_option maxRecDepth 100000 in
theorem c_X11_cant {x1 : Int32} {x2 : Int32} {S S' : sd_St} {r : Int32} (h : f_X11_cant x1 x2 S = some (r, S')) : Met l yX11_cant (Cond.code yX11_cant cX11_cant 3 (some .int) :: sd_wl) (sd_rm 6) (sd_P D cy ad A b0 [.ref (ad 0), .int x1, .int x2] S) (sd_Qi D cy ad A r S') 0 0 A := by
  refine sd_met (by decide) (Nat.le_of_ble_eq_true rfl) (fun p e s m args below meth c ls C X hl => ?_)
  obtain ⟨hx, hb, -, hml, hown, hts, -, hG⟩ := id C
  replace C : sd_C RX11 cX11_cant 3 (some .int) D cy ad A b0 p s m args meth c := C
  replace hl : lv_has ls 3 [(0, .ref (ad 0)), (1, .int x1), (2, .int x2)] := hl
  unfold f_X11_cant at h
  refine lv_aload_n hx hb dX11_cant_0 rfl (lv_at hl 0 rfl) ?_
  refine lv_iload_n hx hb dX11_cant_1 rfl (lv_at hl 1 rfl) ?_
  obtain ⟨r_2, S_1, er_2, h⟩ := sd_cl_some h
  refine k_X11_isSecret C X hl.1 er_2 sd_w28_9 (by decide) (Nat.le_of_ble_eq_true rfl) dX11_cant_2 (fun H locs X => ?_)
  refine lv_if_eq (tgt := 16) hx hb dX11_cant_5 (by decide) (fun c_3 => ?_) (fun c_3 => ?_)
  · have h := sd_ifp c_3 h
    refine lv_iconst (v := (-1 : Int32)) hx hb dX11_cant_16 (by decide) ?_
    cases h
    exact sd_iret C X dX11_cant_17
  · have h := sd_ifn c_3 h
    refine lv_aload_n hx hb dX11_cant_8 rfl (lv_at hl 0 rfl) ?_
    refine lv_iload_n hx hb dX11_cant_9 rfl (lv_at hl 2 rfl) ?_
    obtain ⟨r_5, S_4, er_5, h⟩ := sd_cl_some h
    refine k_X11_isDate C X hl.1 er_5 sd_w26_12 (by decide) (Nat.le_of_ble_eq_true rfl) dX11_cant_10 (fun H locs X => ?_)
    refine lv_if_ne (tgt := 18) hx hb dX11_cant_13 (by decide) (fun c_6 => ?_) (fun c_6 => ?_)
    · have h := sd_ifn c_6 h
      refine lv_aload_n hx hb dX11_cant_18 rfl (lv_at hl 0 rfl) ?_
      refine sd_g11_1 (k := 0) C X (by decide) sd_w1_20 dX11_cant_19 ?_
      obtain ⟨r_8, S_7, er_8, h⟩ := sd_cl_some h
      refine k_X8_everyone C X hl.1 (by decide) er_8 sd_w34_16 (by decide) (Nat.le_of_ble_eq_true rfl) dX11_cant_22 (fun H locs X => ?_)
      refine lv_aload_n hx hb dX11_cant_25 rfl (lv_at hl 0 rfl) ?_
      refine lv_iload_n hx hb dX11_cant_26 rfl (lv_at hl 1 rfl) ?_
      refine lv_iload_n hx hb dX11_cant_27 rfl (lv_at hl 2 rfl) ?_
      obtain ⟨r_10, S_9, er_10, h⟩ := sd_cl_some h
      refine k_X11_knowersBehind C X hl.1 er_10 sd_w34_20 (by decide) (Nat.le_of_ble_eq_true rfl) dX11_cant_28 (fun H locs X => ?_)
      refine lv_iconst (v := (-1 : Int32)) hx hb dX11_cant_31 (by decide) ?_
      refine lv_ixor hx hb dX11_cant_32 ?_
      refine lv_iand hx hb dX11_cant_33 ?_
      cases h
      exact sd_iret C X dX11_cant_34
    · have h := sd_ifp c_6 h
      refine lv_iconst (v := (-1 : Int32)) hx hb dX11_cant_16 (by decide) ?_
      cases h
      exact sd_iret C X dX11_cant_17
theorem k_X11_cant (C : sd_C own cc nL rt D cy ad A b0 p s m args meth c) (X : sd_H D cy ad A s S H locs) (hls : ls.size = nL) {x1 : Int32} {x2 : Int32} {S2 : sd_St} {r : Int32} (h : f_X11_cant x1 x2 S = some (r, S2)) (hlink : Cond.methodLink own index yX11_cant ∈ sd_wl) (hR : 7 ≤ R.frames ∧ 262 ≤ R.locals ∧ cells ≤ R.cells ∧ slots ≤ R.slots) (hst : (rest.map fun v => v.category).sum ≤ 8) (hdg : decode cc pc = .ok (.invokevirtual index, 3)) (kk : ∀ (H1 : Heap) (locs1 : List Loc), sd_H D cy ad A s S2 H1 locs1 → W p l e R s m args below meth c H1 locs1 cells slots Q (F0 m (pc + 3) ls (.int r :: rest))) : W p l e R s m args below meth c H locs cells slots Q (F0 m pc ls (.int x2 :: .int x1 :: .ref (ad 0) :: rest)) :=
  sd_goI X (sd_runV C X hls (n := 2) (k := 0) (As := [.int x1, .int x2]) (c_X11_cant (l := l) (b0 := b0) h) (sd_goodV hlink sd_w34_13 sd_w34_14 sd_w1_2 sd_w34_15) (ci := 11) rfl (by rw [(show sd_kd 0 = 11 by decide)]; decide) (sd_c11 (show sd_kd 0 = 11 by decide)) (by decide +kernel) rfl hR rfl hst hdg) kk
end SM2
