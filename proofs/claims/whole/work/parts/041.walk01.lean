section SM1
variable {p : Program} {l : Launch} {e : Env} {R : Room} {s : State} {m : MethodId} {args : Array Value} {below : List Frame} {meth : Method} {c : Code} {H : Heap} {locs : List Loc} {Q : State → Prop}
variable {cc : ByteArray} {pc nL index cells slots : Nat} {ls : Array Slot} {rest : List Value} {D : va_G} {cy : Nat → ClassId} {ad : Nat → Nat} {A : Nat → Prop} {b0 : Nat} {own : String} {rt : Option FieldType} {S : sd_St}
/-! ===== SecretDays$Shutters.leadTo(LSecretDays$Doors;III)V ===== -/
def f_X6_leadTo_b58 (k0 : Nat) (k1 : Nat) (x2 : Int32) (x5 : Int32) (S : sd_St) : Option (Unit × sd_St) := sd_st S (k0 + 7) x2 x5 (fun S_1 => (some ((), S_1)))
set_option maxHeartbeats 4000000 in
set_option maxRecDepth 100000 in
theorem t_X6_leadTo_b58 (C : sd_C RX6 cX6_leadTo 7 none D cy ad A b0 p s m args meth c) {k0 : Nat} {k1 : Nat} (hk0 : sd_kd k0 = 6) (hk1 : sd_kd k1 = 1) {S' : sd_St} : ∀ (x2 : Int32) (x5 : Int32) (S : sd_St) (H : Heap) (locs : List Loc) (ls : Array Slot), f_X6_leadTo_b58 k0 k1 x2 x5 S = some ((), S') → sd_H D cy ad A s S H locs → lv_has ls 7 [(0, .ref (ad k0)), (2, .int x2), (5, .int x5)] → W p l e (sd_rm 1) s m args below meth c H locs 0 0 (MQ below (sd_Qv D cy ad A S') args s 0 0 A) (F0 m 58 ls []) := by
  obtain ⟨hx, hb, -, hml, hown, hts, -, hG⟩ := id C
  intro x2 x5 S H locs ls h X hl
  unfold f_X6_leadTo_b58 at h
  refine lv_aload_n hx hb dX6_leadTo_58 rfl (lv_at hl 0 rfl) ?_
  refine sd_g6_9 (k := k0) C X hk0 sd_w5_19 dX6_leadTo_59 ?_
  refine lv_iload_n hx hb dX6_leadTo_62 rfl (lv_at hl 1 rfl) ?_
  refine lv_iload hx hb dX6_leadTo_63 (lv_at hl 2 rfl) ?_
  obtain ⟨bS_1, S_1, eS_1, h⟩ := sd_st_some h
  refine sd_iast C X (sd_k6_7 hk0) bS_1 dX6_leadTo_65 (fun H locs X => ?_)
  rw [← eS_1] at X
  cases h
  exact sd_vret C X dX6_leadTo_66
def f_X6_leadTo_l11 (k0 : Nat) (k1 : Nat) : Nat → Int32 → Int32 → Int32 → Int32 → Int32 → sd_St → Option (Unit × sd_St)
  | 0 => fun _ _ _ _ _ _ => none
  | n + 1 => fun x2 x3 x4 x5 x6 S => (if (288 : Int32) ≤ x6 then f_X6_leadTo_b58 k0 k1 x2 x5 S else (if x5 < 0 then f_X6_leadTo_b58 k0 k1 x2 x5 S else sd_ld S (k1 + 2) x5 (fun v_4 => (if v_4 ≤ x3 then f_X6_leadTo_b58 k0 k1 x2 x5 S else sd_cl (f_X6_reachFront k0 x5 x4 S) (fun _ S_6 => sd_ld S_6 (k0 + 2) x5 (fun v_8 => (f_X6_leadTo_l11 k0 k1 n) x2 x3 x4 v_8 (x6 + (1 : Int32)) S_6))))))
set_option maxHeartbeats 4000000 in
set_option maxRecDepth 100000 in
theorem t_X6_leadTo_l11 (C : sd_C RX6 cX6_leadTo 7 none D cy ad A b0 p s m args meth c) {k0 : Nat} {k1 : Nat} (hk0 : sd_kd k0 = 6) (hk1 : sd_kd k1 = 1) {S' : sd_St} : ∀ (n : Nat) (x2 : Int32) (x3 : Int32) (x4 : Int32) (x5 : Int32) (x6 : Int32) (S : sd_St) (H : Heap) (locs : List Loc) (ls : Array Slot), f_X6_leadTo_l11 k0 k1 n x2 x3 x4 x5 x6 S = some ((), S') → sd_H D cy ad A s S H locs → lv_has ls 7 [(0, .ref (ad k0)), (1, .ref (ad k1)), (2, .int x2), (3, .int x3), (4, .int x4), (5, .int x5), (6, .int x6)] → W p l e (sd_rm 1) s m args below meth c H locs 0 0 (MQ below (sd_Qv D cy ad A S') args s 0 0 A) (F0 m 11 ls []) := by
  obtain ⟨hx, hb, -, hml, hown, hts, -, hG⟩ := id C
  intro n
  induction n with
  | zero => intro x2 x3 x4 x5 x6 S H locs ls h; cases h
  | succ n ih =>
    intro x2 x3 x4 x5 x6 S H locs ls h X hl
    unfold f_X6_leadTo_l11 at h
    refine lv_iload hx hb dX6_leadTo_11 (lv_at hl 6 rfl) ?_
    refine lv_sipush (v := (288 : Int32)) hx hb dX6_leadTo_13 (by decide) ?_
    refine lv_icmp_ge (tgt := 58) hx hb dX6_leadTo_16 (by decide) (fun c_2 => ?_) (fun c_2 => ?_)
    · have h := sd_ifp c_2 h
      exact t_X6_leadTo_b58 C hk0 hk1 x2 x5 S _ _ _ h X (lv_sub hl [0, 2, 5] rfl)
    · have h := sd_ifn c_2 h
      refine lv_iload hx hb dX6_leadTo_19 (lv_at hl 5 rfl) ?_
      refine lv_if_lt (tgt := 58) hx hb dX6_leadTo_21 (by decide) (fun c_3 => ?_) (fun c_3 => ?_)
      · have h := sd_ifp c_3 h
        exact t_X6_leadTo_b58 C hk0 hk1 x2 x5 S _ _ _ h X (lv_sub hl [0, 2, 5] rfl)
      · have h := sd_ifn c_3 h
        refine lv_aload_n hx hb dX6_leadTo_24 rfl (lv_at hl 1 rfl) ?_
        refine sd_g1_1 (k := k1) C X hk1 sd_w38_16 dX6_leadTo_25 ?_
        refine lv_iload hx hb dX6_leadTo_28 (lv_at hl 5 rfl) ?_
        obtain ⟨b_4, v_4, e_4, h⟩ := sd_ld_some h
        refine sd_iald C X (sd_k1_2 hk1) b_4 dX6_leadTo_30 (sd_nmi e_4 ?_)
        refine lv_iload_n hx hb dX6_leadTo_31 rfl (lv_at hl 3 rfl) ?_
        refine lv_icmp_le (tgt := 58) hx hb dX6_leadTo_32 (by decide) (fun c_5 => ?_) (fun c_5 => ?_)
        · have h := sd_ifp c_5 h
          exact t_X6_leadTo_b58 C hk0 hk1 x2 x5 S _ _ _ h X (lv_sub hl [0, 2, 5] rfl)
        · have h := sd_ifn c_5 h
          refine lv_aload_n hx hb dX6_leadTo_35 rfl (lv_at hl 0 rfl) ?_
          refine lv_iload hx hb dX6_leadTo_36 (lv_at hl 5 rfl) ?_
          refine lv_iload hx hb dX6_leadTo_38 (lv_at hl 4 rfl) ?_
          obtain ⟨r_7, S_6, er_7, h⟩ := sd_cl_some h
          refine k_X6_reachFront C X hl.1 hk0 er_7 sd_w39_6 (by decide) (Nat.le_of_ble_eq_true rfl) dX6_leadTo_40 (fun H locs X => ?_)
          refine lv_aload_n hx hb dX6_leadTo_43 rfl (lv_at hl 0 rfl) ?_
          refine sd_g6_4 (k := k0) C X hk0 sd_w5_13 dX6_leadTo_44 ?_
          refine lv_iload hx hb dX6_leadTo_47 (lv_at hl 5 rfl) ?_
          obtain ⟨b_8, v_8, e_8, h⟩ := sd_ld_some h
          refine sd_iald C X (sd_k6_2 hk0) b_8 dX6_leadTo_49 (sd_nmi e_8 ?_)
          refine lv_istore (lv' := [(5, .int v_8), (0, .ref (ad k0)), (1, .ref (ad k1)), (2, .int x2), (3, .int x3), (4, .int x4), (6, .int x6)]) hx hb dX6_leadTo_50 hl (by decide) rfl (fun ls hl => ?_)
          refine lv_iinc (v := (x6 + (1 : Int32))) (lv' := [(6, .int (x6 + (1 : Int32))), (5, .int v_8), (0, .ref (ad k0)), (1, .ref (ad k1)), (2, .int x2), (3, .int x3), (4, .int x4)]) hx hb dX6_leadTo_52 hl (k := 6) rfl rfl (by decide) rfl (fun ls hl => ?_)
          refine lv_goto (tgt := 11) hx hb dX6_leadTo_55 (by decide) ?_
          exact ih x2 x3 x4 v_8 (x6 + (1 : Int32)) S_6 _ _ _ h X (lv_sub hl [2, 3, 4, 5, 6, 1, 0] rfl)
def f_X6_leadTo (k0 : Nat) (k1 : Nat) (x2 : Int32) (x3 : Int32) (x4 : Int32) (S : sd_St) : Option (Unit × sd_St) := sd_ld S (k0 + 7) x2 (fun v_9 => f_X6_leadTo_l11 k0 k1 sd_FU x2 x3 x4 v_9 (0 : Int32) S)
set_option maxHeartbeats 4000000 in
set_option maxRecDepth 100000 in
theorem c_X6_leadTo {k0 : Nat} {k1 : Nat} {x2 : Int32} {x3 : Int32} {x4 : Int32} (hk0 : sd_kd k0 = 6) (hk1 : sd_kd k1 = 1) {S S' : sd_St} (h : f_X6_leadTo k0 k1 x2 x3 x4 S = some ((), S')) : Met l yX6_leadTo (Cond.code yX6_leadTo cX6_leadTo 7 none :: sd_wl) (sd_rm 1) (sd_P D cy ad A b0 [.ref (ad k0), .ref (ad k1), .int x2, .int x3, .int x4] S) (sd_Qv D cy ad A S') 0 0 A := by
  refine sd_met (by decide) (Nat.le_of_ble_eq_true rfl) (fun p e s m args below meth c ls C X hl => ?_)
  obtain ⟨hx, hb, -, hml, hown, hts, -, hG⟩ := id C
  replace C : sd_C RX6 cX6_leadTo 7 none D cy ad A b0 p s m args meth c := C
  replace hl : lv_has ls 7 [(0, .ref (ad k0)), (1, .ref (ad k1)), (2, .int x2), (3, .int x3), (4, .int x4)] := hl
  unfold f_X6_leadTo at h
  refine lv_aload_n hx hb dX6_leadTo_0 rfl (lv_at hl 0 rfl) ?_
  refine sd_g6_9 (k := k0) C X hk0 sd_w5_19 dX6_leadTo_1 ?_
  refine lv_iload_n hx hb dX6_leadTo_4 rfl (lv_at hl 2 rfl) ?_
  obtain ⟨b_9, v_9, e_9, h⟩ := sd_ld_some h
  refine sd_iald C X (sd_k6_7 hk0) b_9 dX6_leadTo_5 (sd_nmi e_9 ?_)
  refine lv_istore (lv' := [(5, .int v_9), (0, .ref (ad k0)), (1, .ref (ad k1)), (2, .int x2), (3, .int x3), (4, .int x4)]) hx hb dX6_leadTo_6 hl (by decide) rfl (fun ls hl => ?_)
  refine lv_iconst (v := (0 : Int32)) hx hb dX6_leadTo_8 (by decide) ?_
  refine lv_istore (lv' := [(6, .int (0 : Int32)), (5, .int v_9), (0, .ref (ad k0)), (1, .ref (ad k1)), (2, .int x2), (3, .int x3), (4, .int x4)]) hx hb dX6_leadTo_9 hl (by decide) rfl (fun ls hl => ?_)
  exact t_X6_leadTo_l11 C hk0 hk1 sd_FU x2 x3 x4 v_9 (0 : Int32) S _ _ _ h X (lv_sub hl [2, 3, 4, 5, 6, 1, 0] rfl)
theorem k_X6_leadTo (C : sd_C own cc nL rt D cy ad A b0 p s m args meth c) (X : sd_H D cy ad A s S H locs) (hls : ls.size = nL) {k0 : Nat} {k1 : Nat} {x2 : Int32} {x3 : Int32} {x4 : Int32} {S2 : sd_St} (hk0 : sd_kd k0 = 6) (hk1 : sd_kd k1 = 1) (h : f_X6_leadTo k0 k1 x2 x3 x4 S = some ((), S2)) (hlink : Cond.methodLink own index yX6_leadTo ∈ sd_wl) (hR : 2 ≤ R.frames ∧ 66 ≤ R.locals ∧ cells ≤ R.cells ∧ slots ≤ R.slots) (hst : (rest.map fun v => v.category).sum ≤ 8) (hdg : decode cc pc = .ok (.invokevirtual index, 3)) (kk : ∀ (H1 : Heap) (locs1 : List Loc), sd_H D cy ad A s S2 H1 locs1 → W p l e R s m args below meth c H1 locs1 cells slots Q (F0 m (pc + 3) ls rest)) : W p l e R s m args below meth c H locs cells slots Q (F0 m pc ls (.int x4 :: .int x3 :: .int x2 :: .ref (ad k1) :: .ref (ad k0) :: rest)) :=
  sd_goV X (sd_runV C X hls (n := 4) (k := k0) (As := [.ref (ad k1), .int x2, .int x3, .int x4]) (c_X6_leadTo (l := l) (b0 := b0) hk0 hk1 h) (sd_goodV hlink sd_w39_3 sd_w39_4 sd_w2_12 sd_w39_5) (ci := 6) rfl (by rw [hk0]; decide) (sd_c6 hk0) (by decide +kernel) rfl hR rfl hst hdg) kk
/-! ===== SecretDays$Shutters.keepWay(I)V ===== -/
def f_X6_keepWay_b78 (q4 : (Int32 → Int32 → sd_St → Option (Unit × sd_St))) (k0 : Nat) (x3 : Int32) (x5 : Int32) (S : sd_St) : Option (Unit × sd_St) := q4 x5 (x3 + (1 : Int32)) S
set_option maxHeartbeats 4000000 in
set_option maxRecDepth 100000 in
theorem t_X6_keepWay_b78 (C : sd_C RX6 cX6_keepWay 6 none D cy ad A b0 p s m args meth c) {k0 : Nat} (hk0 : sd_kd k0 = 6) {S' : sd_St} {q4 : (Int32 → Int32 → sd_St → Option (Unit × sd_St))} (hq4 : ∀ (x2 : Int32) (x3 : Int32) (S : sd_St) (H : Heap) (locs : List Loc) (ls : Array Slot), q4 x2 x3 S = some ((), S') → sd_H D cy ad A s S H locs → lv_has ls 6 [(0, .ref (ad k0)), (2, .int x2), (3, .int x3)] → W p l e (sd_rm 0) s m args below meth c H locs 0 0 (MQ below (sd_Qv D cy ad A S') args s 0 0 A) (F0 m 4 ls [])) : ∀ (x3 : Int32) (x5 : Int32) (S : sd_St) (H : Heap) (locs : List Loc) (ls : Array Slot), f_X6_keepWay_b78 q4 k0 x3 x5 S = some ((), S') → sd_H D cy ad A s S H locs → lv_has ls 6 [(0, .ref (ad k0)), (3, .int x3), (5, .int x5)] → W p l e (sd_rm 0) s m args below meth c H locs 0 0 (MQ below (sd_Qv D cy ad A S') args s 0 0 A) (F0 m 78 ls []) := by
  obtain ⟨hx, hb, -, hml, hown, hts, -, hG⟩ := id C
  intro x3 x5 S H locs ls h X hl
  unfold f_X6_keepWay_b78 at h
  refine lv_iload hx hb dX6_keepWay_78 (lv_at hl 2 rfl) ?_
  refine lv_istore_n (lv' := [(2, .int x5), (0, .ref (ad k0)), (3, .int x3), (5, .int x5)]) hx hb dX6_keepWay_80 rfl hl (by decide) rfl (fun ls hl => ?_)
  refine lv_iinc (v := (x3 + (1 : Int32))) (lv' := [(3, .int (x3 + (1 : Int32))), (2, .int x5), (0, .ref (ad k0)), (5, .int x5)]) hx hb dX6_keepWay_81 hl (k := 2) rfl rfl (by decide) rfl (fun ls hl => ?_)
  refine lv_goto (tgt := 4) hx hb dX6_keepWay_84 (by decide) ?_
  exact hq4 x5 (x3 + (1 : Int32)) S _ _ _ h X (lv_sub hl [2, 1, 0] rfl)
def f_X6_keepWay_b42 (q4 : (Int32 → Int32 → sd_St → Option (Unit × sd_St))) (k0 : Nat) (x3 : Int32) (x4 : Int32) (S : sd_St) : Option (Unit × sd_St) := sd_ld S (k0 + 5) x4 (fun v_1 => (if v_1 = x4 then sd_st S (k0 + 3) x4 (vp_nar .boolean (0 : Int32)) (fun S_4 => f_X6_keepWay_b78 q4 k0 x3 v_1 S_4) else sd_st S (k0 + 4) x4 v_1 (fun S_3 => f_X6_keepWay_b78 q4 k0 x3 v_1 S_3)))
set_option maxHeartbeats 4000000 in
set_option maxRecDepth 100000 in
theorem t_X6_keepWay_b42 (C : sd_C RX6 cX6_keepWay 6 none D cy ad A b0 p s m args meth c) {k0 : Nat} (hk0 : sd_kd k0 = 6) {S' : sd_St} {q4 : (Int32 → Int32 → sd_St → Option (Unit × sd_St))} (hq4 : ∀ (x2 : Int32) (x3 : Int32) (S : sd_St) (H : Heap) (locs : List Loc) (ls : Array Slot), q4 x2 x3 S = some ((), S') → sd_H D cy ad A s S H locs → lv_has ls 6 [(0, .ref (ad k0)), (2, .int x2), (3, .int x3)] → W p l e (sd_rm 0) s m args below meth c H locs 0 0 (MQ below (sd_Qv D cy ad A S') args s 0 0 A) (F0 m 4 ls [])) : ∀ (x3 : Int32) (x4 : Int32) (S : sd_St) (H : Heap) (locs : List Loc) (ls : Array Slot), f_X6_keepWay_b42 q4 k0 x3 x4 S = some ((), S') → sd_H D cy ad A s S H locs → lv_has ls 6 [(0, .ref (ad k0)), (3, .int x3), (4, .int x4)] → W p l e (sd_rm 0) s m args below meth c H locs 0 0 (MQ below (sd_Qv D cy ad A S') args s 0 0 A) (F0 m 42 ls []) := by
  obtain ⟨hx, hb, -, hml, hown, hts, -, hG⟩ := id C
  intro x3 x4 S H locs ls h X hl
  unfold f_X6_keepWay_b42 at h
  refine lv_aload_n hx hb dX6_keepWay_42 rfl (lv_at hl 0 rfl) ?_
  refine sd_g6_7 (k := k0) C X hk0 sd_w5_17 dX6_keepWay_43 ?_
  refine lv_iload hx hb dX6_keepWay_46 (lv_at hl 2 rfl) ?_
  obtain ⟨b_1, v_1, e_1, h⟩ := sd_ld_some h
  refine sd_iald C X (sd_k6_5 hk0) b_1 dX6_keepWay_48 (sd_nmi e_1 ?_)
  refine lv_istore (lv' := [(5, .int v_1), (0, .ref (ad k0)), (3, .int x3), (4, .int x4)]) hx hb dX6_keepWay_49 hl (by decide) rfl (fun ls hl => ?_)
  refine lv_iload hx hb dX6_keepWay_51 (lv_at hl 0 rfl) ?_
  refine lv_iload hx hb dX6_keepWay_53 (lv_at hl 3 rfl) ?_
  refine lv_icmp_ne (tgt := 69) hx hb dX6_keepWay_55 (by decide) (fun c_2 => ?_) (fun c_2 => ?_)
  · have h := sd_ifn c_2 h
    refine lv_aload_n hx hb dX6_keepWay_69 rfl (lv_at hl 1 rfl) ?_
    refine sd_g6_6 (k := k0) C X hk0 sd_w5_16 dX6_keepWay_70 ?_
    refine lv_iload hx hb dX6_keepWay_73 (lv_at hl 3 rfl) ?_
    refine lv_iload hx hb dX6_keepWay_75 (lv_at hl 0 rfl) ?_
    obtain ⟨bS_3, S_3, eS_3, h⟩ := sd_st_some h
    refine sd_iast C X (sd_k6_4 hk0) bS_3 dX6_keepWay_77 (fun H locs X => ?_)
    rw [← eS_3] at X
    exact t_X6_keepWay_b78 C hk0 hq4 x3 v_1 S_3 _ _ _ h X (lv_sub hl [1, 2, 0] rfl)
  · have h := sd_ifp c_2 h
    refine lv_aload_n hx hb dX6_keepWay_58 rfl (lv_at hl 1 rfl) ?_
    refine sd_g6_5 (k := k0) C X hk0 sd_w5_15 dX6_keepWay_59 ?_
    refine lv_iload hx hb dX6_keepWay_62 (lv_at hl 3 rfl) ?_
    refine lv_iconst (v := (0 : Int32)) hx hb dX6_keepWay_64 (by decide) ?_
    obtain ⟨bS_4, S_4, eS_4, h⟩ := sd_st_some h
    refine sd_zast C X (sd_k6_3 hk0) bS_4 dX6_keepWay_65 (fun H locs X => ?_)
    rw [← eS_4] at X
    refine lv_goto (tgt := 78) hx hb dX6_keepWay_66 (by decide) ?_
    exact t_X6_keepWay_b78 C hk0 hq4 x3 v_1 S_4 _ _ _ h X (lv_sub hl [1, 2, 0] rfl)
def f_X6_keepWay_l4 (k0 : Nat) : Nat → Int32 → Int32 → sd_St → Option (Unit × sd_St)
  | 0 => fun _ _ _ => none
  | n + 1 => fun x2 x3 S => (if (288 : Int32) ≤ x3 then (some ((), S)) else (if x2 < 0 then (some ((), S)) else sd_ld S (k0 + 6) x2 (fun v_7 => (if 0 ≤ v_7 then (if v_7 = x2 then sd_st S (k0 + 3) x2 (vp_nar .boolean (1 : Int32)) (fun S_10 => f_X6_keepWay_b42 (f_X6_keepWay_l4 k0 n) k0 x3 v_7 S_10) else f_X6_keepWay_b42 (f_X6_keepWay_l4 k0 n) k0 x3 v_7 S) else (some ((), S))))))
set_option maxHeartbeats 4000000 in
set_option maxRecDepth 100000 in
theorem t_X6_keepWay_l4 (C : sd_C RX6 cX6_keepWay 6 none D cy ad A b0 p s m args meth c) {k0 : Nat} (hk0 : sd_kd k0 = 6) {S' : sd_St} : ∀ (n : Nat) (x2 : Int32) (x3 : Int32) (S : sd_St) (H : Heap) (locs : List Loc) (ls : Array Slot), f_X6_keepWay_l4 k0 n x2 x3 S = some ((), S') → sd_H D cy ad A s S H locs → lv_has ls 6 [(0, .ref (ad k0)), (2, .int x2), (3, .int x3)] → W p l e (sd_rm 0) s m args below meth c H locs 0 0 (MQ below (sd_Qv D cy ad A S') args s 0 0 A) (F0 m 4 ls []) := by
  obtain ⟨hx, hb, -, hml, hown, hts, -, hG⟩ := id C
  intro n
  induction n with
  | zero => intro x2 x3 S H locs ls h; cases h
  | succ n ih =>
    intro x2 x3 S H locs ls h X hl
    unfold f_X6_keepWay_l4 at h
    refine lv_iload_n hx hb dX6_keepWay_4 rfl (lv_at hl 2 rfl) ?_
    refine lv_sipush (v := (288 : Int32)) hx hb dX6_keepWay_5 (by decide) ?_
    refine lv_icmp_ge (tgt := 87) hx hb dX6_keepWay_8 (by decide) (fun c_5 => ?_) (fun c_5 => ?_)
    · have h := sd_ifp c_5 h
      cases h
      exact sd_vret C X dX6_keepWay_87
    · have h := sd_ifn c_5 h
      refine lv_iload_n hx hb dX6_keepWay_11 rfl (lv_at hl 1 rfl) ?_
      refine lv_if_lt (tgt := 87) hx hb dX6_keepWay_12 (by decide) (fun c_6 => ?_) (fun c_6 => ?_)
      · have h := sd_ifp c_6 h
        cases h
        exact sd_vret C X dX6_keepWay_87
      · have h := sd_ifn c_6 h
        refine lv_aload_n hx hb dX6_keepWay_15 rfl (lv_at hl 0 rfl) ?_
        refine sd_g6_8 (k := k0) C X hk0 sd_w5_18 dX6_keepWay_16 ?_
        refine lv_iload_n hx hb dX6_keepWay_19 rfl (lv_at hl 1 rfl) ?_
        obtain ⟨b_7, v_7, e_7, h⟩ := sd_ld_some h
        refine sd_iald C X (sd_k6_6 hk0) b_7 dX6_keepWay_20 (sd_nmi e_7 ?_)
        refine lv_istore (lv' := [(4, .int v_7), (0, .ref (ad k0)), (2, .int x2), (3, .int x3)]) hx hb dX6_keepWay_21 hl (by decide) rfl (fun ls hl => ?_)
        refine lv_iload hx hb dX6_keepWay_23 (lv_at hl 0 rfl) ?_
        refine lv_if_ge (tgt := 29) hx hb dX6_keepWay_25 (by decide) (fun c_8 => ?_) (fun c_8 => ?_)
        · have h := sd_ifp c_8 h
          refine lv_iload hx hb dX6_keepWay_29 (lv_at hl 0 rfl) ?_
          refine lv_iload_n hx hb dX6_keepWay_31 rfl (lv_at hl 2 rfl) ?_
          refine lv_icmp_ne (tgt := 42) hx hb dX6_keepWay_32 (by decide) (fun c_9 => ?_) (fun c_9 => ?_)
          · have h := sd_ifn c_9 h
            exact t_X6_keepWay_b42 C hk0 ih x3 v_7 S _ _ _ h X (lv_sub hl [1, 3, 0] rfl)
          · have h := sd_ifp c_9 h
            refine lv_aload_n hx hb dX6_keepWay_35 rfl (lv_at hl 1 rfl) ?_
            refine sd_g6_5 (k := k0) C X hk0 sd_w5_15 dX6_keepWay_36 ?_
            refine lv_iload_n hx hb dX6_keepWay_39 rfl (lv_at hl 2 rfl) ?_
            refine lv_iconst (v := (1 : Int32)) hx hb dX6_keepWay_40 (by decide) ?_
            obtain ⟨bS_10, S_10, eS_10, h⟩ := sd_st_some h
            refine sd_zast C X (sd_k6_3 hk0) bS_10 dX6_keepWay_41 (fun H locs X => ?_)
            rw [← eS_10] at X
            exact t_X6_keepWay_b42 C hk0 ih x3 v_7 S_10 _ _ _ h X (lv_sub hl [1, 3, 0] rfl)
        · have h := sd_ifn c_8 h
          cases h
          exact sd_vret C X dX6_keepWay_28
def f_X6_keepWay (k0 : Nat) (x1 : Int32) (S : sd_St) : Option (Unit × sd_St) := f_X6_keepWay_l4 k0 sd_FU x1 (0 : Int32) S
set_option maxHeartbeats 4000000 in
set_option maxRecDepth 100000 in
theorem c_X6_keepWay {k0 : Nat} {x1 : Int32} (hk0 : sd_kd k0 = 6) {S S' : sd_St} (h : f_X6_keepWay k0 x1 S = some ((), S')) : Met l yX6_keepWay (Cond.code yX6_keepWay cX6_keepWay 6 none :: sd_wl) (sd_rm 0) (sd_P D cy ad A b0 [.ref (ad k0), .int x1] S) (sd_Qv D cy ad A S') 0 0 A := by
  refine sd_met (by decide) (Nat.le_of_ble_eq_true rfl) (fun p e s m args below meth c ls C X hl => ?_)
  obtain ⟨hx, hb, -, hml, hown, hts, -, hG⟩ := id C
  replace C : sd_C RX6 cX6_keepWay 6 none D cy ad A b0 p s m args meth c := C
  replace hl : lv_has ls 6 [(0, .ref (ad k0)), (1, .int x1)] := hl
  unfold f_X6_keepWay at h
  refine lv_iload_n hx hb dX6_keepWay_0 rfl (lv_at hl 1 rfl) ?_
  refine lv_istore_n (lv' := [(2, .int x1), (0, .ref (ad k0)), (1, .int x1)]) hx hb dX6_keepWay_1 rfl hl (by decide) rfl (fun ls hl => ?_)
  refine lv_iconst (v := (0 : Int32)) hx hb dX6_keepWay_2 (by decide) ?_
  refine lv_istore_n (lv' := [(3, .int (0 : Int32)), (2, .int x1), (0, .ref (ad k0)), (1, .int x1)]) hx hb dX6_keepWay_3 rfl hl (by decide) rfl (fun ls hl => ?_)
  exact t_X6_keepWay_l4 C hk0 sd_FU x1 (0 : Int32) S _ _ _ h X (lv_sub hl [2, 1, 0] rfl)
theorem k_X6_keepWay (C : sd_C own cc nL rt D cy ad A b0 p s m args meth c) (X : sd_H D cy ad A s S H locs) (hls : ls.size = nL) {k0 : Nat} {x1 : Int32} {S2 : sd_St} (hk0 : sd_kd k0 = 6) (h : f_X6_keepWay k0 x1 S = some ((), S2)) (hlink : Cond.methodLink own index yX6_keepWay ∈ sd_wl) (hR : 1 ≤ R.frames ∧ 25 ≤ R.locals ∧ cells ≤ R.cells ∧ slots ≤ R.slots) (hst : (rest.map fun v => v.category).sum ≤ 8) (hdg : decode cc pc = .ok (.invokevirtual index, 3)) (kk : ∀ (H1 : Heap) (locs1 : List Loc), sd_H D cy ad A s S2 H1 locs1 → W p l e R s m args below meth c H1 locs1 cells slots Q (F0 m (pc + 3) ls rest)) : W p l e R s m args below meth c H locs cells slots Q (F0 m pc ls (.int x1 :: .ref (ad k0) :: rest)) :=
  sd_goV X (sd_runV C X hls (n := 1) (k := k0) (As := [.int x1]) (c_X6_keepWay (l := l) (b0 := b0) hk0 h) (sd_goodV hlink sd_w39_11 sd_w39_12 sd_w2_12 sd_w39_13) (ci := 6) rfl (by rw [hk0]; decide) (sd_c6 hk0) (by decide +kernel) rfl hR rfl hst hdg) kk
/-! ===== SecretDays$Shutters.goOnFromBack(LSecretDays$Doors;I)V ===== -/
def f_X6_goOnFromBack_b34 (q2 : (Int32 → Int32 → sd_St → Option (Unit × sd_St))) (k0 : Nat) (k1 : Nat) (x2 : Int32) (x3 : Int32) (S : sd_St) : Option (Unit × sd_St) := q2 x2 (x3 + (1 : Int32)) S
set_option maxHeartbeats 4000000 in
set_option maxRecDepth 100000 in
theorem t_X6_goOnFromBack_b34 (C : sd_C RX6 cX6_goOnFromBack 4 none D cy ad A b0 p s m args meth c) {k0 : Nat} {k1 : Nat} (hk0 : sd_kd k0 = 6) (hk1 : sd_kd k1 = 1) {S' : sd_St} {q2 : (Int32 → Int32 → sd_St → Option (Unit × sd_St))} (hq2 : ∀ (x2 : Int32) (x3 : Int32) (S : sd_St) (H : Heap) (locs : List Loc) (ls : Array Slot), q2 x2 x3 S = some ((), S') → sd_H D cy ad A s S H locs → lv_has ls 4 [(0, .ref (ad k0)), (1, .ref (ad k1)), (2, .int x2), (3, .int x3)] → W p l e (sd_rm 2) s m args below meth c H locs 0 0 (MQ below (sd_Qv D cy ad A S') args s 0 0 A) (F0 m 2 ls [])) : ∀ (x2 : Int32) (x3 : Int32) (S : sd_St) (H : Heap) (locs : List Loc) (ls : Array Slot), f_X6_goOnFromBack_b34 q2 k0 k1 x2 x3 S = some ((), S') → sd_H D cy ad A s S H locs → lv_has ls 4 [(0, .ref (ad k0)), (1, .ref (ad k1)), (2, .int x2), (3, .int x3)] → W p l e (sd_rm 2) s m args below meth c H locs 0 0 (MQ below (sd_Qv D cy ad A S') args s 0 0 A) (F0 m 34 ls []) := by
  obtain ⟨hx, hb, -, hml, hown, hts, -, hG⟩ := id C
  intro x2 x3 S H locs ls h X hl
  unfold f_X6_goOnFromBack_b34 at h
  refine lv_iinc (v := (x3 + (1 : Int32))) (lv' := [(3, .int (x3 + (1 : Int32))), (0, .ref (ad k0)), (1, .ref (ad k1)), (2, .int x2)]) hx hb dX6_goOnFromBack_34 hl (k := 3) rfl rfl (by decide) rfl (fun ls hl => ?_)
  refine lv_goto (tgt := 2) hx hb dX6_goOnFromBack_37 (by decide) ?_
  exact hq2 x2 (x3 + (1 : Int32)) S _ _ _ h X (lv_sub hl [1, 2, 3, 0] rfl)
def f_X6_goOnFromBack_l2 (k0 : Nat) (k1 : Nat) : Nat → Int32 → Int32 → sd_St → Option (Unit × sd_St)
  | 0 => fun _ _ _ => none
  | n + 1 => fun x2 x3 S => (if (12 : Int32) ≤ x3 then sd_ld S (k0 + 3) x2 (fun v_2 => (if v_2 = 0 then (some ((), S)) else sd_cl (f_X6_reachFront k0 x2 x2 S) (fun _ S_4 => (some ((), S_4))))) else sd_ld S (k1 + 4) x2 (fun v_6 => sd_cl (f_X11_has v_6 x3 S) (fun r_8 S_7 => (if r_8 = 0 then f_X6_goOnFromBack_b34 (f_X6_goOnFromBack_l2 k0 k1 n) k0 k1 x2 x3 S_7 else sd_ld S_7 (k1 + 2) x2 (fun v_10 => sd_cl (f_X6_leadTo k0 k1 x3 v_10 x2 S_7) (fun _ S_11 => f_X6_goOnFromBack_b34 (f_X6_goOnFromBack_l2 k0 k1 n) k0 k1 x2 x3 S_11))))))
set_option maxHeartbeats 4000000 in
set_option maxRecDepth 100000 in
theorem t_X6_goOnFromBack_l2 (C : sd_C RX6 cX6_goOnFromBack 4 none D cy ad A b0 p s m args meth c) {k0 : Nat} {k1 : Nat} (hk0 : sd_kd k0 = 6) (hk1 : sd_kd k1 = 1) {S' : sd_St} : ∀ (n : Nat) (x2 : Int32) (x3 : Int32) (S : sd_St) (H : Heap) (locs : List Loc) (ls : Array Slot), f_X6_goOnFromBack_l2 k0 k1 n x2 x3 S = some ((), S') → sd_H D cy ad A s S H locs → lv_has ls 4 [(0, .ref (ad k0)), (1, .ref (ad k1)), (2, .int x2), (3, .int x3)] → W p l e (sd_rm 2) s m args below meth c H locs 0 0 (MQ below (sd_Qv D cy ad A S') args s 0 0 A) (F0 m 2 ls []) := by
  obtain ⟨hx, hb, -, hml, hown, hts, -, hG⟩ := id C
  intro n
  induction n with
  | zero => intro x2 x3 S H locs ls h; cases h
  | succ n ih =>
    intro x2 x3 S H locs ls h X hl
    unfold f_X6_goOnFromBack_l2 at h
    refine lv_iload_n hx hb dX6_goOnFromBack_2 rfl (lv_at hl 3 rfl) ?_
    refine lv_bipush (v := (12 : Int32)) hx hb dX6_goOnFromBack_3 (by decide) ?_
    refine lv_icmp_ge (tgt := 40) hx hb dX6_goOnFromBack_5 (by decide) (fun c_1 => ?_) (fun c_1 => ?_)
    · have h := sd_ifp c_1 h
      refine lv_aload_n hx hb dX6_goOnFromBack_40 rfl (lv_at hl 0 rfl) ?_
      refine sd_g6_5 (k := k0) C X hk0 sd_w5_15 dX6_goOnFromBack_41 ?_
      refine lv_iload_n hx hb dX6_goOnFromBack_44 rfl (lv_at hl 2 rfl) ?_
      obtain ⟨b_2, v_2, e_2, h⟩ := sd_ld_some h
      refine sd_zald C X (sd_k6_3 hk0) b_2 dX6_goOnFromBack_45 (sd_nmi e_2 ?_)
      refine lv_if_eq (tgt := 55) hx hb dX6_goOnFromBack_46 (by decide) (fun c_3 => ?_) (fun c_3 => ?_)
      · have h := sd_ifp c_3 h
        cases h
        exact sd_vret C X dX6_goOnFromBack_55
      · have h := sd_ifn c_3 h
        refine lv_aload_n hx hb dX6_goOnFromBack_49 rfl (lv_at hl 0 rfl) ?_
        refine lv_iload_n hx hb dX6_goOnFromBack_50 rfl (lv_at hl 2 rfl) ?_
        refine lv_iload_n hx hb dX6_goOnFromBack_51 rfl (lv_at hl 2 rfl) ?_
        obtain ⟨r_5, S_4, er_5, h⟩ := sd_cl_some h
        refine k_X6_reachFront C X hl.1 hk0 er_5 sd_w39_6 (by decide) (Nat.le_of_ble_eq_true rfl) dX6_goOnFromBack_52 (fun H locs X => ?_)
        cases h
        exact sd_vret C X dX6_goOnFromBack_55
    · have h := sd_ifn c_1 h
      refine lv_aload_n hx hb dX6_goOnFromBack_8 rfl (lv_at hl 1 rfl) ?_
      refine sd_g1_3 (k := k1) C X hk1 sd_w39_1 dX6_goOnFromBack_9 ?_
      refine lv_iload_n hx hb dX6_goOnFromBack_12 rfl (lv_at hl 2 rfl) ?_
      obtain ⟨b_6, v_6, e_6, h⟩ := sd_ld_some h
      refine sd_iald C X (sd_k1_4 hk1) b_6 dX6_goOnFromBack_13 (sd_nmi e_6 ?_)
      refine lv_iload_n hx hb dX6_goOnFromBack_14 rfl (lv_at hl 3 rfl) ?_
      obtain ⟨r_8, S_7, er_8, h⟩ := sd_cl_some h
      refine k_X11_has_n C X hl.1 er_8 (List.mem_of_getElem? (i := 16) rfl) (by decide) (Nat.le_of_ble_eq_true rfl) dX6_goOnFromBack_15 (fun H locs X => ?_)
      refine lv_if_eq (tgt := 34) hx hb dX6_goOnFromBack_18 (by decide) (fun c_9 => ?_) (fun c_9 => ?_)
      · have h := sd_ifp c_9 h
        exact t_X6_goOnFromBack_b34 C hk0 hk1 ih x2 x3 S_7 _ _ _ h X (lv_sub hl [0, 1, 2, 3] rfl)
      · have h := sd_ifn c_9 h
        refine lv_aload_n hx hb dX6_goOnFromBack_21 rfl (lv_at hl 0 rfl) ?_
        refine lv_aload_n hx hb dX6_goOnFromBack_22 rfl (lv_at hl 1 rfl) ?_
        refine lv_iload_n hx hb dX6_goOnFromBack_23 rfl (lv_at hl 3 rfl) ?_
        refine lv_aload_n hx hb dX6_goOnFromBack_24 rfl (lv_at hl 1 rfl) ?_
        refine sd_g1_1 (k := k1) C X hk1 sd_w38_16 dX6_goOnFromBack_25 ?_
        refine lv_iload_n hx hb dX6_goOnFromBack_28 rfl (lv_at hl 2 rfl) ?_
        obtain ⟨b_10, v_10, e_10, h⟩ := sd_ld_some h
        refine sd_iald C X (sd_k1_2 hk1) b_10 dX6_goOnFromBack_29 (sd_nmi e_10 ?_)
        refine lv_iload_n hx hb dX6_goOnFromBack_30 rfl (lv_at hl 2 rfl) ?_
        obtain ⟨r_12, S_11, er_12, h⟩ := sd_cl_some h
        refine k_X6_leadTo C X hl.1 hk0 hk1 er_12 sd_w39_2 (by decide) (Nat.le_of_ble_eq_true rfl) dX6_goOnFromBack_31 (fun H locs X => ?_)
        exact t_X6_goOnFromBack_b34 C hk0 hk1 ih x2 x3 S_11 _ _ _ h X (lv_sub hl [0, 1, 2, 3] rfl)
def f_X6_goOnFromBack (k0 : Nat) (k1 : Nat) (x2 : Int32) (S : sd_St) : Option (Unit × sd_St) := f_X6_goOnFromBack_l2 k0 k1 sd_FU x2 (0 : Int32) S
set_option maxHeartbeats 4000000 in
set_option maxRecDepth 100000 in
theorem c_X6_goOnFromBack {k0 : Nat} {k1 : Nat} {x2 : Int32} (hk0 : sd_kd k0 = 6) (hk1 : sd_kd k1 = 1) {S S' : sd_St} (h : f_X6_goOnFromBack k0 k1 x2 S = some ((), S')) : Met l yX6_goOnFromBack (Cond.code yX6_goOnFromBack cX6_goOnFromBack 4 none :: sd_wl) (sd_rm 2) (sd_P D cy ad A b0 [.ref (ad k0), .ref (ad k1), .int x2] S) (sd_Qv D cy ad A S') 0 0 A := by
  refine sd_met (by decide) (Nat.le_of_ble_eq_true rfl) (fun p e s m args below meth c ls C X hl => ?_)
  obtain ⟨hx, hb, -, hml, hown, hts, -, hG⟩ := id C
  replace C : sd_C RX6 cX6_goOnFromBack 4 none D cy ad A b0 p s m args meth c := C
  replace hl : lv_has ls 4 [(0, .ref (ad k0)), (1, .ref (ad k1)), (2, .int x2)] := hl
  unfold f_X6_goOnFromBack at h
  refine lv_iconst (v := (0 : Int32)) hx hb dX6_goOnFromBack_0 (by decide) ?_
  refine lv_istore_n (lv' := [(3, .int (0 : Int32)), (0, .ref (ad k0)), (1, .ref (ad k1)), (2, .int x2)]) hx hb dX6_goOnFromBack_1 rfl hl (by decide) rfl (fun ls hl => ?_)
  exact t_X6_goOnFromBack_l2 C hk0 hk1 sd_FU x2 (0 : Int32) S _ _ _ h X (lv_sub hl [1, 2, 3, 0] rfl)
theorem k_X6_goOnFromBack (C : sd_C own cc nL rt D cy ad A b0 p s m args meth c) (X : sd_H D cy ad A s S H locs) (hls : ls.size = nL) {k0 : Nat} {k1 : Nat} {x2 : Int32} {S2 : sd_St} (hk0 : sd_kd k0 = 6) (hk1 : sd_kd k1 = 1) (h : f_X6_goOnFromBack k0 k1 x2 S = some ((), S2)) (hlink : Cond.methodLink own index yX6_goOnFromBack ∈ sd_wl) (hR : 3 ≤ R.frames ∧ 103 ≤ R.locals ∧ cells ≤ R.cells ∧ slots ≤ R.slots) (hst : (rest.map fun v => v.category).sum ≤ 8) (hdg : decode cc pc = .ok (.invokevirtual index, 3)) (kk : ∀ (H1 : Heap) (locs1 : List Loc), sd_H D cy ad A s S2 H1 locs1 → W p l e R s m args below meth c H1 locs1 cells slots Q (F0 m (pc + 3) ls rest)) : W p l e R s m args below meth c H locs cells slots Q (F0 m pc ls (.int x2 :: .ref (ad k1) :: .ref (ad k0) :: rest)) :=
  sd_goV X (sd_runV C X hls (n := 2) (k := k0) (As := [.ref (ad k1), .int x2]) (c_X6_goOnFromBack (l := l) (b0 := b0) hk0 hk1 h) (sd_goodV hlink sd_w39_15 sd_w39_16 sd_w2_12 sd_w39_17) (ci := 6) rfl (by rw [hk0]; decide) (sd_c6 hk0) (by decide +kernel) rfl hR rfl hst hdg) kk
/-! ===== SecretDays$Shutters.reachBack(II)V ===== -/
def f_X6_reachBack (k0 : Nat) (x1 : Int32) (x2 : Int32) (S : sd_St) : Option (Unit × sd_St) := sd_ld S (k0 + 6) x1 (fun v_1 => (if v_1 = (-2 : Int32) then (if (Int32.ofNat (sd_al (k0 + 8))) ≤ (S.1 k0 11) then (some ((), S)) else sd_st S (k0 + 6) x1 x2 (fun S_4 => sd_st S_4 (k0 + 8) (S_4.1 k0 11) ((x1 <<< ((1 : Int32) &&& 31)) ||| (1 : Int32)) (fun S_5 => sd_nm (sd_I S_5 k0 11 ((S_5.1 k0 11) + (1 : Int32))) (fun S_6 => (some ((), S_6)))))) else (some ((), S))))
set_option maxHeartbeats 4000000 in
set_option maxRecDepth 100000 in
theorem c_X6_reachBack {k0 : Nat} {x1 : Int32} {x2 : Int32} (hk0 : sd_kd k0 = 6) {S S' : sd_St} (h : f_X6_reachBack k0 x1 x2 S = some ((), S')) : Met l yX6_reachBack (Cond.code yX6_reachBack cX6_reachBack 3 none :: sd_wl) (sd_rm 0) (sd_P D cy ad A b0 [.ref (ad k0), .int x1, .int x2] S) (sd_Qv D cy ad A S') 0 0 A := by
  refine sd_met (by decide) (Nat.le_of_ble_eq_true rfl) (fun p e s m args below meth c ls C X hl => ?_)
  obtain ⟨hx, hb, -, hml, hown, hts, -, hG⟩ := id C
  replace C : sd_C RX6 cX6_reachBack 3 none D cy ad A b0 p s m args meth c := C
  replace hl : lv_has ls 3 [(0, .ref (ad k0)), (1, .int x1), (2, .int x2)] := hl
  unfold f_X6_reachBack at h
  refine lv_aload_n hx hb dX6_reachBack_0 rfl (lv_at hl 0 rfl) ?_
  refine sd_g6_8 (k := k0) C X hk0 sd_w5_18 dX6_reachBack_1 ?_
  refine lv_iload_n hx hb dX6_reachBack_4 rfl (lv_at hl 1 rfl) ?_
  obtain ⟨b_1, v_1, e_1, h⟩ := sd_ld_some h
  refine sd_iald C X (sd_k6_6 hk0) b_1 dX6_reachBack_5 (sd_nmi e_1 ?_)
  refine lv_bipush (v := (-2 : Int32)) hx hb dX6_reachBack_6 (by decide) ?_
  refine lv_icmp_ne (tgt := 54) hx hb dX6_reachBack_8 (by decide) (fun c_2 => ?_) (fun c_2 => ?_)
  · have h := sd_ifn c_2 h
    cases h
    exact sd_vret C X dX6_reachBack_54
  · have h := sd_ifp c_2 h
    refine lv_aload_n hx hb dX6_reachBack_11 rfl (lv_at hl 0 rfl) ?_
    refine sd_g6_11 C X hk0 sd_w39_0 dX6_reachBack_12 ?_
    refine lv_aload_n hx hb dX6_reachBack_15 rfl (lv_at hl 0 rfl) ?_
    refine sd_g6_10 (k := k0) C X hk0 sd_w5_20 dX6_reachBack_16 ?_
    refine sd_ialen C X (sd_k6_8 hk0) dX6_reachBack_19 ?_
    refine lv_icmp_ge (tgt := 54) hx hb dX6_reachBack_20 (by decide) (fun c_3 => ?_) (fun c_3 => ?_)
    · have h := sd_ifp c_3 h
      cases h
      exact sd_vret C X dX6_reachBack_54
    · have h := sd_ifn c_3 h
      refine lv_aload_n hx hb dX6_reachBack_23 rfl (lv_at hl 0 rfl) ?_
      refine sd_g6_8 (k := k0) C X hk0 sd_w5_18 dX6_reachBack_24 ?_
      refine lv_iload_n hx hb dX6_reachBack_27 rfl (lv_at hl 1 rfl) ?_
      refine lv_iload_n hx hb dX6_reachBack_28 rfl (lv_at hl 2 rfl) ?_
      obtain ⟨bS_4, S_4, eS_4, h⟩ := sd_st_some h
      refine sd_iast C X (sd_k6_6 hk0) bS_4 dX6_reachBack_29 (fun H locs X => ?_)
      rw [← eS_4] at X
      refine lv_aload_n hx hb dX6_reachBack_30 rfl (lv_at hl 0 rfl) ?_
      refine sd_g6_10 (k := k0) C X hk0 sd_w5_20 dX6_reachBack_31 ?_
      refine lv_aload_n hx hb dX6_reachBack_34 rfl (lv_at hl 0 rfl) ?_
      refine sd_g6_11 C X hk0 sd_w39_0 dX6_reachBack_35 ?_
      refine lv_iload_n hx hb dX6_reachBack_38 rfl (lv_at hl 1 rfl) ?_
      refine lv_iconst (v := (1 : Int32)) hx hb dX6_reachBack_39 (by decide) ?_
      refine lv_ishl hx hb dX6_reachBack_40 ?_
      refine lv_iconst (v := (1 : Int32)) hx hb dX6_reachBack_41 (by decide) ?_
      refine lv_ior hx hb dX6_reachBack_42 ?_
      obtain ⟨bS_5, S_5, eS_5, h⟩ := sd_st_some h
      refine sd_iast C X (sd_k6_8 hk0) bS_5 dX6_reachBack_43 (fun H locs X => ?_)
      rw [← eS_5] at X
      refine lv_aload_n hx hb dX6_reachBack_44 rfl (lv_at hl 0 rfl) ?_
      refine lv_dup hx hb dX6_reachBack_45 rfl ?_
      refine sd_g6_11 C X hk0 sd_w39_0 dX6_reachBack_46 ?_
      refine lv_iconst (v := (1 : Int32)) hx hb dX6_reachBack_49 (by decide) ?_
      refine lv_iadd hx hb dX6_reachBack_50 ?_
      obtain ⟨S_6, eS_6, h⟩ := sd_nm_some h
      refine sd_p6_11 C X hk0 sd_w39_0 dX6_reachBack_51 (fun H locs X => ?_)
      rw [← eS_6] at X
      cases h
      exact sd_vret C X dX6_reachBack_54
theorem k_X6_reachBack (C : sd_C own cc nL rt D cy ad A b0 p s m args meth c) (X : sd_H D cy ad A s S H locs) (hls : ls.size = nL) {k0 : Nat} {x1 : Int32} {x2 : Int32} {S2 : sd_St} (hk0 : sd_kd k0 = 6) (h : f_X6_reachBack k0 x1 x2 S = some ((), S2)) (hlink : Cond.methodLink own index yX6_reachBack ∈ sd_wl) (hR : 1 ≤ R.frames ∧ 22 ≤ R.locals ∧ cells ≤ R.cells ∧ slots ≤ R.slots) (hst : (rest.map fun v => v.category).sum ≤ 8) (hdg : decode cc pc = .ok (.invokevirtual index, 3)) (kk : ∀ (H1 : Heap) (locs1 : List Loc), sd_H D cy ad A s S2 H1 locs1 → W p l e R s m args below meth c H1 locs1 cells slots Q (F0 m (pc + 3) ls rest)) : W p l e R s m args below meth c H locs cells slots Q (F0 m pc ls (.int x2 :: .int x1 :: .ref (ad k0) :: rest)) :=
  sd_goV X (sd_runV C X hls (n := 2) (k := k0) (As := [.int x1, .int x2]) (c_X6_reachBack (l := l) (b0 := b0) hk0 h) (sd_goodV hlink sd_w39_23 sd_w40_0 sd_w2_12 sd_w40_1) (ci := 6) rfl (by rw [hk0]; decide) (sd_c6 hk0) (by decide +kernel) rfl hR rfl hst hdg) kk
/-! ===== SecretDays$Shutters.goOnFromFront(I)V ===== -/
def f_X6_goOnFromFront (k0 : Nat) (x1 : Int32) (S : sd_St) : Option (Unit × sd_St) := sd_ld S (k0 + 3) x1 (fun v_1 => (if v_1 = 0 then sd_cl (f_X6_reachBack k0 x1 x1 S) (fun _ S_8 => (some ((), S_8))) else sd_ld S (k0 + 4) x1 (fun v_3 => (if v_3 < 0 then (some ((), S)) else sd_ld S (k0 + 4) x1 (fun v_5 => sd_cl (f_X6_reachBack k0 v_5 x1 S) (fun _ S_6 => (some ((), S_6))))))))
set_option maxHeartbeats 4000000 in
set_option maxRecDepth 100000 in
theorem c_X6_goOnFromFront {k0 : Nat} {x1 : Int32} (hk0 : sd_kd k0 = 6) {S S' : sd_St} (h : f_X6_goOnFromFront k0 x1 S = some ((), S')) : Met l yX6_goOnFromFront (Cond.code yX6_goOnFromFront cX6_goOnFromFront 2 none :: sd_wl) (sd_rm 1) (sd_P D cy ad A b0 [.ref (ad k0), .int x1] S) (sd_Qv D cy ad A S') 0 0 A := by
  refine sd_met (by decide) (Nat.le_of_ble_eq_true rfl) (fun p e s m args below meth c ls C X hl => ?_)
  obtain ⟨hx, hb, -, hml, hown, hts, -, hG⟩ := id C
  replace C : sd_C RX6 cX6_goOnFromFront 2 none D cy ad A b0 p s m args meth c := C
  replace hl : lv_has ls 2 [(0, .ref (ad k0)), (1, .int x1)] := hl
  unfold f_X6_goOnFromFront at h
  refine lv_aload_n hx hb dX6_goOnFromFront_0 rfl (lv_at hl 0 rfl) ?_
  refine sd_g6_5 (k := k0) C X hk0 sd_w5_15 dX6_goOnFromFront_1 ?_
  refine lv_iload_n hx hb dX6_goOnFromFront_4 rfl (lv_at hl 1 rfl) ?_
  obtain ⟨b_1, v_1, e_1, h⟩ := sd_ld_some h
  refine sd_zald C X (sd_k6_3 hk0) b_1 dX6_goOnFromFront_5 (sd_nmi e_1 ?_)
  refine lv_if_ne (tgt := 18) hx hb dX6_goOnFromFront_6 (by decide) (fun c_2 => ?_) (fun c_2 => ?_)
  · have h := sd_ifn c_2 h
    refine lv_aload_n hx hb dX6_goOnFromFront_18 rfl (lv_at hl 0 rfl) ?_
    refine sd_g6_6 (k := k0) C X hk0 sd_w5_16 dX6_goOnFromFront_19 ?_
    refine lv_iload_n hx hb dX6_goOnFromFront_22 rfl (lv_at hl 1 rfl) ?_
    obtain ⟨b_3, v_3, e_3, h⟩ := sd_ld_some h
    refine sd_iald C X (sd_k6_4 hk0) b_3 dX6_goOnFromFront_23 (sd_nmi e_3 ?_)
    refine lv_if_lt (tgt := 38) hx hb dX6_goOnFromFront_24 (by decide) (fun c_4 => ?_) (fun c_4 => ?_)
    · have h := sd_ifp c_4 h
      cases h
      exact sd_vret C X dX6_goOnFromFront_38
    · have h := sd_ifn c_4 h
      refine lv_aload_n hx hb dX6_goOnFromFront_27 rfl (lv_at hl 0 rfl) ?_
      refine lv_aload_n hx hb dX6_goOnFromFront_28 rfl (lv_at hl 0 rfl) ?_
      refine sd_g6_6 (k := k0) C X hk0 sd_w5_16 dX6_goOnFromFront_29 ?_
      refine lv_iload_n hx hb dX6_goOnFromFront_32 rfl (lv_at hl 1 rfl) ?_
      obtain ⟨b_5, v_5, e_5, h⟩ := sd_ld_some h
      refine sd_iald C X (sd_k6_4 hk0) b_5 dX6_goOnFromFront_33 (sd_nmi e_5 ?_)
      refine lv_iload_n hx hb dX6_goOnFromFront_34 rfl (lv_at hl 1 rfl) ?_
      obtain ⟨r_7, S_6, er_7, h⟩ := sd_cl_some h
      refine k_X6_reachBack C X hl.1 hk0 er_7 sd_w39_22 (by decide) (Nat.le_of_ble_eq_true rfl) dX6_goOnFromFront_35 (fun H locs X => ?_)
      cases h
      exact sd_vret C X dX6_goOnFromFront_38
  · have h := sd_ifp c_2 h
    refine lv_aload_n hx hb dX6_goOnFromFront_9 rfl (lv_at hl 0 rfl) ?_
    refine lv_iload_n hx hb dX6_goOnFromFront_10 rfl (lv_at hl 1 rfl) ?_
    refine lv_iload_n hx hb dX6_goOnFromFront_11 rfl (lv_at hl 1 rfl) ?_
    obtain ⟨r_9, S_8, er_9, h⟩ := sd_cl_some h
    refine k_X6_reachBack C X hl.1 hk0 er_9 sd_w39_22 (by decide) (Nat.le_of_ble_eq_true rfl) dX6_goOnFromFront_12 (fun H locs X => ?_)
    refine lv_goto (tgt := 38) hx hb dX6_goOnFromFront_15 (by decide) ?_
    cases h
    exact sd_vret C X dX6_goOnFromFront_38
theorem k_X6_goOnFromFront (C : sd_C own cc nL rt D cy ad A b0 p s m args meth c) (X : sd_H D cy ad A s S H locs) (hls : ls.size = nL) {k0 : Nat} {x1 : Int32} {S2 : sd_St} (hk0 : sd_kd k0 = 6) (h : f_X6_goOnFromFront k0 x1 S = some ((), S2)) (hlink : Cond.methodLink own index yX6_goOnFromFront ∈ sd_wl) (hR : 2 ≤ R.frames ∧ 61 ≤ R.locals ∧ cells ≤ R.cells ∧ slots ≤ R.slots) (hst : (rest.map fun v => v.category).sum ≤ 8) (hdg : decode cc pc = .ok (.invokevirtual index, 3)) (kk : ∀ (H1 : Heap) (locs1 : List Loc), sd_H D cy ad A s S2 H1 locs1 → W p l e R s m args below meth c H1 locs1 cells slots Q (F0 m (pc + 3) ls rest)) : W p l e R s m args below meth c H locs cells slots Q (F0 m pc ls (.int x1 :: .ref (ad k0) :: rest)) :=
  sd_goV X (sd_runV C X hls (n := 1) (k := k0) (As := [.int x1]) (c_X6_goOnFromFront (l := l) (b0 := b0) hk0 h) (sd_goodV hlink sd_w39_19 sd_w39_20 sd_w2_12 sd_w39_21) (ci := 6) rfl (by rw [hk0]; decide) (sd_c6 hk0) (by decide +kernel) rfl hR rfl hst hdg) kk
/-! ===== SecretDays$Shutters.addWay(LSecretDays$Doors;II)Z ===== -/
def f_X6_addWay_b172 (q72 : (Int32 → sd_St → Option (Int32 × sd_St))) (k0 : Nat) (k1 : Nat) (x4 : Int32) (S : sd_St) : Option (Int32 × sd_St) := q72 (x4 + (1 : Int32)) S
set_option maxHeartbeats 4000000 in
set_option maxRecDepth 100000 in
theorem t_X6_addWay_b172 (C : sd_C RX6 cX6_addWay 7 (some .boolean) D cy ad A b0 p s m args meth c) {k0 : Nat} {k1 : Nat} (hk0 : sd_kd k0 = 6) (hk1 : sd_kd k1 = 1) {r : Int32} {S' : sd_St} {q72 : (Int32 → sd_St → Option (Int32 × sd_St))} (hq72 : ∀ (x4 : Int32) (S : sd_St) (H : Heap) (locs : List Loc) (ls : Array Slot), q72 x4 S = some (r, S') → sd_H D cy ad A s S H locs → lv_has ls 7 [(0, .ref (ad k0)), (1, .ref (ad k1)), (4, .int x4)] → W p l e (sd_rm 3) s m args below meth c H locs 0 0 (MQ below (sd_Qi D cy ad A r S') args s 0 0 A) (F0 m 72 ls [])) : ∀ (x4 : Int32) (S : sd_St) (H : Heap) (locs : List Loc) (ls : Array Slot), f_X6_addWay_b172 q72 k0 k1 x4 S = some (r, S') → sd_H D cy ad A s S H locs → lv_has ls 7 [(0, .ref (ad k0)), (1, .ref (ad k1)), (4, .int x4)] → W p l e (sd_rm 3) s m args below meth c H locs 0 0 (MQ below (sd_Qi D cy ad A r S') args s 0 0 A) (F0 m 172 ls []) := by
  obtain ⟨hx, hb, -, hml, hown, hts, -, hG⟩ := id C
  intro x4 S H locs ls h X hl
  unfold f_X6_addWay_b172 at h
  refine lv_iinc (v := (x4 + (1 : Int32))) (lv' := [(4, .int (x4 + (1 : Int32))), (0, .ref (ad k0)), (1, .ref (ad k1))]) hx hb dX6_addWay_172 hl (k := 2) rfl rfl (by decide) rfl (fun ls hl => ?_)
  refine lv_goto (tgt := 72) hx hb dX6_addWay_175 (by decide) ?_
  exact hq72 (x4 + (1 : Int32)) S _ _ _ h X (lv_sub hl [1, 2, 0] rfl)
def f_X6_addWay_b151 (q72 : (Int32 → sd_St → Option (Int32 × sd_St))) (k0 : Nat) (k1 : Nat) (x4 : Int32) (x5 : Int32) (x6 : Int32) (S : sd_St) : Option (Int32 × sd_St) := (if x6 = 0 then sd_cl (f_X6_goOnFromFront k0 x5 S) (fun _ S_2 => f_X6_addWay_b172 q72 k0 k1 x4 S_2) else sd_cl (f_X6_goOnFromBack k0 k1 x5 S) (fun _ S_4 => f_X6_addWay_b172 q72 k0 k1 x4 S_4))
set_option maxHeartbeats 4000000 in
set_option maxRecDepth 100000 in
theorem t_X6_addWay_b151 (C : sd_C RX6 cX6_addWay 7 (some .boolean) D cy ad A b0 p s m args meth c) {k0 : Nat} {k1 : Nat} (hk0 : sd_kd k0 = 6) (hk1 : sd_kd k1 = 1) {r : Int32} {S' : sd_St} {q72 : (Int32 → sd_St → Option (Int32 × sd_St))} (hq72 : ∀ (x4 : Int32) (S : sd_St) (H : Heap) (locs : List Loc) (ls : Array Slot), q72 x4 S = some (r, S') → sd_H D cy ad A s S H locs → lv_has ls 7 [(0, .ref (ad k0)), (1, .ref (ad k1)), (4, .int x4)] → W p l e (sd_rm 3) s m args below meth c H locs 0 0 (MQ below (sd_Qi D cy ad A r S') args s 0 0 A) (F0 m 72 ls [])) : ∀ (x4 : Int32) (x5 : Int32) (x6 : Int32) (S : sd_St) (H : Heap) (locs : List Loc) (ls : Array Slot), f_X6_addWay_b151 q72 k0 k1 x4 x5 x6 S = some (r, S') → sd_H D cy ad A s S H locs → lv_has ls 7 [(0, .ref (ad k0)), (1, .ref (ad k1)), (4, .int x4), (5, .int x5), (6, .int x6)] → W p l e (sd_rm 3) s m args below meth c H locs 0 0 (MQ below (sd_Qi D cy ad A r S') args s 0 0 A) (F0 m 151 ls []) := by
  obtain ⟨hx, hb, -, hml, hown, hts, -, hG⟩ := id C
  intro x4 x5 x6 S H locs ls h X hl
  unfold f_X6_addWay_b151 at h
  refine lv_iload hx hb dX6_addWay_151 (lv_at hl 4 rfl) ?_
  refine lv_if_eq (tgt := 166) hx hb dX6_addWay_153 (by decide) (fun c_1 => ?_) (fun c_1 => ?_)
  · have h := sd_ifp c_1 h
    refine lv_aload_n hx hb dX6_addWay_166 rfl (lv_at hl 0 rfl) ?_
    refine lv_iload hx hb dX6_addWay_167 (lv_at hl 3 rfl) ?_
    obtain ⟨r_3, S_2, er_3, h⟩ := sd_cl_some h
    refine k_X6_goOnFromFront C X hl.1 hk0 er_3 sd_w39_18 (by decide) (Nat.le_of_ble_eq_true rfl) dX6_addWay_169 (fun H locs X => ?_)
    exact t_X6_addWay_b172 C hk0 hk1 hq72 x4 S_2 _ _ _ h X (lv_sub hl [0, 1, 2] rfl)
  · have h := sd_ifn c_1 h
    refine lv_aload_n hx hb dX6_addWay_156 rfl (lv_at hl 0 rfl) ?_
    refine lv_aload_n hx hb dX6_addWay_157 rfl (lv_at hl 1 rfl) ?_
    refine lv_iload hx hb dX6_addWay_158 (lv_at hl 3 rfl) ?_
    obtain ⟨r_5, S_4, er_5, h⟩ := sd_cl_some h
    refine k_X6_goOnFromBack C X hl.1 hk0 hk1 er_5 sd_w39_14 (by decide) (Nat.le_of_ble_eq_true rfl) dX6_addWay_160 (fun H locs X => ?_)
    refine lv_goto (tgt := 172) hx hb dX6_addWay_163 (by decide) ?_
    exact t_X6_addWay_b172 C hk0 hk1 hq72 x4 S_4 _ _ _ h X (lv_sub hl [0, 1, 2] rfl)
def f_X6_addWay_b119 (q72 : (Int32 → sd_St → Option (Int32 × sd_St))) (k0 : Nat) (k1 : Nat) (x4 : Int32) (x5 : Int32) (w0 : Int32) (S : sd_St) : Option (Int32 × sd_St) := (if w0 = 0 then f_X6_addWay_b151 q72 k0 k1 x4 x5 w0 S else sd_ld S (k1 + 4) x5 (fun v_7 => sd_cl (f_X11_has v_7 (S.1 k0 2) S) (fun r_9 S_8 => (if r_9 = 0 then f_X6_addWay_b151 q72 k0 k1 x4 x5 w0 S_8 else sd_cl (f_X6_keepWay k0 x5 S_8) (fun _ S_11 => (some ((1 : Int32), S_11)))))))
set_option maxHeartbeats 4000000 in
set_option maxRecDepth 100000 in
theorem t_X6_addWay_b119 (C : sd_C RX6 cX6_addWay 7 (some .boolean) D cy ad A b0 p s m args meth c) {k0 : Nat} {k1 : Nat} (hk0 : sd_kd k0 = 6) (hk1 : sd_kd k1 = 1) {r : Int32} {S' : sd_St} {q72 : (Int32 → sd_St → Option (Int32 × sd_St))} (hq72 : ∀ (x4 : Int32) (S : sd_St) (H : Heap) (locs : List Loc) (ls : Array Slot), q72 x4 S = some (r, S') → sd_H D cy ad A s S H locs → lv_has ls 7 [(0, .ref (ad k0)), (1, .ref (ad k1)), (4, .int x4)] → W p l e (sd_rm 3) s m args below meth c H locs 0 0 (MQ below (sd_Qi D cy ad A r S') args s 0 0 A) (F0 m 72 ls [])) : ∀ (x4 : Int32) (x5 : Int32) (w0 : Int32) (S : sd_St) (H : Heap) (locs : List Loc) (ls : Array Slot), f_X6_addWay_b119 q72 k0 k1 x4 x5 w0 S = some (r, S') → sd_H D cy ad A s S H locs → lv_has ls 7 [(0, .ref (ad k0)), (1, .ref (ad k1)), (4, .int x4), (5, .int x5)] → W p l e (sd_rm 3) s m args below meth c H locs 0 0 (MQ below (sd_Qi D cy ad A r S') args s 0 0 A) (F0 m 119 ls [.int w0]) := by
  obtain ⟨hx, hb, -, hml, hown, hts, -, hG⟩ := id C
  intro x4 x5 w0 S H locs ls h X hl
  unfold f_X6_addWay_b119 at h
  refine lv_istore (lv' := [(6, .int w0), (0, .ref (ad k0)), (1, .ref (ad k1)), (4, .int x4), (5, .int x5)]) hx hb dX6_addWay_119 hl (by decide) rfl (fun ls hl => ?_)
  refine lv_iload hx hb dX6_addWay_121 (lv_at hl 0 rfl) ?_
  refine lv_if_eq (tgt := 151) hx hb dX6_addWay_123 (by decide) (fun c_6 => ?_) (fun c_6 => ?_)
  · have h := sd_ifp c_6 h
    exact t_X6_addWay_b151 C hk0 hk1 hq72 x4 x5 w0 S _ _ _ h X (lv_sub hl [1, 2, 3, 4, 0] rfl)
  · have h := sd_ifn c_6 h
    refine lv_aload_n hx hb dX6_addWay_126 rfl (lv_at hl 2 rfl) ?_
    refine sd_g1_3 (k := k1) C X hk1 sd_w39_1 dX6_addWay_127 ?_
    refine lv_iload hx hb dX6_addWay_130 (lv_at hl 4 rfl) ?_
    obtain ⟨b_7, v_7, e_7, h⟩ := sd_ld_some h
    refine sd_iald C X (sd_k1_4 hk1) b_7 dX6_addWay_132 (sd_nmi e_7 ?_)
    refine lv_aload_n hx hb dX6_addWay_133 rfl (lv_at hl 1 rfl) ?_
    refine sd_g6_2 C X hk0 sd_w38_8 dX6_addWay_134 ?_
    obtain ⟨r_9, S_8, er_9, h⟩ := sd_cl_some h
    refine k_X11_has_n C X hl.1 er_9 (List.mem_of_getElem? (i := 16) rfl) (by decide) (Nat.le_of_ble_eq_true rfl) dX6_addWay_137 (fun H locs X => ?_)
    refine lv_if_eq (tgt := 151) hx hb dX6_addWay_140 (by decide) (fun c_10 => ?_) (fun c_10 => ?_)
    · have h := sd_ifp c_10 h
      exact t_X6_addWay_b151 C hk0 hk1 hq72 x4 x5 w0 S_8 _ _ _ h X (lv_sub hl [1, 2, 3, 4, 0] rfl)
    · have h := sd_ifn c_10 h
      refine lv_aload_n hx hb dX6_addWay_143 rfl (lv_at hl 1 rfl) ?_
      refine lv_iload hx hb dX6_addWay_144 (lv_at hl 4 rfl) ?_
      obtain ⟨r_12, S_11, er_12, h⟩ := sd_cl_some h
      refine k_X6_keepWay C X hl.1 hk0 er_12 sd_w39_10 (by decide) (Nat.le_of_ble_eq_true rfl) dX6_addWay_146 (fun H locs X => ?_)
      refine lv_iconst (v := (1 : Int32)) hx hb dX6_addWay_149 (by decide) ?_
      cases h
      exact sd_zret C X (by decide) dX6_addWay_150
def f_X6_addWay_l72 (k0 : Nat) (k1 : Nat) : Nat → Int32 → sd_St → Option (Int32 × sd_St)
  | 0 => fun _ _ => none
  | n + 1 => fun x4 S => (if (S.1 k0 11) ≤ x4 then (some ((0 : Int32), S)) else (if (Int32.ofNat (sd_al (k0 + 8))) ≤ x4 then (some ((0 : Int32), S)) else sd_ld S (k0 + 8) x4 (fun v_15 => sd_nm ((v_15 >>> ((1 : Int32) &&& 31))) (fun v_16 => sd_ld S (k0 + 8) x4 (fun v_17 => (if (v_17 &&& (1 : Int32)) = 0 then f_X6_addWay_b119 (f_X6_addWay_l72 k0 k1 n) k0 k1 x4 v_16 (0 : Int32) S else f_X6_addWay_b119 (f_X6_addWay_l72 k0 k1 n) k0 k1 x4 v_16 (1 : Int32) S))))))
set_option maxHeartbeats 4000000 in
set_option maxRecDepth 100000 in
theorem t_X6_addWay_l72 (C : sd_C RX6 cX6_addWay 7 (some .boolean) D cy ad A b0 p s m args meth c) {k0 : Nat} {k1 : Nat} (hk0 : sd_kd k0 = 6) (hk1 : sd_kd k1 = 1) {r : Int32} {S' : sd_St} : ∀ (n : Nat) (x4 : Int32) (S : sd_St) (H : Heap) (locs : List Loc) (ls : Array Slot), f_X6_addWay_l72 k0 k1 n x4 S = some (r, S') → sd_H D cy ad A s S H locs → lv_has ls 7 [(0, .ref (ad k0)), (1, .ref (ad k1)), (4, .int x4)] → W p l e (sd_rm 3) s m args below meth c H locs 0 0 (MQ below (sd_Qi D cy ad A r S') args s 0 0 A) (F0 m 72 ls []) := by
  obtain ⟨hx, hb, -, hml, hown, hts, -, hG⟩ := id C
  intro n
  induction n with
  | zero => intro x4 S H locs ls h; cases h
  | succ n ih =>
    intro x4 S H locs ls h X hl
    unfold f_X6_addWay_l72 at h
    refine lv_iload hx hb dX6_addWay_72 (lv_at hl 2 rfl) ?_
    refine lv_aload_n hx hb dX6_addWay_74 rfl (lv_at hl 0 rfl) ?_
    refine sd_g6_11 C X hk0 sd_w39_0 dX6_addWay_75 ?_
    refine lv_icmp_ge (tgt := 178) hx hb dX6_addWay_78 (by decide) (fun c_13 => ?_) (fun c_13 => ?_)
    · have h := sd_ifp c_13 h
      refine lv_iconst (v := (0 : Int32)) hx hb dX6_addWay_178 (by decide) ?_
      cases h
      exact sd_zret C X (by decide) dX6_addWay_179
    · have h := sd_ifn c_13 h
      refine lv_iload hx hb dX6_addWay_81 (lv_at hl 2 rfl) ?_
      refine lv_aload_n hx hb dX6_addWay_83 rfl (lv_at hl 0 rfl) ?_
      refine sd_g6_10 (k := k0) C X hk0 sd_w5_20 dX6_addWay_84 ?_
      refine sd_ialen C X (sd_k6_8 hk0) dX6_addWay_87 ?_
      refine lv_icmp_ge (tgt := 178) hx hb dX6_addWay_88 (by decide) (fun c_14 => ?_) (fun c_14 => ?_)
      · have h := sd_ifp c_14 h
        refine lv_iconst (v := (0 : Int32)) hx hb dX6_addWay_178 (by decide) ?_
        cases h
        exact sd_zret C X (by decide) dX6_addWay_179
      · have h := sd_ifn c_14 h
        refine lv_aload_n hx hb dX6_addWay_91 rfl (lv_at hl 0 rfl) ?_
        refine sd_g6_10 (k := k0) C X hk0 sd_w5_20 dX6_addWay_92 ?_
        refine lv_iload hx hb dX6_addWay_95 (lv_at hl 2 rfl) ?_
        obtain ⟨b_15, v_15, e_15, h⟩ := sd_ld_some h
        refine sd_iald C X (sd_k6_8 hk0) b_15 dX6_addWay_97 (sd_nmi e_15 ?_)
        refine lv_iconst (v := (1 : Int32)) hx hb dX6_addWay_98 (by decide) ?_
        refine lv_ishr hx hb dX6_addWay_99 ?_
        obtain ⟨v_16, e_16, h⟩ := sd_nm_some h
        refine sd_nmi e_16 ?_
        refine lv_istore (lv' := [(5, .int v_16), (0, .ref (ad k0)), (1, .ref (ad k1)), (4, .int x4)]) hx hb dX6_addWay_100 hl (by decide) rfl (fun ls hl => ?_)
        refine lv_aload_n hx hb dX6_addWay_102 rfl (lv_at hl 1 rfl) ?_
        refine sd_g6_10 (k := k0) C X hk0 sd_w5_20 dX6_addWay_103 ?_
        refine lv_iload hx hb dX6_addWay_106 (lv_at hl 3 rfl) ?_
        obtain ⟨b_17, v_17, e_17, h⟩ := sd_ld_some h
        refine sd_iald C X (sd_k6_8 hk0) b_17 dX6_addWay_108 (sd_nmi e_17 ?_)
        refine lv_iconst (v := (1 : Int32)) hx hb dX6_addWay_109 (by decide) ?_
        refine lv_iand hx hb dX6_addWay_110 ?_
        refine lv_if_eq (tgt := 118) hx hb dX6_addWay_111 (by decide) (fun c_18 => ?_) (fun c_18 => ?_)
        · have h := sd_ifp c_18 h
          refine lv_iconst (v := (0 : Int32)) hx hb dX6_addWay_118 (by decide) ?_
          exact t_X6_addWay_b119 C hk0 hk1 ih x4 v_16 (0 : Int32) S _ _ _ h X (lv_sub hl [1, 2, 3, 0] rfl)
        · have h := sd_ifn c_18 h
          refine lv_iconst (v := (1 : Int32)) hx hb dX6_addWay_114 (by decide) ?_
          refine lv_goto (tgt := 119) hx hb dX6_addWay_115 (by decide) ?_
          exact t_X6_addWay_b119 C hk0 hk1 ih x4 v_16 (1 : Int32) S _ _ _ h X (lv_sub hl [1, 2, 3, 0] rfl)
def f_X6_addWay_l6 (k0 : Nat) (k1 : Nat) : Nat → Int32 → Int32 → Int32 → sd_St → Option (Int32 × sd_St)
  | 0 => fun _ _ _ _ => none
  | n + 1 => fun x2 x3 x4 S => (if (S.1 k0 1) ≤ x4 then sd_cp S (k0 + 1) (0 : Int32) (k0 + 7) (0 : Int32) (12 : Int32) (fun S_20 => sd_nm (sd_I S_20 k0 11 (0 : Int32)) (fun S_21 => sd_cl (f_X6_leadTo k0 k1 x2 (x3 - (1 : Int32)) (-1 : Int32) S_21) (fun _ S_22 => f_X6_addWay_l72 k0 k1 sd_FU (0 : Int32) S_22))) else sd_st S (k0 + 5) x4 (-2 : Int32) (fun S_24 => sd_st S_24 (k0 + 6) x4 (-2 : Int32) (fun S_25 => (f_X6_addWay_l6 k0 k1 n) x2 x3 (x4 + (1 : Int32)) S_25)))
set_option maxHeartbeats 4000000 in
set_option maxRecDepth 100000 in
theorem t_X6_addWay_l6 (C : sd_C RX6 cX6_addWay 7 (some .boolean) D cy ad A b0 p s m args meth c) {k0 : Nat} {k1 : Nat} (hk0 : sd_kd k0 = 6) (hk1 : sd_kd k1 = 1) {r : Int32} {S' : sd_St} : ∀ (n : Nat) (x2 : Int32) (x3 : Int32) (x4 : Int32) (S : sd_St) (H : Heap) (locs : List Loc) (ls : Array Slot), f_X6_addWay_l6 k0 k1 n x2 x3 x4 S = some (r, S') → sd_H D cy ad A s S H locs → lv_has ls 7 [(0, .ref (ad k0)), (1, .ref (ad k1)), (2, .int x2), (3, .int x3), (4, .int x4)] → W p l e (sd_rm 3) s m args below meth c H locs 0 0 (MQ below (sd_Qi D cy ad A r S') args s 0 0 A) (F0 m 6 ls []) := by
  obtain ⟨hx, hb, -, hml, hown, hts, -, hG⟩ := id C
  intro n
  induction n with
  | zero => intro x2 x3 x4 S H locs ls h; cases h
  | succ n ih =>
    intro x2 x3 x4 S H locs ls h X hl
    unfold f_X6_addWay_l6 at h
    refine lv_iload hx hb dX6_addWay_6 (lv_at hl 4 rfl) ?_
    refine lv_aload_n hx hb dX6_addWay_8 rfl (lv_at hl 0 rfl) ?_
    refine sd_g6_1 C X hk0 sd_w38_10 dX6_addWay_9 ?_
    refine lv_icmp_ge (tgt := 39) hx hb dX6_addWay_12 (by decide) (fun c_19 => ?_) (fun c_19 => ?_)
    · have h := sd_ifp c_19 h
      refine lv_aload_n hx hb dX6_addWay_39 rfl (lv_at hl 0 rfl) ?_
      refine sd_g6_3 (k := k0) C X hk0 sd_w5_12 dX6_addWay_40 ?_
      refine lv_iconst (v := (0 : Int32)) hx hb dX6_addWay_43 (by decide) ?_
      refine lv_aload_n hx hb dX6_addWay_44 rfl (lv_at hl 0 rfl) ?_
      refine sd_g6_9 (k := k0) C X hk0 sd_w5_19 dX6_addWay_45 ?_
      refine lv_iconst (v := (0 : Int32)) hx hb dX6_addWay_48 (by decide) ?_
      refine lv_bipush (v := (12 : Int32)) hx hb dX6_addWay_49 (by decide) ?_
      obtain ⟨bS_20, S_20, eS_20, h⟩ := sd_cp_some h
      refine sd_copy C X hl.1 (sd_k6_1 hk0) (sd_k6_7 hk0) sd_w38_23 bS_20.1 bS_20.2.1 bS_20.2.2.1 bS_20.2.2.2.1 bS_20.2.2.2.2 (by decide) (Nat.le_of_ble_eq_true rfl) dX6_addWay_51 (fun H locs X => ?_)
      rw [← eS_20] at X
      refine lv_aload_n hx hb dX6_addWay_54 rfl (lv_at hl 0 rfl) ?_
      refine lv_iconst (v := (0 : Int32)) hx hb dX6_addWay_55 (by decide) ?_
      obtain ⟨S_21, eS_21, h⟩ := sd_nm_some h
      refine sd_p6_11 C X hk0 sd_w39_0 dX6_addWay_56 (fun H locs X => ?_)
      rw [← eS_21] at X
      refine lv_aload_n hx hb dX6_addWay_59 rfl (lv_at hl 0 rfl) ?_
      refine lv_aload_n hx hb dX6_addWay_60 rfl (lv_at hl 1 rfl) ?_
      refine lv_iload_n hx hb dX6_addWay_61 rfl (lv_at hl 2 rfl) ?_
      refine lv_iload_n hx hb dX6_addWay_62 rfl (lv_at hl 3 rfl) ?_
      refine lv_iconst (v := (1 : Int32)) hx hb dX6_addWay_63 (by decide) ?_
      refine lv_isub hx hb dX6_addWay_64 ?_
      refine lv_iconst (v := (-1 : Int32)) hx hb dX6_addWay_65 (by decide) ?_
      obtain ⟨r_23, S_22, er_23, h⟩ := sd_cl_some h
      refine k_X6_leadTo C X hl.1 hk0 hk1 er_23 sd_w39_2 (by decide) (Nat.le_of_ble_eq_true rfl) dX6_addWay_66 (fun H locs X => ?_)
      refine lv_iconst (v := (0 : Int32)) hx hb dX6_addWay_69 (by decide) ?_
      refine lv_istore (lv' := [(4, .int (0 : Int32)), (0, .ref (ad k0)), (1, .ref (ad k1)), (2, .int x2), (3, .int x3)]) hx hb dX6_addWay_70 hl (by decide) rfl (fun ls hl => ?_)
      exact t_X6_addWay_l72 C hk0 hk1 sd_FU (0 : Int32) S_22 _ _ _ h X (lv_sub hl [1, 2, 0] rfl)
    · have h := sd_ifn c_19 h
      refine lv_aload_n hx hb dX6_addWay_15 rfl (lv_at hl 0 rfl) ?_
      refine sd_g6_7 (k := k0) C X hk0 sd_w5_17 dX6_addWay_16 ?_
      refine lv_iload hx hb dX6_addWay_19 (lv_at hl 4 rfl) ?_
      refine lv_bipush (v := (-2 : Int32)) hx hb dX6_addWay_21 (by decide) ?_
      obtain ⟨bS_24, S_24, eS_24, h⟩ := sd_st_some h
      refine sd_iast C X (sd_k6_5 hk0) bS_24 dX6_addWay_23 (fun H locs X => ?_)
      rw [← eS_24] at X
      refine lv_aload_n hx hb dX6_addWay_24 rfl (lv_at hl 0 rfl) ?_
      refine sd_g6_8 (k := k0) C X hk0 sd_w5_18 dX6_addWay_25 ?_
      refine lv_iload hx hb dX6_addWay_28 (lv_at hl 4 rfl) ?_
      refine lv_bipush (v := (-2 : Int32)) hx hb dX6_addWay_30 (by decide) ?_
      obtain ⟨bS_25, S_25, eS_25, h⟩ := sd_st_some h
      refine sd_iast C X (sd_k6_6 hk0) bS_25 dX6_addWay_32 (fun H locs X => ?_)
      rw [← eS_25] at X
      refine lv_iinc (v := (x4 + (1 : Int32))) (lv' := [(4, .int (x4 + (1 : Int32))), (0, .ref (ad k0)), (1, .ref (ad k1)), (2, .int x2), (3, .int x3)]) hx hb dX6_addWay_33 hl (k := 4) rfl rfl (by decide) rfl (fun ls hl => ?_)
      refine lv_goto (tgt := 6) hx hb dX6_addWay_36 (by decide) ?_
      exact ih x2 x3 (x4 + (1 : Int32)) S_25 _ _ _ h X (lv_sub hl [1, 2, 3, 4, 0] rfl)
def f_X6_addWay (k0 : Nat) (k1 : Nat) (x2 : Int32) (x3 : Int32) (S : sd_St) : Option (Int32 × sd_St) := sd_nm ((S.1 k0 0)) (fun v_26 => f_X6_addWay_l6 k0 k1 sd_FU x2 x3 v_26 S)
set_option maxHeartbeats 4000000 in
set_option maxRecDepth 100000 in
theorem c_X6_addWay {k0 : Nat} {k1 : Nat} {x2 : Int32} {x3 : Int32} (hk0 : sd_kd k0 = 6) (hk1 : sd_kd k1 = 1) {S S' : sd_St} {r : Int32} (h : f_X6_addWay k0 k1 x2 x3 S = some (r, S')) : Met l yX6_addWay (Cond.code yX6_addWay cX6_addWay 7 (some .boolean) :: sd_wl) (sd_rm 3) (sd_P D cy ad A b0 [.ref (ad k0), .ref (ad k1), .int x2, .int x3] S) (sd_Qi D cy ad A r S') 0 0 A := by
  refine sd_met (by decide) (Nat.le_of_ble_eq_true rfl) (fun p e s m args below meth c ls C X hl => ?_)
  obtain ⟨hx, hb, -, hml, hown, hts, -, hG⟩ := id C
  replace C : sd_C RX6 cX6_addWay 7 (some .boolean) D cy ad A b0 p s m args meth c := C
  replace hl : lv_has ls 7 [(0, .ref (ad k0)), (1, .ref (ad k1)), (2, .int x2), (3, .int x3)] := hl
  unfold f_X6_addWay at h
  refine lv_aload_n hx hb dX6_addWay_0 rfl (lv_at hl 0 rfl) ?_
  refine sd_g6_0 C X hk0 sd_w38_9 dX6_addWay_1 ?_
  obtain ⟨v_26, e_26, h⟩ := sd_nm_some h
  refine sd_nmi e_26 ?_
  refine lv_istore (lv' := [(4, .int v_26), (0, .ref (ad k0)), (1, .ref (ad k1)), (2, .int x2), (3, .int x3)]) hx hb dX6_addWay_4 hl (by decide) rfl (fun ls hl => ?_)
  exact t_X6_addWay_l6 C hk0 hk1 sd_FU x2 x3 v_26 S _ _ _ h X (lv_sub hl [1, 2, 3, 4, 0] rfl)
theorem k_X6_addWay (C : sd_C own cc nL rt D cy ad A b0 p s m args meth c) (X : sd_H D cy ad A s S H locs) (hls : ls.size = nL) {k0 : Nat} {k1 : Nat} {x2 : Int32} {x3 : Int32} {S2 : sd_St} {r : Int32} (hk0 : sd_kd k0 = 6) (hk1 : sd_kd k1 = 1) (h : f_X6_addWay k0 k1 x2 x3 S = some (r, S2)) (hlink : Cond.methodLink own index yX6_addWay ∈ sd_wl) (hR : 4 ≤ R.frames ∧ 146 ≤ R.locals ∧ cells ≤ R.cells ∧ slots ≤ R.slots) (hst : (rest.map fun v => v.category).sum ≤ 8) (hdg : decode cc pc = .ok (.invokevirtual index, 3)) (kk : ∀ (H1 : Heap) (locs1 : List Loc), sd_H D cy ad A s S2 H1 locs1 → W p l e R s m args below meth c H1 locs1 cells slots Q (F0 m (pc + 3) ls (.int r :: rest))) : W p l e R s m args below meth c H locs cells slots Q (F0 m pc ls (.int x3 :: .int x2 :: .ref (ad k1) :: .ref (ad k0) :: rest)) :=
  sd_goI X (sd_runV C X hls (n := 3) (k := k0) (As := [.ref (ad k1), .int x2, .int x3]) (c_X6_addWay (l := l) (b0 := b0) hk0 hk1 h) (sd_goodV hlink sd_w38_20 sd_w38_21 sd_w2_12 sd_w38_22) (ci := 6) rfl (by rw [hk0]; decide) (sd_c6 hk0) (by decide +kernel) rfl hR rfl hst hdg) kk
/-! ===== SecretDays$Shutters.fewest(LSecretDays$Doors;IIII)I ===== -/
def f_X6_fewest_l23 (k0 : Nat) (k1 : Nat) : Nat → Int32 → Int32 → Int32 → Int32 → sd_St → Option (Int32 × sd_St)
  | 0 => fun _ _ _ _ _ => none
  | n + 1 => fun x2 x3 x6 x7 S => (if (S.1 k0 1) ≤ x7 then (some (x6, S)) else sd_cl (f_X6_addWay k0 k1 x2 x3 S) (fun r_3 S_2 => (if r_3 = 0 then (some (x6, S_2)) else (f_X6_fewest_l23 k0 k1 n) x2 x3 (x6 + (1 : Int32)) (x7 + (1 : Int32)) S_2)))
set_option maxHeartbeats 4000000 in
set_option maxRecDepth 100000 in
theorem t_X6_fewest_l23 (C : sd_C RX6 cX6_fewest 8 (some .int) D cy ad A b0 p s m args meth c) {k0 : Nat} {k1 : Nat} (hk0 : sd_kd k0 = 6) (hk1 : sd_kd k1 = 1) {r : Int32} {S' : sd_St} : ∀ (n : Nat) (x2 : Int32) (x3 : Int32) (x6 : Int32) (x7 : Int32) (S : sd_St) (H : Heap) (locs : List Loc) (ls : Array Slot), f_X6_fewest_l23 k0 k1 n x2 x3 x6 x7 S = some (r, S') → sd_H D cy ad A s S H locs → lv_has ls 8 [(0, .ref (ad k0)), (1, .ref (ad k1)), (2, .int x2), (3, .int x3), (6, .int x6), (7, .int x7)] → W p l e (sd_rm 4) s m args below meth c H locs 0 0 (MQ below (sd_Qi D cy ad A r S') args s 0 0 A) (F0 m 23 ls []) := by
  obtain ⟨hx, hb, -, hml, hown, hts, -, hG⟩ := id C
  intro n
  induction n with
  | zero => intro x2 x3 x6 x7 S H locs ls h; cases h
  | succ n ih =>
    intro x2 x3 x6 x7 S H locs ls h X hl
    unfold f_X6_fewest_l23 at h
    refine lv_iload hx hb dX6_fewest_23 (lv_at hl 5 rfl) ?_
    refine lv_aload_n hx hb dX6_fewest_25 rfl (lv_at hl 0 rfl) ?_
    refine sd_g6_1 C X hk0 sd_w38_10 dX6_fewest_26 ?_
    refine lv_icmp_ge (tgt := 54) hx hb dX6_fewest_29 (by decide) (fun c_1 => ?_) (fun c_1 => ?_)
    · have h := sd_ifp c_1 h
      refine lv_iload hx hb dX6_fewest_54 (lv_at hl 4 rfl) ?_
      cases h
      exact sd_iret C X dX6_fewest_56
    · have h := sd_ifn c_1 h
      refine lv_aload_n hx hb dX6_fewest_32 rfl (lv_at hl 0 rfl) ?_
      refine lv_aload_n hx hb dX6_fewest_33 rfl (lv_at hl 1 rfl) ?_
      refine lv_iload_n hx hb dX6_fewest_34 rfl (lv_at hl 2 rfl) ?_
      refine lv_iload_n hx hb dX6_fewest_35 rfl (lv_at hl 3 rfl) ?_
      obtain ⟨r_3, S_2, er_3, h⟩ := sd_cl_some h
      refine k_X6_addWay C X hl.1 hk0 hk1 er_3 sd_w38_19 (by decide) (Nat.le_of_ble_eq_true rfl) dX6_fewest_36 (fun H locs X => ?_)
      refine lv_if_ne (tgt := 45) hx hb dX6_fewest_39 (by decide) (fun c_4 => ?_) (fun c_4 => ?_)
      · have h := sd_ifn c_4 h
        refine lv_iinc (v := (x6 + (1 : Int32))) (lv' := [(6, .int (x6 + (1 : Int32))), (0, .ref (ad k0)), (1, .ref (ad k1)), (2, .int x2), (3, .int x3), (7, .int x7)]) hx hb dX6_fewest_45 hl (k := 4) rfl rfl (by decide) rfl (fun ls hl => ?_)
        refine lv_iinc (v := (x7 + (1 : Int32))) (lv' := [(7, .int (x7 + (1 : Int32))), (6, .int (x6 + (1 : Int32))), (0, .ref (ad k0)), (1, .ref (ad k1)), (2, .int x2), (3, .int x3)]) hx hb dX6_fewest_48 hl (k := 5) rfl rfl (by decide) rfl (fun ls hl => ?_)
        refine lv_goto (tgt := 23) hx hb dX6_fewest_51 (by decide) ?_
        exact ih x2 x3 (x6 + (1 : Int32)) (x7 + (1 : Int32)) S_2 _ _ _ h X (lv_sub hl [2, 3, 4, 5, 1, 0] rfl)
      · have h := sd_ifp c_4 h
        refine lv_goto (tgt := 54) hx hb dX6_fewest_42 (by decide) ?_
        refine lv_iload hx hb dX6_fewest_54 (lv_at hl 4 rfl) ?_
        cases h
        exact sd_iret C X dX6_fewest_56
def f_X6_fewest (k0 : Nat) (k1 : Nat) (x2 : Int32) (x3 : Int32) (x4 : Int32) (x5 : Int32) (S : sd_St) : Option (Int32 × sd_St) := sd_nm (sd_I S k0 2 x4) (fun S_5 => sd_cl (f_X6_takeDoors k0 k1 x3 x5 S_5) (fun _ S_6 => sd_nm ((S_6.1 k0 0)) (fun v_8 => f_X6_fewest_l23 k0 k1 sd_FU x2 x3 (0 : Int32) v_8 S_6)))
set_option maxHeartbeats 4000000 in
set_option maxRecDepth 100000 in
theorem c_X6_fewest {k0 : Nat} {k1 : Nat} {x2 : Int32} {x3 : Int32} {x4 : Int32} {x5 : Int32} (hk0 : sd_kd k0 = 6) (hk1 : sd_kd k1 = 1) {S S' : sd_St} {r : Int32} (h : f_X6_fewest k0 k1 x2 x3 x4 x5 S = some (r, S')) : Met l yX6_fewest (Cond.code yX6_fewest cX6_fewest 8 (some .int) :: sd_wl) (sd_rm 4) (sd_P D cy ad A b0 [.ref (ad k0), .ref (ad k1), .int x2, .int x3, .int x4, .int x5] S) (sd_Qi D cy ad A r S') 0 0 A := by
  refine sd_met (by decide) (Nat.le_of_ble_eq_true rfl) (fun p e s m args below meth c ls C X hl => ?_)
  obtain ⟨hx, hb, -, hml, hown, hts, -, hG⟩ := id C
  replace C : sd_C RX6 cX6_fewest 8 (some .int) D cy ad A b0 p s m args meth c := C
  replace hl : lv_has ls 8 [(0, .ref (ad k0)), (1, .ref (ad k1)), (2, .int x2), (3, .int x3), (4, .int x4), (5, .int x5)] := hl
  unfold f_X6_fewest at h
  refine lv_aload_n hx hb dX6_fewest_0 rfl (lv_at hl 0 rfl) ?_
  refine lv_iload hx hb dX6_fewest_1 (lv_at hl 4 rfl) ?_
  obtain ⟨S_5, eS_5, h⟩ := sd_nm_some h
  refine sd_p6_2 C X hk0 sd_w38_8 dX6_fewest_3 (fun H locs X => ?_)
  rw [← eS_5] at X
  refine lv_aload_n hx hb dX6_fewest_6 rfl (lv_at hl 0 rfl) ?_
  refine lv_aload_n hx hb dX6_fewest_7 rfl (lv_at hl 1 rfl) ?_
  refine lv_iload_n hx hb dX6_fewest_8 rfl (lv_at hl 3 rfl) ?_
  refine lv_iload hx hb dX6_fewest_9 (lv_at hl 5 rfl) ?_
  obtain ⟨r_7, S_6, er_7, h⟩ := sd_cl_some h
  refine k_X6_takeDoors C X hl.1 hk0 hk1 er_7 sd_w38_11 (by decide) (Nat.le_of_ble_eq_true rfl) dX6_fewest_11 (fun H locs X => ?_)
  refine lv_iconst (v := (0 : Int32)) hx hb dX6_fewest_14 (by decide) ?_
  refine lv_istore (lv' := [(6, .int (0 : Int32)), (0, .ref (ad k0)), (1, .ref (ad k1)), (2, .int x2), (3, .int x3), (4, .int x4), (5, .int x5)]) hx hb dX6_fewest_15 hl (by decide) rfl (fun ls hl => ?_)
  refine lv_aload_n hx hb dX6_fewest_17 rfl (lv_at hl 1 rfl) ?_
  refine sd_g6_0 C X hk0 sd_w38_9 dX6_fewest_18 ?_
  obtain ⟨v_8, e_8, h⟩ := sd_nm_some h
  refine sd_nmi e_8 ?_
  refine lv_istore (lv' := [(7, .int v_8), (6, .int (0 : Int32)), (0, .ref (ad k0)), (1, .ref (ad k1)), (2, .int x2), (3, .int x3), (4, .int x4), (5, .int x5)]) hx hb dX6_fewest_21 hl (by decide) rfl (fun ls hl => ?_)
  exact t_X6_fewest_l23 C hk0 hk1 sd_FU x2 x3 (0 : Int32) v_8 S_6 _ _ _ h X (lv_sub hl [2, 3, 4, 5, 1, 0] rfl)
theorem k_X6_fewest (C : sd_C own cc nL rt D cy ad A b0 p s m args meth c) (X : sd_H D cy ad A s S H locs) (hls : ls.size = nL) {k0 : Nat} {k1 : Nat} {x2 : Int32} {x3 : Int32} {x4 : Int32} {x5 : Int32} {S2 : sd_St} {r : Int32} (hk0 : sd_kd k0 = 6) (hk1 : sd_kd k1 = 1) (h : f_X6_fewest k0 k1 x2 x3 x4 x5 S = some (r, S2)) (hlink : Cond.methodLink own index yX6_fewest ∈ sd_wl) (hR : 5 ≤ R.frames ∧ 187 ≤ R.locals ∧ cells ≤ R.cells ∧ slots ≤ R.slots) (hst : (rest.map fun v => v.category).sum ≤ 8) (hdg : decode cc pc = .ok (.invokevirtual index, 3)) (kk : ∀ (H1 : Heap) (locs1 : List Loc), sd_H D cy ad A s S2 H1 locs1 → W p l e R s m args below meth c H1 locs1 cells slots Q (F0 m (pc + 3) ls (.int r :: rest))) : W p l e R s m args below meth c H locs cells slots Q (F0 m pc ls (.int x5 :: .int x4 :: .int x3 :: .int x2 :: .ref (ad k1) :: .ref (ad k0) :: rest)) :=
  sd_goI X (sd_runV C X hls (n := 5) (k := k0) (As := [.ref (ad k1), .int x2, .int x3, .int x4, .int x5]) (c_X6_fewest (l := l) (b0 := b0) hk0 hk1 h) (sd_goodV hlink sd_w38_5 sd_w38_6 sd_w2_12 sd_w38_7) (ci := 6) rfl (by rw [hk0]; decide) (sd_c6 hk0) (by decide +kernel) rfl hR rfl hst hdg) kk
/-! ===== SecretDays$Tape.put(I)V ===== -/
def f_X7_put_b23 (k0 : Nat) (x1 : Int32) (w0 : Int32) (S : sd_St) : Option (Unit × sd_St) := (if w0 = 0 then (some ((), S)) else (if (1000 : Int32) ≤ (S.1 k0 1) then (some ((), S)) else sd_st S (k0 + 1) (S.1 k0 1) (vp_nar .byte (x1.toInt8.toInt32)) (fun S_3 => sd_nm (sd_I S_3 k0 1 ((S_3.1 k0 1) + (1 : Int32))) (fun S_4 => (some ((), S_4))))))
set_option maxHeartbeats 4000000 in
set_option maxRecDepth 100000 in
theorem t_X7_put_b23 (C : sd_C RX7 cX7_put 3 none D cy ad A b0 p s m args meth c) {k0 : Nat} (hk0 : sd_kd k0 = 7) {S' : sd_St} : ∀ (x1 : Int32) (w0 : Int32) (S : sd_St) (H : Heap) (locs : List Loc) (ls : Array Slot), f_X7_put_b23 k0 x1 w0 S = some ((), S') → sd_H D cy ad A s S H locs → lv_has ls 3 [(0, .ref (ad k0)), (1, .int x1)] → W p l e (sd_rm 0) s m args below meth c H locs 0 0 (MQ below (sd_Qv D cy ad A S') args s 0 0 A) (F0 m 23 ls [.int w0]) := by
  obtain ⟨hx, hb, -, hml, hown, hts, -, hG⟩ := id C
  intro x1 w0 S H locs ls h X hl
  unfold f_X7_put_b23 at h
  refine lv_istore_n (lv' := [(2, .int w0), (0, .ref (ad k0)), (1, .int x1)]) hx hb dX7_put_23 rfl hl (by decide) rfl (fun ls hl => ?_)
  refine lv_iload_n hx hb dX7_put_24 rfl (lv_at hl 0 rfl) ?_
  refine lv_if_eq (tgt := 59) hx hb dX7_put_25 (by decide) (fun c_1 => ?_) (fun c_1 => ?_)
  · have h := sd_ifp c_1 h
    cases h
    exact sd_vret C X dX7_put_59
  · have h := sd_ifn c_1 h
    refine lv_aload_n hx hb dX7_put_28 rfl (lv_at hl 1 rfl) ?_
    refine sd_g7_1 C X hk0 sd_w9_18 dX7_put_29 ?_
    refine lv_sipush (v := (1000 : Int32)) hx hb dX7_put_32 (by decide) ?_
    refine lv_icmp_ge (tgt := 59) hx hb dX7_put_35 (by decide) (fun c_2 => ?_) (fun c_2 => ?_)
    · have h := sd_ifp c_2 h
      cases h
      exact sd_vret C X dX7_put_59
    · have h := sd_ifn c_2 h
      refine lv_aload_n hx hb dX7_put_38 rfl (lv_at hl 1 rfl) ?_
      refine sd_g7_0 (k := k0) C X hk0 sd_w4_12 dX7_put_39 ?_
      refine lv_aload_n hx hb dX7_put_42 rfl (lv_at hl 1 rfl) ?_
      refine sd_g7_1 C X hk0 sd_w9_18 dX7_put_43 ?_
      refine lv_iload_n hx hb dX7_put_46 rfl (lv_at hl 2 rfl) ?_
      refine lv_i2b (v := x1.toInt8.toInt32) hx hb dX7_put_47 rfl ?_
      obtain ⟨bS_3, S_3, eS_3, h⟩ := sd_st_some h
      refine sd_bast C X (sd_k7_1 hk0) bS_3 dX7_put_48 (fun H locs X => ?_)
      rw [← eS_3] at X
      refine lv_aload_n hx hb dX7_put_49 rfl (lv_at hl 1 rfl) ?_
      refine lv_dup hx hb dX7_put_50 rfl ?_
      refine sd_g7_1 C X hk0 sd_w9_18 dX7_put_51 ?_
      refine lv_iconst (v := (1 : Int32)) hx hb dX7_put_54 (by decide) ?_
      refine lv_iadd hx hb dX7_put_55 ?_
      obtain ⟨S_4, eS_4, h⟩ := sd_nm_some h
      refine sd_p7_1 C X hk0 sd_w9_18 dX7_put_56 (fun H locs X => ?_)
      rw [← eS_4] at X
      cases h
      exact sd_vret C X dX7_put_59
def f_X7_put_b18 (k0 : Nat) (x1 : Int32) (S : sd_St) : Option (Unit × sd_St) := f_X7_put_b23 k0 x1 (1 : Int32) S
set_option maxHeartbeats 4000000 in
set_option maxRecDepth 100000 in
theorem t_X7_put_b18 (C : sd_C RX7 cX7_put 3 none D cy ad A b0 p s m args meth c) {k0 : Nat} (hk0 : sd_kd k0 = 7) {S' : sd_St} : ∀ (x1 : Int32) (S : sd_St) (H : Heap) (locs : List Loc) (ls : Array Slot), f_X7_put_b18 k0 x1 S = some ((), S') → sd_H D cy ad A s S H locs → lv_has ls 3 [(0, .ref (ad k0)), (1, .int x1)] → W p l e (sd_rm 0) s m args below meth c H locs 0 0 (MQ below (sd_Qv D cy ad A S') args s 0 0 A) (F0 m 18 ls []) := by
  obtain ⟨hx, hb, -, hml, hown, hts, -, hG⟩ := id C
  intro x1 S H locs ls h X hl
  unfold f_X7_put_b18 at h
  refine lv_iconst (v := (1 : Int32)) hx hb dX7_put_18 (by decide) ?_
  refine lv_goto (tgt := 23) hx hb dX7_put_19 (by decide) ?_
  exact t_X7_put_b23 C hk0 x1 (1 : Int32) S _ _ _ h X (lv_sub hl [0, 1] rfl)
def f_X7_put_b22 (k0 : Nat) (x1 : Int32) (S : sd_St) : Option (Unit × sd_St) := f_X7_put_b23 k0 x1 (0 : Int32) S
set_option maxHeartbeats 4000000 in
set_option maxRecDepth 100000 in
theorem t_X7_put_b22 (C : sd_C RX7 cX7_put 3 none D cy ad A b0 p s m args meth c) {k0 : Nat} (hk0 : sd_kd k0 = 7) {S' : sd_St} : ∀ (x1 : Int32) (S : sd_St) (H : Heap) (locs : List Loc) (ls : Array Slot), f_X7_put_b22 k0 x1 S = some ((), S') → sd_H D cy ad A s S H locs → lv_has ls 3 [(0, .ref (ad k0)), (1, .int x1)] → W p l e (sd_rm 0) s m args below meth c H locs 0 0 (MQ below (sd_Qv D cy ad A S') args s 0 0 A) (F0 m 22 ls []) := by
  obtain ⟨hx, hb, -, hml, hown, hts, -, hG⟩ := id C
  intro x1 S H locs ls h X hl
  unfold f_X7_put_b22 at h
  refine lv_iconst (v := (0 : Int32)) hx hb dX7_put_22 (by decide) ?_
  exact t_X7_put_b23 C hk0 x1 (0 : Int32) S _ _ _ h X (lv_sub hl [0, 1] rfl)
def f_X7_put (k0 : Nat) (x1 : Int32) (S : sd_St) : Option (Unit × sd_St) := (if x1 = (10 : Int32) then f_X7_put_b18 k0 x1 S else (if x1 < (32 : Int32) then f_X7_put_b22 k0 x1 S else (if (126 : Int32) < x1 then f_X7_put_b22 k0 x1 S else f_X7_put_b18 k0 x1 S)))
set_option maxHeartbeats 4000000 in
set_option maxRecDepth 100000 in
theorem c_X7_put {k0 : Nat} {x1 : Int32} (hk0 : sd_kd k0 = 7) {S S' : sd_St} (h : f_X7_put k0 x1 S = some ((), S')) : Met l yX7_put (Cond.code yX7_put cX7_put 3 none :: sd_wl) (sd_rm 0) (sd_P D cy ad A b0 [.ref (ad k0), .int x1] S) (sd_Qv D cy ad A S') 0 0 A := by
  refine sd_met (by decide) (Nat.le_of_ble_eq_true rfl) (fun p e s m args below meth c ls C X hl => ?_)
  obtain ⟨hx, hb, -, hml, hown, hts, -, hG⟩ := id C
  replace C : sd_C RX7 cX7_put 3 none D cy ad A b0 p s m args meth c := C
  replace hl : lv_has ls 3 [(0, .ref (ad k0)), (1, .int x1)] := hl
  unfold f_X7_put at h
  refine lv_iload_n hx hb dX7_put_0 rfl (lv_at hl 1 rfl) ?_
  refine lv_bipush (v := (10 : Int32)) hx hb dX7_put_1 (by decide) ?_
  refine lv_icmp_eq (tgt := 18) hx hb dX7_put_3 (by decide) (fun c_5 => ?_) (fun c_5 => ?_)
  · have h := sd_ifp c_5 h
    exact t_X7_put_b18 C hk0 x1 S _ _ _ h X (lv_sub hl [0, 1] rfl)
  · have h := sd_ifn c_5 h
    refine lv_iload_n hx hb dX7_put_6 rfl (lv_at hl 1 rfl) ?_
    refine lv_bipush (v := (32 : Int32)) hx hb dX7_put_7 (by decide) ?_
    refine lv_icmp_lt (tgt := 22) hx hb dX7_put_9 (by decide) (fun c_6 => ?_) (fun c_6 => ?_)
    · have h := sd_ifp c_6 h
      exact t_X7_put_b22 C hk0 x1 S _ _ _ h X (lv_sub hl [0, 1] rfl)
    · have h := sd_ifn c_6 h
      refine lv_iload_n hx hb dX7_put_12 rfl (lv_at hl 1 rfl) ?_
      refine lv_bipush (v := (126 : Int32)) hx hb dX7_put_13 (by decide) ?_
      refine lv_icmp_gt (tgt := 22) hx hb dX7_put_15 (by decide) (fun c_7 => ?_) (fun c_7 => ?_)
      · have h := sd_ifp c_7 h
        exact t_X7_put_b22 C hk0 x1 S _ _ _ h X (lv_sub hl [0, 1] rfl)
      · have h := sd_ifn c_7 h
        exact t_X7_put_b18 C hk0 x1 S _ _ _ h X (lv_sub hl [0, 1] rfl)
theorem k_X7_put (C : sd_C own cc nL rt D cy ad A b0 p s m args meth c) (X : sd_H D cy ad A s S H locs) (hls : ls.size = nL) {k0 : Nat} {x1 : Int32} {S2 : sd_St} (hk0 : sd_kd k0 = 7) (h : f_X7_put k0 x1 S = some ((), S2)) (hlink : Cond.methodLink own index yX7_put ∈ sd_wl) (hR : 1 ≤ R.frames ∧ 22 ≤ R.locals ∧ cells ≤ R.cells ∧ slots ≤ R.slots) (hst : (rest.map fun v => v.category).sum ≤ 8) (hdg : decode cc pc = .ok (.invokevirtual index, 3)) (kk : ∀ (H1 : Heap) (locs1 : List Loc), sd_H D cy ad A s S2 H1 locs1 → W p l e R s m args below meth c H1 locs1 cells slots Q (F0 m (pc + 3) ls rest)) : W p l e R s m args below meth c H locs cells slots Q (F0 m pc ls (.int x1 :: .ref (ad k0) :: rest)) :=
  sd_goV X (sd_runV C X hls (n := 1) (k := k0) (As := [.int x1]) (c_X7_put (l := l) (b0 := b0) hk0 h) (sd_goodV hlink sd_w9_15 sd_w9_16 sd_w3_13 sd_w9_17) (ci := 7) rfl (by rw [hk0]; decide) (sd_c7 hk0) (by decide +kernel) rfl hR rfl hst hdg) kk
/-! ===== SecretDays$Tape.wipe()V ===== -/
def f_X7_wipe (k0 : Nat) (S : sd_St) : Option (Unit × sd_St) := sd_nm (sd_I S k0 1 (0 : Int32)) (fun S_1 => (some ((), S_1)))
set_option maxHeartbeats 4000000 in
set_option maxRecDepth 100000 in
theorem c_X7_wipe {k0 : Nat} (hk0 : sd_kd k0 = 7) {S S' : sd_St} (h : f_X7_wipe k0 S = some ((), S')) : Met l yX7_wipe (Cond.code yX7_wipe cX7_wipe 1 none :: sd_wl) (sd_rm 0) (sd_P D cy ad A b0 [.ref (ad k0)] S) (sd_Qv D cy ad A S') 0 0 A := by
  refine sd_met (by decide) (Nat.le_of_ble_eq_true rfl) (fun p e s m args below meth c ls C X hl => ?_)
  obtain ⟨hx, hb, -, hml, hown, hts, -, hG⟩ := id C
  replace C : sd_C RX7 cX7_wipe 1 none D cy ad A b0 p s m args meth c := C
  replace hl : lv_has ls 1 [(0, .ref (ad k0))] := hl
  unfold f_X7_wipe at h
  refine lv_aload_n hx hb dX7_wipe_0 rfl (lv_at hl 0 rfl) ?_
  refine lv_iconst (v := (0 : Int32)) hx hb dX7_wipe_1 (by decide) ?_
  obtain ⟨S_1, eS_1, h⟩ := sd_nm_some h
  refine sd_p7_1 C X hk0 sd_w9_18 dX7_wipe_2 (fun H locs X => ?_)
  rw [← eS_1] at X
  cases h
  exact sd_vret C X dX7_wipe_5
theorem k_X7_wipe (C : sd_C own cc nL rt D cy ad A b0 p s m args meth c) (X : sd_H D cy ad A s S H locs) (hls : ls.size = nL) {k0 : Nat} {S2 : sd_St} (hk0 : sd_kd k0 = 7) (h : f_X7_wipe k0 S = some ((), S2)) (hlink : Cond.methodLink own index yX7_wipe ∈ sd_wl) (hR : 1 ≤ R.frames ∧ 20 ≤ R.locals ∧ cells ≤ R.cells ∧ slots ≤ R.slots) (hst : (rest.map fun v => v.category).sum ≤ 8) (hdg : decode cc pc = .ok (.invokevirtual index, 3)) (kk : ∀ (H1 : Heap) (locs1 : List Loc), sd_H D cy ad A s S2 H1 locs1 → W p l e R s m args below meth c H1 locs1 cells slots Q (F0 m (pc + 3) ls rest)) : W p l e R s m args below meth c H locs cells slots Q (F0 m pc ls (.ref (ad k0) :: rest)) :=
  sd_goV X (sd_runV C X hls (n := 0) (k := k0) (As := []) (c_X7_wipe (l := l) (b0 := b0) hk0 h) (sd_goodV hlink sd_w17_10 sd_w17_11 sd_w3_13 sd_w17_12) (ci := 7) rfl (by rw [hk0]; decide) (sd_c7 hk0) (by decide +kernel) rfl hR rfl hst hdg) kk
/-! ===== SecretDays$Tape.isLetter(I)Z ===== -/
def f_X7_isLetter (x0 : Int32) (S : sd_St) : Option (Int32 × sd_St) := (if x0 < (97 : Int32) then (some ((0 : Int32), S)) else (if (122 : Int32) < x0 then (some ((0 : Int32), S)) else (some ((1 : Int32), S))))
set_option maxHeartbeats 4000000 in
set_option maxRecDepth 100000 in
theorem c_X7_isLetter {x0 : Int32} {S S' : sd_St} {r : Int32} (h : f_X7_isLetter x0 S = some (r, S')) : Met l yX7_isLetter (Cond.code yX7_isLetter cX7_isLetter 1 (some .boolean) :: sd_wl) (sd_rm 0) (sd_P D cy ad A b0 [.int x0] S) (sd_Qi D cy ad A r S') 0 0 A := by
  refine sd_met (by decide) (Nat.le_of_ble_eq_true rfl) (fun p e s m args below meth c ls C X hl => ?_)
  obtain ⟨hx, hb, -, hml, hown, hts, -, hG⟩ := id C
  replace C : sd_C RX7 cX7_isLetter 1 (some .boolean) D cy ad A b0 p s m args meth c := C
  replace hl : lv_has ls 1 [(0, .int x0)] := hl
  unfold f_X7_isLetter at h
  refine lv_iload_n hx hb dX7_isLetter_0 rfl (lv_at hl 0 rfl) ?_
  refine lv_bipush (v := (97 : Int32)) hx hb dX7_isLetter_1 (by decide) ?_
  refine lv_icmp_lt (tgt := 16) hx hb dX7_isLetter_3 (by decide) (fun c_1 => ?_) (fun c_1 => ?_)
  · have h := sd_ifp c_1 h
    refine lv_iconst (v := (0 : Int32)) hx hb dX7_isLetter_16 (by decide) ?_
    cases h
    exact sd_zret C X (by decide) dX7_isLetter_17
  · have h := sd_ifn c_1 h
    refine lv_iload_n hx hb dX7_isLetter_6 rfl (lv_at hl 0 rfl) ?_
    refine lv_bipush (v := (122 : Int32)) hx hb dX7_isLetter_7 (by decide) ?_
    refine lv_icmp_gt (tgt := 16) hx hb dX7_isLetter_9 (by decide) (fun c_2 => ?_) (fun c_2 => ?_)
    · have h := sd_ifp c_2 h
      refine lv_iconst (v := (0 : Int32)) hx hb dX7_isLetter_16 (by decide) ?_
      cases h
      exact sd_zret C X (by decide) dX7_isLetter_17
    · have h := sd_ifn c_2 h
      refine lv_iconst (v := (1 : Int32)) hx hb dX7_isLetter_12 (by decide) ?_
      refine lv_goto (tgt := 17) hx hb dX7_isLetter_13 (by decide) ?_
      cases h
      exact sd_zret C X (by decide) dX7_isLetter_17
theorem k_X7_isLetter (C : sd_C own cc nL rt D cy ad A b0 p s m args meth c) (X : sd_H D cy ad A s S H locs) (hls : ls.size = nL) {x0 : Int32} {S2 : sd_St} {r : Int32} (h : f_X7_isLetter x0 S = some (r, S2)) (hlink : Cond.methodLink own index yX7_isLetter ∈ sd_wl) (hR : 1 ≤ R.frames ∧ 20 ≤ R.locals ∧ cells ≤ R.cells ∧ slots ≤ R.slots) (hst : (rest.map fun v => v.category).sum ≤ 8) (hdg : decode cc pc = .ok (.invokestatic index, 3)) (kk : ∀ (H1 : Heap) (locs1 : List Loc), sd_H D cy ad A s S2 H1 locs1 → W p l e R s m args below meth c H1 locs1 cells slots Q (F0 m (pc + 3) ls (.int r :: rest))) : W p l e R s m args below meth c H locs cells slots Q (F0 m pc ls (.int x0 :: rest)) :=
  sd_goI X (sd_runJ C X hls (n := 1) (As := [.int x0]) (c_X7_isLetter (l := l) (b0 := b0) h) hlink sd_w11_20 sd_w3_13 sd_w11_21 (by decide +kernel) rfl hR rfl hst hdg) kk
/-! ===== SecretDays$Tape.takeWord()V ===== -/
def f_X7_takeWord_b86 (k0 : Nat) (w1 : Int32) (S : sd_St) : Option (Unit × sd_St) := sd_nm (sd_I S k0 3 w1) (fun S_1 => (some ((), S_1)))
set_option maxHeartbeats 4000000 in
set_option maxRecDepth 100000 in
theorem t_X7_takeWord_b86 (C : sd_C RX7 cX7_takeWord 1 none D cy ad A b0 p s m args meth c) {k0 : Nat} (hk0 : sd_kd k0 = 7) {S' : sd_St} : ∀ (w1 : Int32) (S : sd_St) (H : Heap) (locs : List Loc) (ls : Array Slot), f_X7_takeWord_b86 k0 w1 S = some ((), S') → sd_H D cy ad A s S H locs → lv_has ls 1 [] → W p l e (sd_rm 1) s m args below meth c H locs 0 0 (MQ below (sd_Qv D cy ad A S') args s 0 0 A) (F0 m 86 ls [.int w1, .ref (ad k0)]) := by
  obtain ⟨hx, hb, -, hml, hown, hts, -, hG⟩ := id C
  intro w1 S H locs ls h X hl
  unfold f_X7_takeWord_b86 at h
  obtain ⟨S_1, eS_1, h⟩ := sd_nm_some h
  refine sd_p7_3 C X hk0 sd_w11_18 dX7_takeWord_86 (fun H locs X => ?_)
  rw [← eS_1] at X
  cases h
  exact sd_vret C X dX7_takeWord_89
def f_X7_takeWord_b66 (k0 : Nat) (S : sd_St) : Option (Unit × sd_St) := (if (8 : Int32) < ((S.1 k0 2) - (S.1 k0 4)) then f_X7_takeWord_b86 k0 (4 : Int32) S else f_X7_takeWord_b86 k0 (1 : Int32) S)
set_option maxHeartbeats 4000000 in
set_option maxRecDepth 100000 in
theorem t_X7_takeWord_b66 (C : sd_C RX7 cX7_takeWord 1 none D cy ad A b0 p s m args meth c) {k0 : Nat} (hk0 : sd_kd k0 = 7) {S' : sd_St} : ∀ (S : sd_St) (H : Heap) (locs : List Loc) (ls : Array Slot), f_X7_takeWord_b66 k0 S = some ((), S') → sd_H D cy ad A s S H locs → lv_has ls 1 [(0, .ref (ad k0))] → W p l e (sd_rm 1) s m args below meth c H locs 0 0 (MQ below (sd_Qv D cy ad A S') args s 0 0 A) (F0 m 66 ls []) := by
  obtain ⟨hx, hb, -, hml, hown, hts, -, hG⟩ := id C
  intro S H locs ls h X hl
  unfold f_X7_takeWord_b66 at h
  refine lv_aload_n hx hb dX7_takeWord_66 rfl (lv_at hl 0 rfl) ?_
  refine lv_aload_n hx hb dX7_takeWord_67 rfl (lv_at hl 0 rfl) ?_
  refine sd_g7_2 C X hk0 sd_w11_12 dX7_takeWord_68 ?_
  refine lv_aload_n hx hb dX7_takeWord_71 rfl (lv_at hl 0 rfl) ?_
  refine sd_g7_4 C X hk0 sd_w11_17 dX7_takeWord_72 ?_
  refine lv_isub hx hb dX7_takeWord_75 ?_
  refine lv_bipush (v := (8 : Int32)) hx hb dX7_takeWord_76 (by decide) ?_
  refine lv_icmp_gt (tgt := 85) hx hb dX7_takeWord_78 (by decide) (fun c_2 => ?_) (fun c_2 => ?_)
  · have h := sd_ifp c_2 h
    refine lv_iconst (v := (4 : Int32)) hx hb dX7_takeWord_85 (by decide) ?_
    exact t_X7_takeWord_b86 C hk0 (4 : Int32) S _ _ _ h X (lv_sub hl [] rfl)
  · have h := sd_ifn c_2 h
    refine lv_iconst (v := (1 : Int32)) hx hb dX7_takeWord_81 (by decide) ?_
    refine lv_goto (tgt := 86) hx hb dX7_takeWord_82 (by decide) ?_
    exact t_X7_takeWord_b86 C hk0 (1 : Int32) S _ _ _ h X (lv_sub hl [] rfl)
def f_X7_takeWord_l5 (k0 : Nat) : Nat → sd_St → Option (Unit × sd_St)
  | 0 => fun _ => none
  | n + 1 => fun S => (if (S.1 k0 1) ≤ (S.1 k0 2) then f_X7_takeWord_b66 k0 S else sd_ld S (k0 + 1) (S.1 k0 2) (fun v_4 => sd_cl (f_X7_isLetter v_4 S) (fun r_6 S_5 => (if r_6 = 0 then f_X7_takeWord_b66 k0 S_5 else sd_ld S_5 (k0 + 1) (S_5.1 k0 2) (fun v_8 => sd_nm (sd_L S_5 k0 5 (((S_5.2 k0 5) <<< ((8 : Int32).toInt64 &&& 63)) ||| (v_8.toInt64))) (fun S_9 => sd_nm (sd_I S_9 k0 2 ((S_9.1 k0 2) + (1 : Int32))) (fun S_10 => (f_X7_takeWord_l5 k0 n) S_10)))))))
set_option maxHeartbeats 4000000 in
set_option maxRecDepth 100000 in
theorem t_X7_takeWord_l5 (C : sd_C RX7 cX7_takeWord 1 none D cy ad A b0 p s m args meth c) {k0 : Nat} (hk0 : sd_kd k0 = 7) {S' : sd_St} : ∀ (n : Nat) (S : sd_St) (H : Heap) (locs : List Loc) (ls : Array Slot), f_X7_takeWord_l5 k0 n S = some ((), S') → sd_H D cy ad A s S H locs → lv_has ls 1 [(0, .ref (ad k0))] → W p l e (sd_rm 1) s m args below meth c H locs 0 0 (MQ below (sd_Qv D cy ad A S') args s 0 0 A) (F0 m 5 ls []) := by
  obtain ⟨hx, hb, -, hml, hown, hts, -, hG⟩ := id C
  intro n
  induction n with
  | zero => intro S H locs ls h; cases h
  | succ n ih =>
    intro S H locs ls h X hl
    unfold f_X7_takeWord_l5 at h
    refine lv_aload_n hx hb dX7_takeWord_5 rfl (lv_at hl 0 rfl) ?_
    refine sd_g7_2 C X hk0 sd_w11_12 dX7_takeWord_6 ?_
    refine lv_aload_n hx hb dX7_takeWord_9 rfl (lv_at hl 0 rfl) ?_
    refine sd_g7_1 C X hk0 sd_w9_18 dX7_takeWord_10 ?_
    refine lv_icmp_ge (tgt := 66) hx hb dX7_takeWord_13 (by decide) (fun c_3 => ?_) (fun c_3 => ?_)
    · have h := sd_ifp c_3 h
      exact t_X7_takeWord_b66 C hk0 S _ _ _ h X (lv_sub hl [0] rfl)
    · have h := sd_ifn c_3 h
      refine lv_aload_n hx hb dX7_takeWord_16 rfl (lv_at hl 0 rfl) ?_
      refine sd_g7_0 (k := k0) C X hk0 sd_w4_12 dX7_takeWord_17 ?_
      refine lv_aload_n hx hb dX7_takeWord_20 rfl (lv_at hl 0 rfl) ?_
      refine sd_g7_2 C X hk0 sd_w11_12 dX7_takeWord_21 ?_
      obtain ⟨b_4, v_4, e_4, h⟩ := sd_ld_some h
      refine sd_bald C X (sd_k7_1 hk0) b_4 dX7_takeWord_24 (sd_nmi e_4 ?_)
      obtain ⟨r_6, S_5, er_6, h⟩ := sd_cl_some h
      refine k_X7_isLetter C X hl.1 er_6 sd_w11_19 (by decide) (Nat.le_of_ble_eq_true rfl) dX7_takeWord_25 (fun H locs X => ?_)
      refine lv_if_eq (tgt := 66) hx hb dX7_takeWord_28 (by decide) (fun c_7 => ?_) (fun c_7 => ?_)
      · have h := sd_ifp c_7 h
        exact t_X7_takeWord_b66 C hk0 S_5 _ _ _ h X (lv_sub hl [0] rfl)
      · have h := sd_ifn c_7 h
        refine lv_aload_n hx hb dX7_takeWord_31 rfl (lv_at hl 0 rfl) ?_
        refine lv_aload_n hx hb dX7_takeWord_32 rfl (lv_at hl 0 rfl) ?_
        refine sd_g7_5 C X hk0 sd_w12_2 dX7_takeWord_33 ?_
        refine lv_bipush (v := (8 : Int32)) hx hb dX7_takeWord_36 (by decide) ?_
        refine lv_lshl (v := (S_5.2 k0 5) <<< ((8 : Int32).toInt64 &&& 63)) hx hb dX7_takeWord_38 rfl ?_
        refine lv_aload_n hx hb dX7_takeWord_39 rfl (lv_at hl 0 rfl) ?_
        refine sd_g7_0 (k := k0) C X hk0 sd_w4_12 dX7_takeWord_40 ?_
        refine lv_aload_n hx hb dX7_takeWord_43 rfl (lv_at hl 0 rfl) ?_
        refine sd_g7_2 C X hk0 sd_w11_12 dX7_takeWord_44 ?_
        obtain ⟨b_8, v_8, e_8, h⟩ := sd_ld_some h
        refine sd_bald C X (sd_k7_1 hk0) b_8 dX7_takeWord_47 (sd_nmi e_8 ?_)
        refine lv_i2l (v := v_8.toInt64) hx hb dX7_takeWord_48 rfl ?_
        refine lv_lor hx hb dX7_takeWord_49 ?_
        obtain ⟨S_9, eS_9, h⟩ := sd_nm_some h
        refine sd_p7_5 C X hk0 sd_w12_2 dX7_takeWord_50 (fun H locs X => ?_)
        rw [← eS_9] at X
        refine lv_aload_n hx hb dX7_takeWord_53 rfl (lv_at hl 0 rfl) ?_
        refine lv_dup hx hb dX7_takeWord_54 rfl ?_
        refine sd_g7_2 C X hk0 sd_w11_12 dX7_takeWord_55 ?_
        refine lv_iconst (v := (1 : Int32)) hx hb dX7_takeWord_58 (by decide) ?_
        refine lv_iadd hx hb dX7_takeWord_59 ?_
        obtain ⟨S_10, eS_10, h⟩ := sd_nm_some h
        refine sd_p7_2 C X hk0 sd_w11_12 dX7_takeWord_60 (fun H locs X => ?_)
        rw [← eS_10] at X
        refine lv_goto (tgt := 5) hx hb dX7_takeWord_63 (by decide) ?_
        exact ih S_10 _ _ _ h X (lv_sub hl [0] rfl)
def f_X7_takeWord (k0 : Nat) (S : sd_St) : Option (Unit × sd_St) := sd_nm (sd_L S k0 5 (0 : Int64)) (fun S_11 => f_X7_takeWord_l5 k0 sd_FU S_11)
set_option maxHeartbeats 4000000 in
set_option maxRecDepth 100000 in
theorem c_X7_takeWord {k0 : Nat} (hk0 : sd_kd k0 = 7) {S S' : sd_St} (h : f_X7_takeWord k0 S = some ((), S')) : Met l yX7_takeWord (Cond.code yX7_takeWord cX7_takeWord 1 none :: sd_wl) (sd_rm 1) (sd_P D cy ad A b0 [.ref (ad k0)] S) (sd_Qv D cy ad A S') 0 0 A := by
  refine sd_met (by decide) (Nat.le_of_ble_eq_true rfl) (fun p e s m args below meth c ls C X hl => ?_)
  obtain ⟨hx, hb, -, hml, hown, hts, -, hG⟩ := id C
  replace C : sd_C RX7 cX7_takeWord 1 none D cy ad A b0 p s m args meth c := C
  replace hl : lv_has ls 1 [(0, .ref (ad k0))] := hl
  unfold f_X7_takeWord at h
  refine lv_aload_n hx hb dX7_takeWord_0 rfl (lv_at hl 0 rfl) ?_
  refine lv_lconst (v := (0 : Int64)) hx hb dX7_takeWord_1 (by decide) ?_
  obtain ⟨S_11, eS_11, h⟩ := sd_nm_some h
  refine sd_p7_5 C X hk0 sd_w12_2 dX7_takeWord_2 (fun H locs X => ?_)
  rw [← eS_11] at X
  exact t_X7_takeWord_l5 C hk0 sd_FU S_11 _ _ _ h X (lv_sub hl [0] rfl)
theorem k_X7_takeWord (C : sd_C own cc nL rt D cy ad A b0 p s m args meth c) (X : sd_H D cy ad A s S H locs) (hls : ls.size = nL) {k0 : Nat} {S2 : sd_St} (hk0 : sd_kd k0 = 7) (h : f_X7_takeWord k0 S = some ((), S2)) (hlink : Cond.methodLink own index yX7_takeWord ∈ sd_wl) (hR : 2 ≤ R.frames ∧ 60 ≤ R.locals ∧ cells ≤ R.cells ∧ slots ≤ R.slots) (hst : (rest.map fun v => v.category).sum ≤ 8) (hdg : decode cc pc = .ok (.invokevirtual index, 3)) (kk : ∀ (H1 : Heap) (locs1 : List Loc), sd_H D cy ad A s S2 H1 locs1 → W p l e R s m args below meth c H1 locs1 cells slots Q (F0 m (pc + 3) ls rest)) : W p l e R s m args below meth c H locs cells slots Q (F0 m pc ls (.ref (ad k0) :: rest)) :=
  sd_goV X (sd_runV C X hls (n := 0) (k := k0) (As := []) (c_X7_takeWord (l := l) (b0 := b0) hk0 h) (sd_goodV hlink sd_w11_23 sd_w12_0 sd_w3_13 sd_w12_1) (ci := 7) rfl (by rw [hk0]; decide) (sd_c7 hk0) (by decide +kernel) rfl hR rfl hst hdg) kk
/-! ===== SecretDays$Tape.isDigit(I)Z ===== -/
def f_X7_isDigit (x0 : Int32) (S : sd_St) : Option (Int32 × sd_St) := (if x0 < (48 : Int32) then (some ((0 : Int32), S)) else (if (57 : Int32) < x0 then (some ((0 : Int32), S)) else (some ((1 : Int32), S))))
set_option maxHeartbeats 4000000 in
set_option maxRecDepth 100000 in
theorem c_X7_isDigit {x0 : Int32} {S S' : sd_St} {r : Int32} (h : f_X7_isDigit x0 S = some (r, S')) : Met l yX7_isDigit (Cond.code yX7_isDigit cX7_isDigit 1 (some .boolean) :: sd_wl) (sd_rm 0) (sd_P D cy ad A b0 [.int x0] S) (sd_Qi D cy ad A r S') 0 0 A := by
  refine sd_met (by decide) (Nat.le_of_ble_eq_true rfl) (fun p e s m args below meth c ls C X hl => ?_)
  obtain ⟨hx, hb, -, hml, hown, hts, -, hG⟩ := id C
  replace C : sd_C RX7 cX7_isDigit 1 (some .boolean) D cy ad A b0 p s m args meth c := C
  replace hl : lv_has ls 1 [(0, .int x0)] := hl
  unfold f_X7_isDigit at h
  refine lv_iload_n hx hb dX7_isDigit_0 rfl (lv_at hl 0 rfl) ?_
  refine lv_bipush (v := (48 : Int32)) hx hb dX7_isDigit_1 (by decide) ?_
  refine lv_icmp_lt (tgt := 16) hx hb dX7_isDigit_3 (by decide) (fun c_1 => ?_) (fun c_1 => ?_)
  · have h := sd_ifp c_1 h
    refine lv_iconst (v := (0 : Int32)) hx hb dX7_isDigit_16 (by decide) ?_
    cases h
    exact sd_zret C X (by decide) dX7_isDigit_17
  · have h := sd_ifn c_1 h
    refine lv_iload_n hx hb dX7_isDigit_6 rfl (lv_at hl 0 rfl) ?_
    refine lv_bipush (v := (57 : Int32)) hx hb dX7_isDigit_7 (by decide) ?_
    refine lv_icmp_gt (tgt := 16) hx hb dX7_isDigit_9 (by decide) (fun c_2 => ?_) (fun c_2 => ?_)
    · have h := sd_ifp c_2 h
      refine lv_iconst (v := (0 : Int32)) hx hb dX7_isDigit_16 (by decide) ?_
      cases h
      exact sd_zret C X (by decide) dX7_isDigit_17
    · have h := sd_ifn c_2 h
      refine lv_iconst (v := (1 : Int32)) hx hb dX7_isDigit_12 (by decide) ?_
      refine lv_goto (tgt := 17) hx hb dX7_isDigit_13 (by decide) ?_
      cases h
      exact sd_zret C X (by decide) dX7_isDigit_17
theorem k_X7_isDigit (C : sd_C own cc nL rt D cy ad A b0 p s m args meth c) (X : sd_H D cy ad A s S H locs) (hls : ls.size = nL) {x0 : Int32} {S2 : sd_St} {r : Int32} (h : f_X7_isDigit x0 S = some (r, S2)) (hlink : Cond.methodLink own index yX7_isDigit ∈ sd_wl) (hR : 1 ≤ R.frames ∧ 20 ≤ R.locals ∧ cells ≤ R.cells ∧ slots ≤ R.slots) (hst : (rest.map fun v => v.category).sum ≤ 8) (hdg : decode cc pc = .ok (.invokestatic index, 3)) (kk : ∀ (H1 : Heap) (locs1 : List Loc), sd_H D cy ad A s S2 H1 locs1 → W p l e R s m args below meth c H1 locs1 cells slots Q (F0 m (pc + 3) ls (.int r :: rest))) : W p l e R s m args below meth c H locs cells slots Q (F0 m pc ls (.int x0 :: rest)) :=
  sd_goI X (sd_runJ C X hls (n := 1) (As := [.int x0]) (c_X7_isDigit (l := l) (b0 := b0) h) hlink sd_w12_4 sd_w3_13 sd_w12_5 (by decide +kernel) rfl hR rfl hst hdg) kk
/-! ===== SecretDays$Tape.takeNumber()V ===== -/
def f_X7_takeNumber_b87 (k0 : Nat) (w1 : Int32) (S : sd_St) : Option (Unit × sd_St) := sd_nm (sd_I S k0 3 w1) (fun S_1 => (some ((), S_1)))
set_option maxHeartbeats 4000000 in
set_option maxRecDepth 100000 in
theorem t_X7_takeNumber_b87 (C : sd_C RX7 cX7_takeNumber 1 none D cy ad A b0 p s m args meth c) {k0 : Nat} (hk0 : sd_kd k0 = 7) {S' : sd_St} : ∀ (w1 : Int32) (S : sd_St) (H : Heap) (locs : List Loc) (ls : Array Slot), f_X7_takeNumber_b87 k0 w1 S = some ((), S') → sd_H D cy ad A s S H locs → lv_has ls 1 [] → W p l e (sd_rm 1) s m args below meth c H locs 0 0 (MQ below (sd_Qv D cy ad A S') args s 0 0 A) (F0 m 87 ls [.int w1, .ref (ad k0)]) := by
  obtain ⟨hx, hb, -, hml, hown, hts, -, hG⟩ := id C
  intro w1 S H locs ls h X hl
  unfold f_X7_takeNumber_b87 at h
  obtain ⟨S_1, eS_1, h⟩ := sd_nm_some h
  refine sd_p7_3 C X hk0 sd_w11_18 dX7_takeNumber_87 (fun H locs X => ?_)
  rw [← eS_1] at X
  cases h
  exact sd_vret C X dX7_takeNumber_90
def f_X7_takeNumber_b68 (k0 : Nat) (S : sd_St) : Option (Unit × sd_St) := (if (4 : Int32) < ((S.1 k0 2) - (S.1 k0 4)) then f_X7_takeNumber_b87 k0 (4 : Int32) S else f_X7_takeNumber_b87 k0 (2 : Int32) S)
set_option maxHeartbeats 4000000 in
set_option maxRecDepth 100000 in
theorem t_X7_takeNumber_b68 (C : sd_C RX7 cX7_takeNumber 1 none D cy ad A b0 p s m args meth c) {k0 : Nat} (hk0 : sd_kd k0 = 7) {S' : sd_St} : ∀ (S : sd_St) (H : Heap) (locs : List Loc) (ls : Array Slot), f_X7_takeNumber_b68 k0 S = some ((), S') → sd_H D cy ad A s S H locs → lv_has ls 1 [(0, .ref (ad k0))] → W p l e (sd_rm 1) s m args below meth c H locs 0 0 (MQ below (sd_Qv D cy ad A S') args s 0 0 A) (F0 m 68 ls []) := by
  obtain ⟨hx, hb, -, hml, hown, hts, -, hG⟩ := id C
  intro S H locs ls h X hl
  unfold f_X7_takeNumber_b68 at h
  refine lv_aload_n hx hb dX7_takeNumber_68 rfl (lv_at hl 0 rfl) ?_
  refine lv_aload_n hx hb dX7_takeNumber_69 rfl (lv_at hl 0 rfl) ?_
  refine sd_g7_2 C X hk0 sd_w11_12 dX7_takeNumber_70 ?_
  refine lv_aload_n hx hb dX7_takeNumber_73 rfl (lv_at hl 0 rfl) ?_
  refine sd_g7_4 C X hk0 sd_w11_17 dX7_takeNumber_74 ?_
  refine lv_isub hx hb dX7_takeNumber_77 ?_
  refine lv_iconst (v := (4 : Int32)) hx hb dX7_takeNumber_78 (by decide) ?_
  refine lv_icmp_gt (tgt := 86) hx hb dX7_takeNumber_79 (by decide) (fun c_2 => ?_) (fun c_2 => ?_)
  · have h := sd_ifp c_2 h
    refine lv_iconst (v := (4 : Int32)) hx hb dX7_takeNumber_86 (by decide) ?_
    exact t_X7_takeNumber_b87 C hk0 (4 : Int32) S _ _ _ h X (lv_sub hl [] rfl)
  · have h := sd_ifn c_2 h
    refine lv_iconst (v := (2 : Int32)) hx hb dX7_takeNumber_82 (by decide) ?_
    refine lv_goto (tgt := 87) hx hb dX7_takeNumber_83 (by decide) ?_
    exact t_X7_takeNumber_b87 C hk0 (2 : Int32) S _ _ _ h X (lv_sub hl [] rfl)
def f_X7_takeNumber_l5 (k0 : Nat) : Nat → sd_St → Option (Unit × sd_St)
  | 0 => fun _ => none
  | n + 1 => fun S => (if (S.1 k0 1) ≤ (S.1 k0 2) then f_X7_takeNumber_b68 k0 S else sd_ld S (k0 + 1) (S.1 k0 2) (fun v_4 => sd_cl (f_X7_isDigit v_4 S) (fun r_6 S_5 => (if r_6 = 0 then f_X7_takeNumber_b68 k0 S_5 else sd_ld S_5 (k0 + 1) (S_5.1 k0 2) (fun v_8 => sd_nm (sd_I S_5 k0 6 (((S_5.1 k0 6) * (10 : Int32)) + (v_8 - (48 : Int32)))) (fun S_9 => sd_nm (sd_I S_9 k0 2 ((S_9.1 k0 2) + (1 : Int32))) (fun S_10 => (f_X7_takeNumber_l5 k0 n) S_10)))))))
set_option maxHeartbeats 4000000 in
set_option maxRecDepth 100000 in
theorem t_X7_takeNumber_l5 (C : sd_C RX7 cX7_takeNumber 1 none D cy ad A b0 p s m args meth c) {k0 : Nat} (hk0 : sd_kd k0 = 7) {S' : sd_St} : ∀ (n : Nat) (S : sd_St) (H : Heap) (locs : List Loc) (ls : Array Slot), f_X7_takeNumber_l5 k0 n S = some ((), S') → sd_H D cy ad A s S H locs → lv_has ls 1 [(0, .ref (ad k0))] → W p l e (sd_rm 1) s m args below meth c H locs 0 0 (MQ below (sd_Qv D cy ad A S') args s 0 0 A) (F0 m 5 ls []) := by
  obtain ⟨hx, hb, -, hml, hown, hts, -, hG⟩ := id C
  intro n
  induction n with
  | zero => intro S H locs ls h; cases h
  | succ n ih =>
    intro S H locs ls h X hl
    unfold f_X7_takeNumber_l5 at h
    refine lv_aload_n hx hb dX7_takeNumber_5 rfl (lv_at hl 0 rfl) ?_
    refine sd_g7_2 C X hk0 sd_w11_12 dX7_takeNumber_6 ?_
    refine lv_aload_n hx hb dX7_takeNumber_9 rfl (lv_at hl 0 rfl) ?_
    refine sd_g7_1 C X hk0 sd_w9_18 dX7_takeNumber_10 ?_
    refine lv_icmp_ge (tgt := 68) hx hb dX7_takeNumber_13 (by decide) (fun c_3 => ?_) (fun c_3 => ?_)
    · have h := sd_ifp c_3 h
      exact t_X7_takeNumber_b68 C hk0 S _ _ _ h X (lv_sub hl [0] rfl)
    · have h := sd_ifn c_3 h
      refine lv_aload_n hx hb dX7_takeNumber_16 rfl (lv_at hl 0 rfl) ?_
      refine sd_g7_0 (k := k0) C X hk0 sd_w4_12 dX7_takeNumber_17 ?_
      refine lv_aload_n hx hb dX7_takeNumber_20 rfl (lv_at hl 0 rfl) ?_
      refine sd_g7_2 C X hk0 sd_w11_12 dX7_takeNumber_21 ?_
      obtain ⟨b_4, v_4, e_4, h⟩ := sd_ld_some h
      refine sd_bald C X (sd_k7_1 hk0) b_4 dX7_takeNumber_24 (sd_nmi e_4 ?_)
      obtain ⟨r_6, S_5, er_6, h⟩ := sd_cl_some h
      refine k_X7_isDigit C X hl.1 er_6 sd_w12_3 (by decide) (Nat.le_of_ble_eq_true rfl) dX7_takeNumber_25 (fun H locs X => ?_)
      refine lv_if_eq (tgt := 68) hx hb dX7_takeNumber_28 (by decide) (fun c_7 => ?_) (fun c_7 => ?_)
      · have h := sd_ifp c_7 h
        exact t_X7_takeNumber_b68 C hk0 S_5 _ _ _ h X (lv_sub hl [0] rfl)
      · have h := sd_ifn c_7 h
        refine lv_aload_n hx hb dX7_takeNumber_31 rfl (lv_at hl 0 rfl) ?_
        refine lv_aload_n hx hb dX7_takeNumber_32 rfl (lv_at hl 0 rfl) ?_
        refine sd_g7_6 C X hk0 sd_w12_10 dX7_takeNumber_33 ?_
        refine lv_bipush (v := (10 : Int32)) hx hb dX7_takeNumber_36 (by decide) ?_
        refine lv_imul hx hb dX7_takeNumber_38 ?_
        refine lv_aload_n hx hb dX7_takeNumber_39 rfl (lv_at hl 0 rfl) ?_
        refine sd_g7_0 (k := k0) C X hk0 sd_w4_12 dX7_takeNumber_40 ?_
        refine lv_aload_n hx hb dX7_takeNumber_43 rfl (lv_at hl 0 rfl) ?_
        refine sd_g7_2 C X hk0 sd_w11_12 dX7_takeNumber_44 ?_
        obtain ⟨b_8, v_8, e_8, h⟩ := sd_ld_some h
        refine sd_bald C X (sd_k7_1 hk0) b_8 dX7_takeNumber_47 (sd_nmi e_8 ?_)
        refine lv_bipush (v := (48 : Int32)) hx hb dX7_takeNumber_48 (by decide) ?_
        refine lv_isub hx hb dX7_takeNumber_50 ?_
        refine lv_iadd hx hb dX7_takeNumber_51 ?_
        obtain ⟨S_9, eS_9, h⟩ := sd_nm_some h
        refine sd_p7_6 C X hk0 sd_w12_10 dX7_takeNumber_52 (fun H locs X => ?_)
        rw [← eS_9] at X
        refine lv_aload_n hx hb dX7_takeNumber_55 rfl (lv_at hl 0 rfl) ?_
        refine lv_dup hx hb dX7_takeNumber_56 rfl ?_
        refine sd_g7_2 C X hk0 sd_w11_12 dX7_takeNumber_57 ?_
        refine lv_iconst (v := (1 : Int32)) hx hb dX7_takeNumber_60 (by decide) ?_
        refine lv_iadd hx hb dX7_takeNumber_61 ?_
        obtain ⟨S_10, eS_10, h⟩ := sd_nm_some h
        refine sd_p7_2 C X hk0 sd_w11_12 dX7_takeNumber_62 (fun H locs X => ?_)
        rw [← eS_10] at X
        refine lv_goto (tgt := 5) hx hb dX7_takeNumber_65 (by decide) ?_
        exact ih S_10 _ _ _ h X (lv_sub hl [0] rfl)
def f_X7_takeNumber (k0 : Nat) (S : sd_St) : Option (Unit × sd_St) := sd_nm (sd_I S k0 6 (0 : Int32)) (fun S_11 => f_X7_takeNumber_l5 k0 sd_FU S_11)
set_option maxHeartbeats 4000000 in
set_option maxRecDepth 100000 in
theorem c_X7_takeNumber {k0 : Nat} (hk0 : sd_kd k0 = 7) {S S' : sd_St} (h : f_X7_takeNumber k0 S = some ((), S')) : Met l yX7_takeNumber (Cond.code yX7_takeNumber cX7_takeNumber 1 none :: sd_wl) (sd_rm 1) (sd_P D cy ad A b0 [.ref (ad k0)] S) (sd_Qv D cy ad A S') 0 0 A := by
  refine sd_met (by decide) (Nat.le_of_ble_eq_true rfl) (fun p e s m args below meth c ls C X hl => ?_)
  obtain ⟨hx, hb, -, hml, hown, hts, -, hG⟩ := id C
  replace C : sd_C RX7 cX7_takeNumber 1 none D cy ad A b0 p s m args meth c := C
  replace hl : lv_has ls 1 [(0, .ref (ad k0))] := hl
  unfold f_X7_takeNumber at h
  refine lv_aload_n hx hb dX7_takeNumber_0 rfl (lv_at hl 0 rfl) ?_
  refine lv_iconst (v := (0 : Int32)) hx hb dX7_takeNumber_1 (by decide) ?_
  obtain ⟨S_11, eS_11, h⟩ := sd_nm_some h
  refine sd_p7_6 C X hk0 sd_w12_10 dX7_takeNumber_2 (fun H locs X => ?_)
  rw [← eS_11] at X
  exact t_X7_takeNumber_l5 C hk0 sd_FU S_11 _ _ _ h X (lv_sub hl [0] rfl)
theorem k_X7_takeNumber (C : sd_C own cc nL rt D cy ad A b0 p s m args meth c) (X : sd_H D cy ad A s S H locs) (hls : ls.size = nL) {k0 : Nat} {S2 : sd_St} (hk0 : sd_kd k0 = 7) (h : f_X7_takeNumber k0 S = some ((), S2)) (hlink : Cond.methodLink own index yX7_takeNumber ∈ sd_wl) (hR : 2 ≤ R.frames ∧ 60 ≤ R.locals ∧ cells ≤ R.cells ∧ slots ≤ R.slots) (hst : (rest.map fun v => v.category).sum ≤ 8) (hdg : decode cc pc = .ok (.invokevirtual index, 3)) (kk : ∀ (H1 : Heap) (locs1 : List Loc), sd_H D cy ad A s S2 H1 locs1 → W p l e R s m args below meth c H1 locs1 cells slots Q (F0 m (pc + 3) ls rest)) : W p l e R s m args below meth c H locs cells slots Q (F0 m pc ls (.ref (ad k0) :: rest)) :=
  sd_goV X (sd_runV C X hls (n := 0) (k := k0) (As := []) (c_X7_takeNumber (l := l) (b0 := b0) hk0 h) (sd_goodV hlink sd_w12_7 sd_w12_8 sd_w3_13 sd_w12_9) (ci := 7) rfl (by rw [hk0]; decide) (sd_c7 hk0) (by decide +kernel) rfl hR rfl hst hdg) kk
/-! ===== SecretDays$Tape.step()V ===== -/
def f_X7_step_b39 (q0 : (sd_St → Option (Unit × sd_St))) (k0 : Nat) (S : sd_St) : Option (Unit × sd_St) := sd_nm (sd_I S k0 2 ((S.1 k0 2) + (1 : Int32))) (fun S_1 => q0 S_1)
set_option maxHeartbeats 4000000 in
set_option maxRecDepth 100000 in
theorem t_X7_step_b39 (C : sd_C RX7 cX7_step 1 none D cy ad A b0 p s m args meth c) {k0 : Nat} (hk0 : sd_kd k0 = 7) {S' : sd_St} {q0 : (sd_St → Option (Unit × sd_St))} (hq0 : ∀ (S : sd_St) (H : Heap) (locs : List Loc) (ls : Array Slot), q0 S = some ((), S') → sd_H D cy ad A s S H locs → lv_has ls 1 [(0, .ref (ad k0))] → W p l e (sd_rm 2) s m args below meth c H locs 0 0 (MQ below (sd_Qv D cy ad A S') args s 0 0 A) (F0 m 0 ls [])) : ∀ (S : sd_St) (H : Heap) (locs : List Loc) (ls : Array Slot), f_X7_step_b39 q0 k0 S = some ((), S') → sd_H D cy ad A s S H locs → lv_has ls 1 [(0, .ref (ad k0))] → W p l e (sd_rm 2) s m args below meth c H locs 0 0 (MQ below (sd_Qv D cy ad A S') args s 0 0 A) (F0 m 39 ls []) := by
  obtain ⟨hx, hb, -, hml, hown, hts, -, hG⟩ := id C
  intro S H locs ls h X hl
  unfold f_X7_step_b39 at h
  refine lv_aload_n hx hb dX7_step_39 rfl (lv_at hl 0 rfl) ?_
  refine lv_dup hx hb dX7_step_40 rfl ?_
  refine sd_g7_2 C X hk0 sd_w11_12 dX7_step_41 ?_
  refine lv_iconst (v := (1 : Int32)) hx hb dX7_step_44 (by decide) ?_
  refine lv_iadd hx hb dX7_step_45 ?_
  obtain ⟨S_1, eS_1, h⟩ := sd_nm_some h
  refine sd_p7_2 C X hk0 sd_w11_12 dX7_step_46 (fun H locs X => ?_)
  rw [← eS_1] at X
  refine lv_goto (tgt := 0) hx hb dX7_step_49 (by decide) ?_
  exact hq0 S_1 _ _ _ h X (lv_sub hl [0] rfl)
def f_X7_step_b143 (k0 : Nat) (w1 : Int32) (S : sd_St) : Option (Unit × sd_St) := sd_nm (sd_I S k0 3 w1) (fun S_2 => sd_nm (sd_I S_2 k0 2 ((S_2.1 k0 2) + (1 : Int32))) (fun S_3 => (some ((), S_3))))
set_option maxHeartbeats 4000000 in
set_option maxRecDepth 100000 in
theorem t_X7_step_b143 (C : sd_C RX7 cX7_step 1 none D cy ad A b0 p s m args meth c) {k0 : Nat} (hk0 : sd_kd k0 = 7) {S' : sd_St} : ∀ (w1 : Int32) (S : sd_St) (H : Heap) (locs : List Loc) (ls : Array Slot), f_X7_step_b143 k0 w1 S = some ((), S') → sd_H D cy ad A s S H locs → lv_has ls 1 [(0, .ref (ad k0))] → W p l e (sd_rm 2) s m args below meth c H locs 0 0 (MQ below (sd_Qv D cy ad A S') args s 0 0 A) (F0 m 143 ls [.int w1, .ref (ad k0)]) := by
  obtain ⟨hx, hb, -, hml, hown, hts, -, hG⟩ := id C
  intro w1 S H locs ls h X hl
  unfold f_X7_step_b143 at h
  obtain ⟨S_2, eS_2, h⟩ := sd_nm_some h
  refine sd_p7_3 C X hk0 sd_w11_18 dX7_step_143 (fun H locs X => ?_)
  rw [← eS_2] at X
  refine lv_aload_n hx hb dX7_step_146 rfl (lv_at hl 0 rfl) ?_
  refine lv_dup hx hb dX7_step_147 rfl ?_
  refine sd_g7_2 C X hk0 sd_w11_12 dX7_step_148 ?_
  refine lv_iconst (v := (1 : Int32)) hx hb dX7_step_151 (by decide) ?_
  refine lv_iadd hx hb dX7_step_152 ?_
  obtain ⟨S_3, eS_3, h⟩ := sd_nm_some h
  refine sd_p7_2 C X hk0 sd_w11_12 dX7_step_153 (fun H locs X => ?_)
  rw [← eS_3] at X
  cases h
  exact sd_vret C X dX7_step_156
def f_X7_step_b52 (k0 : Nat) (S : sd_St) : Option (Unit × sd_St) := sd_nm (sd_I S k0 4 (S.1 k0 2)) (fun S_4 => (if (S_4.1 k0 2) < (S_4.1 k0 1) then sd_ld S_4 (k0 + 1) (S_4.1 k0 2) (fun v_6 => sd_cl (f_X7_isLetter v_6 S_4) (fun r_8 S_7 => (if r_8 = 0 then sd_ld S_7 (k0 + 1) (S_7.1 k0 2) (fun v_10 => sd_cl (f_X7_isDigit v_10 S_7) (fun r_12 S_11 => (if r_12 = 0 then sd_ld S_11 (k0 + 1) (S_11.1 k0 2) (fun v_14 => (if v_14 = (59 : Int32) then f_X7_step_b143 k0 (3 : Int32) S_11 else f_X7_step_b143 k0 (4 : Int32) S_11)) else sd_cl (f_X7_takeNumber k0 S_11) (fun _ S_16 => (some ((), S_16)))))) else sd_cl (f_X7_takeWord k0 S_7) (fun _ S_18 => (some ((), S_18)))))) else sd_nm (sd_I S_4 k0 3 (0 : Int32)) (fun S_20 => (some ((), S_20)))))
set_option maxHeartbeats 4000000 in
set_option maxRecDepth 100000 in
theorem t_X7_step_b52 (C : sd_C RX7 cX7_step 1 none D cy ad A b0 p s m args meth c) {k0 : Nat} (hk0 : sd_kd k0 = 7) {S' : sd_St} : ∀ (S : sd_St) (H : Heap) (locs : List Loc) (ls : Array Slot), f_X7_step_b52 k0 S = some ((), S') → sd_H D cy ad A s S H locs → lv_has ls 1 [(0, .ref (ad k0))] → W p l e (sd_rm 2) s m args below meth c H locs 0 0 (MQ below (sd_Qv D cy ad A S') args s 0 0 A) (F0 m 52 ls []) := by
  obtain ⟨hx, hb, -, hml, hown, hts, -, hG⟩ := id C
  intro S H locs ls h X hl
  unfold f_X7_step_b52 at h
  refine lv_aload_n hx hb dX7_step_52 rfl (lv_at hl 0 rfl) ?_
  refine lv_aload_n hx hb dX7_step_53 rfl (lv_at hl 0 rfl) ?_
  refine sd_g7_2 C X hk0 sd_w11_12 dX7_step_54 ?_
  obtain ⟨S_4, eS_4, h⟩ := sd_nm_some h
  refine sd_p7_4 C X hk0 sd_w11_17 dX7_step_57 (fun H locs X => ?_)
  rw [← eS_4] at X
  refine lv_aload_n hx hb dX7_step_60 rfl (lv_at hl 0 rfl) ?_
  refine sd_g7_2 C X hk0 sd_w11_12 dX7_step_61 ?_
  refine lv_aload_n hx hb dX7_step_64 rfl (lv_at hl 0 rfl) ?_
  refine sd_g7_1 C X hk0 sd_w9_18 dX7_step_65 ?_
  refine lv_icmp_lt (tgt := 79) hx hb dX7_step_68 (by decide) (fun c_5 => ?_) (fun c_5 => ?_)
  · have h := sd_ifp c_5 h
    refine lv_aload_n hx hb dX7_step_79 rfl (lv_at hl 0 rfl) ?_
    refine sd_g7_0 (k := k0) C X hk0 sd_w4_12 dX7_step_80 ?_
    refine lv_aload_n hx hb dX7_step_83 rfl (lv_at hl 0 rfl) ?_
    refine sd_g7_2 C X hk0 sd_w11_12 dX7_step_84 ?_
    obtain ⟨b_6, v_6, e_6, h⟩ := sd_ld_some h
    refine sd_bald C X (sd_k7_1 hk0) b_6 dX7_step_87 (sd_nmi e_6 ?_)
    obtain ⟨r_8, S_7, er_8, h⟩ := sd_cl_some h
    refine k_X7_isLetter C X hl.1 er_8 sd_w11_19 (by decide) (Nat.le_of_ble_eq_true rfl) dX7_step_88 (fun H locs X => ?_)
    refine lv_if_eq (tgt := 101) hx hb dX7_step_91 (by decide) (fun c_9 => ?_) (fun c_9 => ?_)
    · have h := sd_ifp c_9 h
      refine lv_aload_n hx hb dX7_step_101 rfl (lv_at hl 0 rfl) ?_
      refine sd_g7_0 (k := k0) C X hk0 sd_w4_12 dX7_step_102 ?_
      refine lv_aload_n hx hb dX7_step_105 rfl (lv_at hl 0 rfl) ?_
      refine sd_g7_2 C X hk0 sd_w11_12 dX7_step_106 ?_
      obtain ⟨b_10, v_10, e_10, h⟩ := sd_ld_some h
      refine sd_bald C X (sd_k7_1 hk0) b_10 dX7_step_109 (sd_nmi e_10 ?_)
      obtain ⟨r_12, S_11, er_12, h⟩ := sd_cl_some h
      refine k_X7_isDigit C X hl.1 er_12 sd_w12_3 (by decide) (Nat.le_of_ble_eq_true rfl) dX7_step_110 (fun H locs X => ?_)
      refine lv_if_eq (tgt := 123) hx hb dX7_step_113 (by decide) (fun c_13 => ?_) (fun c_13 => ?_)
      · have h := sd_ifp c_13 h
        refine lv_aload_n hx hb dX7_step_123 rfl (lv_at hl 0 rfl) ?_
        refine lv_aload_n hx hb dX7_step_124 rfl (lv_at hl 0 rfl) ?_
        refine sd_g7_0 (k := k0) C X hk0 sd_w4_12 dX7_step_125 ?_
        refine lv_aload_n hx hb dX7_step_128 rfl (lv_at hl 0 rfl) ?_
        refine sd_g7_2 C X hk0 sd_w11_12 dX7_step_129 ?_
        obtain ⟨b_14, v_14, e_14, h⟩ := sd_ld_some h
        refine sd_bald C X (sd_k7_1 hk0) b_14 dX7_step_132 (sd_nmi e_14 ?_)
        refine lv_bipush (v := (59 : Int32)) hx hb dX7_step_133 (by decide) ?_
        refine lv_icmp_ne (tgt := 142) hx hb dX7_step_135 (by decide) (fun c_15 => ?_) (fun c_15 => ?_)
        · have h := sd_ifn c_15 h
          refine lv_iconst (v := (4 : Int32)) hx hb dX7_step_142 (by decide) ?_
          exact t_X7_step_b143 C hk0 (4 : Int32) S_11 _ _ _ h X (lv_sub hl [0] rfl)
        · have h := sd_ifp c_15 h
          refine lv_iconst (v := (3 : Int32)) hx hb dX7_step_138 (by decide) ?_
          refine lv_goto (tgt := 143) hx hb dX7_step_139 (by decide) ?_
          exact t_X7_step_b143 C hk0 (3 : Int32) S_11 _ _ _ h X (lv_sub hl [0] rfl)
      · have h := sd_ifn c_13 h
        refine lv_aload_n hx hb dX7_step_116 rfl (lv_at hl 0 rfl) ?_
        obtain ⟨r_17, S_16, er_17, h⟩ := sd_cl_some h
        refine k_X7_takeNumber C X hl.1 hk0 er_17 sd_w12_6 (by decide) (Nat.le_of_ble_eq_true rfl) dX7_step_117 (fun H locs X => ?_)
        refine lv_goto (tgt := 156) hx hb dX7_step_120 (by decide) ?_
        cases h
        exact sd_vret C X dX7_step_156
    · have h := sd_ifn c_9 h
      refine lv_aload_n hx hb dX7_step_94 rfl (lv_at hl 0 rfl) ?_
      obtain ⟨r_19, S_18, er_19, h⟩ := sd_cl_some h
      refine k_X7_takeWord C X hl.1 hk0 er_19 sd_w11_22 (by decide) (Nat.le_of_ble_eq_true rfl) dX7_step_95 (fun H locs X => ?_)
      refine lv_goto (tgt := 156) hx hb dX7_step_98 (by decide) ?_
      cases h
      exact sd_vret C X dX7_step_156
  · have h := sd_ifn c_5 h
    refine lv_aload_n hx hb dX7_step_71 rfl (lv_at hl 0 rfl) ?_
    refine lv_iconst (v := (0 : Int32)) hx hb dX7_step_72 (by decide) ?_
    obtain ⟨S_20, eS_20, h⟩ := sd_nm_some h
    refine sd_p7_3 C X hk0 sd_w11_18 dX7_step_73 (fun H locs X => ?_)
    rw [← eS_20] at X
    refine lv_goto (tgt := 156) hx hb dX7_step_76 (by decide) ?_
    cases h
    exact sd_vret C X dX7_step_156
def f_X7_step_l0 (k0 : Nat) : Nat → sd_St → Option (Unit × sd_St)
  | 0 => fun _ => none
  | n + 1 => fun S => (if (S.1 k0 1) ≤ (S.1 k0 2) then f_X7_step_b52 k0 S else sd_ld S (k0 + 1) (S.1 k0 2) (fun v_22 => (if v_22 = (32 : Int32) then f_X7_step_b39 (f_X7_step_l0 k0 n) k0 S else sd_ld S (k0 + 1) (S.1 k0 2) (fun v_24 => (if v_24 = (10 : Int32) then f_X7_step_b39 (f_X7_step_l0 k0 n) k0 S else f_X7_step_b52 k0 S)))))
set_option maxHeartbeats 4000000 in
set_option maxRecDepth 100000 in
theorem t_X7_step_l0 (C : sd_C RX7 cX7_step 1 none D cy ad A b0 p s m args meth c) {k0 : Nat} (hk0 : sd_kd k0 = 7) {S' : sd_St} : ∀ (n : Nat) (S : sd_St) (H : Heap) (locs : List Loc) (ls : Array Slot), f_X7_step_l0 k0 n S = some ((), S') → sd_H D cy ad A s S H locs → lv_has ls 1 [(0, .ref (ad k0))] → W p l e (sd_rm 2) s m args below meth c H locs 0 0 (MQ below (sd_Qv D cy ad A S') args s 0 0 A) (F0 m 0 ls []) := by
  obtain ⟨hx, hb, -, hml, hown, hts, -, hG⟩ := id C
  intro n
  induction n with
  | zero => intro S H locs ls h; cases h
  | succ n ih =>
    intro S H locs ls h X hl
    unfold f_X7_step_l0 at h
    refine lv_aload_n hx hb dX7_step_0 rfl (lv_at hl 0 rfl) ?_
    refine sd_g7_2 C X hk0 sd_w11_12 dX7_step_1 ?_
    refine lv_aload_n hx hb dX7_step_4 rfl (lv_at hl 0 rfl) ?_
    refine sd_g7_1 C X hk0 sd_w9_18 dX7_step_5 ?_
    refine lv_icmp_ge (tgt := 52) hx hb dX7_step_8 (by decide) (fun c_21 => ?_) (fun c_21 => ?_)
    · have h := sd_ifp c_21 h
      exact t_X7_step_b52 C hk0 S _ _ _ h X (lv_sub hl [0] rfl)
    · have h := sd_ifn c_21 h
      refine lv_aload_n hx hb dX7_step_11 rfl (lv_at hl 0 rfl) ?_
      refine sd_g7_0 (k := k0) C X hk0 sd_w4_12 dX7_step_12 ?_
      refine lv_aload_n hx hb dX7_step_15 rfl (lv_at hl 0 rfl) ?_
      refine sd_g7_2 C X hk0 sd_w11_12 dX7_step_16 ?_
      obtain ⟨b_22, v_22, e_22, h⟩ := sd_ld_some h
      refine sd_bald C X (sd_k7_1 hk0) b_22 dX7_step_19 (sd_nmi e_22 ?_)
      refine lv_bipush (v := (32 : Int32)) hx hb dX7_step_20 (by decide) ?_
      refine lv_icmp_eq (tgt := 39) hx hb dX7_step_22 (by decide) (fun c_23 => ?_) (fun c_23 => ?_)
      · have h := sd_ifp c_23 h
        exact t_X7_step_b39 C hk0 ih S _ _ _ h X (lv_sub hl [0] rfl)
      · have h := sd_ifn c_23 h
        refine lv_aload_n hx hb dX7_step_25 rfl (lv_at hl 0 rfl) ?_
        refine sd_g7_0 (k := k0) C X hk0 sd_w4_12 dX7_step_26 ?_
        refine lv_aload_n hx hb dX7_step_29 rfl (lv_at hl 0 rfl) ?_
        refine sd_g7_2 C X hk0 sd_w11_12 dX7_step_30 ?_
        obtain ⟨b_24, v_24, e_24, h⟩ := sd_ld_some h
        refine sd_bald C X (sd_k7_1 hk0) b_24 dX7_step_33 (sd_nmi e_24 ?_)
        refine lv_bipush (v := (10 : Int32)) hx hb dX7_step_34 (by decide) ?_
        refine lv_icmp_ne (tgt := 52) hx hb dX7_step_36 (by decide) (fun c_25 => ?_) (fun c_25 => ?_)
        · have h := sd_ifn c_25 h
          exact t_X7_step_b52 C hk0 S _ _ _ h X (lv_sub hl [0] rfl)
        · have h := sd_ifp c_25 h
          exact t_X7_step_b39 C hk0 ih S _ _ _ h X (lv_sub hl [0] rfl)
def f_X7_step (k0 : Nat) (S : sd_St) : Option (Unit × sd_St) := f_X7_step_l0 k0 sd_FU S
set_option maxHeartbeats 4000000 in
set_option maxRecDepth 100000 in
theorem c_X7_step {k0 : Nat} (hk0 : sd_kd k0 = 7) {S S' : sd_St} (h : f_X7_step k0 S = some ((), S')) : Met l yX7_step (Cond.code yX7_step cX7_step 1 none :: sd_wl) (sd_rm 2) (sd_P D cy ad A b0 [.ref (ad k0)] S) (sd_Qv D cy ad A S') 0 0 A := by
  refine sd_met (by decide) (Nat.le_of_ble_eq_true rfl) (fun p e s m args below meth c ls C X hl => ?_)
  obtain ⟨hx, hb, -, hml, hown, hts, -, hG⟩ := id C
  replace C : sd_C RX7 cX7_step 1 none D cy ad A b0 p s m args meth c := C
  replace hl : lv_has ls 1 [(0, .ref (ad k0))] := hl
  unfold f_X7_step at h
  exact t_X7_step_l0 C hk0 sd_FU S _ _ _ h X (lv_sub hl [0] rfl)
theorem k_X7_step (C : sd_C own cc nL rt D cy ad A b0 p s m args meth c) (X : sd_H D cy ad A s S H locs) (hls : ls.size = nL) {k0 : Nat} {S2 : sd_St} (hk0 : sd_kd k0 = 7) (h : f_X7_step k0 S = some ((), S2)) (hlink : Cond.methodLink own index yX7_step ∈ sd_wl) (hR : 3 ≤ R.frames ∧ 100 ≤ R.locals ∧ cells ≤ R.cells ∧ slots ≤ R.slots) (hst : (rest.map fun v => v.category).sum ≤ 8) (hdg : decode cc pc = .ok (.invokevirtual index, 3)) (kk : ∀ (H1 : Heap) (locs1 : List Loc), sd_H D cy ad A s S2 H1 locs1 → W p l e R s m args below meth c H1 locs1 cells slots Q (F0 m (pc + 3) ls rest)) : W p l e R s m args below meth c H locs cells slots Q (F0 m pc ls (.ref (ad k0) :: rest)) :=
  sd_goV X (sd_runV C X hls (n := 0) (k := k0) (As := []) (c_X7_step (l := l) (b0 := b0) hk0 h) (sd_goodV hlink sd_w11_14 sd_w11_15 sd_w3_13 sd_w11_16) (ci := 7) rfl (by rw [hk0]; decide) (sd_c7 hk0) (by decide +kernel) rfl hR rfl hst hdg) kk
/-! ===== SecretDays$Tape.rewind()V ===== -/
def f_X7_rewind (k0 : Nat) (S : sd_St) : Option (Unit × sd_St) := sd_nm (sd_I S k0 2 (0 : Int32)) (fun S_1 => sd_cl (f_X7_step k0 S_1) (fun _ S_2 => (some ((), S_2))))
set_option maxHeartbeats 4000000 in
set_option maxRecDepth 100000 in
theorem c_X7_rewind {k0 : Nat} (hk0 : sd_kd k0 = 7) {S S' : sd_St} (h : f_X7_rewind k0 S = some ((), S')) : Met l yX7_rewind (Cond.code yX7_rewind cX7_rewind 1 none :: sd_wl) (sd_rm 3) (sd_P D cy ad A b0 [.ref (ad k0)] S) (sd_Qv D cy ad A S') 0 0 A := by
  refine sd_met (by decide) (Nat.le_of_ble_eq_true rfl) (fun p e s m args below meth c ls C X hl => ?_)
  obtain ⟨hx, hb, -, hml, hown, hts, -, hG⟩ := id C
  replace C : sd_C RX7 cX7_rewind 1 none D cy ad A b0 p s m args meth c := C
  replace hl : lv_has ls 1 [(0, .ref (ad k0))] := hl
  unfold f_X7_rewind at h
  refine lv_aload_n hx hb dX7_rewind_0 rfl (lv_at hl 0 rfl) ?_
  refine lv_iconst (v := (0 : Int32)) hx hb dX7_rewind_1 (by decide) ?_
  obtain ⟨S_1, eS_1, h⟩ := sd_nm_some h
  refine sd_p7_2 C X hk0 sd_w11_12 dX7_rewind_2 (fun H locs X => ?_)
  rw [← eS_1] at X
  refine lv_aload_n hx hb dX7_rewind_5 rfl (lv_at hl 0 rfl) ?_
  obtain ⟨r_3, S_2, er_3, h⟩ := sd_cl_some h
  refine k_X7_step C X hl.1 hk0 er_3 sd_w11_13 (by decide) (Nat.le_of_ble_eq_true rfl) dX7_rewind_6 (fun H locs X => ?_)
  cases h
  exact sd_vret C X dX7_rewind_9
theorem k_X7_rewind (C : sd_C own cc nL rt D cy ad A b0 p s m args meth c) (X : sd_H D cy ad A s S H locs) (hls : ls.size = nL) {k0 : Nat} {S2 : sd_St} (hk0 : sd_kd k0 = 7) (h : f_X7_rewind k0 S = some ((), S2)) (hlink : Cond.methodLink own index yX7_rewind ∈ sd_wl) (hR : 4 ≤ R.frames ∧ 140 ≤ R.locals ∧ cells ≤ R.cells ∧ slots ≤ R.slots) (hst : (rest.map fun v => v.category).sum ≤ 8) (hdg : decode cc pc = .ok (.invokevirtual index, 3)) (kk : ∀ (H1 : Heap) (locs1 : List Loc), sd_H D cy ad A s S2 H1 locs1 → W p l e R s m args below meth c H1 locs1 cells slots Q (F0 m (pc + 3) ls rest)) : W p l e R s m args below meth c H locs cells slots Q (F0 m pc ls (.ref (ad k0) :: rest)) :=
  sd_goV X (sd_runV C X hls (n := 0) (k := k0) (As := []) (c_X7_rewind (l := l) (b0 := b0) hk0 h) (sd_goodV hlink sd_w11_9 sd_w11_10 sd_w3_13 sd_w11_11) (ci := 7) rfl (by rw [hk0]; decide) (sd_c7 hk0) (by decide +kernel) rfl hR rfl hst hdg) kk
/-! ===== SecretDays$Tape.isAt(J)Z ===== -/
def f_X7_isAt (k0 : Nat) (x1 : Int64) (S : sd_St) : Option (Int32 × sd_St) := (if (S.1 k0 3) = (1 : Int32) then (if (lg_cmp (S.2 k0 5) x1) = 0 then (some ((1 : Int32), S)) else (some ((0 : Int32), S))) else (some ((0 : Int32), S)))
set_option maxHeartbeats 4000000 in
set_option maxRecDepth 100000 in
theorem c_X7_isAt {k0 : Nat} {x1 : Int64} (hk0 : sd_kd k0 = 7) {S S' : sd_St} {r : Int32} (h : f_X7_isAt k0 x1 S = some (r, S')) : Met l yX7_isAt (Cond.code yX7_isAt cX7_isAt 3 (some .boolean) :: sd_wl) (sd_rm 0) (sd_P D cy ad A b0 [.ref (ad k0), .long x1] S) (sd_Qi D cy ad A r S') 0 0 A := by
  refine sd_met (by decide) (Nat.le_of_ble_eq_true rfl) (fun p e s m args below meth c ls C X hl => ?_)
  obtain ⟨hx, hb, -, hml, hown, hts, -, hG⟩ := id C
  replace C : sd_C RX7 cX7_isAt 3 (some .boolean) D cy ad A b0 p s m args meth c := C
  replace hl : lv_has ls 3 [(0, .ref (ad k0)), (1, .long x1)] := hl
  unfold f_X7_isAt at h
  refine lv_aload_n hx hb dX7_isAt_0 rfl (lv_at hl 0 rfl) ?_
  refine sd_g7_3 C X hk0 sd_w11_18 dX7_isAt_1 ?_
  refine lv_iconst (v := (1 : Int32)) hx hb dX7_isAt_4 (by decide) ?_
  refine lv_icmp_ne (tgt := 21) hx hb dX7_isAt_5 (by decide) (fun c_1 => ?_) (fun c_1 => ?_)
  · have h := sd_ifn c_1 h
    refine lv_iconst (v := (0 : Int32)) hx hb dX7_isAt_21 (by decide) ?_
    cases h
    exact sd_zret C X (by decide) dX7_isAt_22
  · have h := sd_ifp c_1 h
    refine lv_aload_n hx hb dX7_isAt_8 rfl (lv_at hl 0 rfl) ?_
    refine sd_g7_5 C X hk0 sd_w12_2 dX7_isAt_9 ?_
    refine lv_lload_n hx hb dX7_isAt_12 rfl (lv_at hl 1 rfl) ?_
    refine W.lcmp hx hb dX7_isAt_13 ?_
    refine lv_if_ne (tgt := 21) hx hb dX7_isAt_14 (by decide) (fun c_2 => ?_) (fun c_2 => ?_)
    · have h := sd_ifn c_2 h
      refine lv_iconst (v := (0 : Int32)) hx hb dX7_isAt_21 (by decide) ?_
      cases h
      exact sd_zret C X (by decide) dX7_isAt_22
    · have h := sd_ifp c_2 h
      refine lv_iconst (v := (1 : Int32)) hx hb dX7_isAt_17 (by decide) ?_
      refine lv_goto (tgt := 22) hx hb dX7_isAt_18 (by decide) ?_
      cases h
      exact sd_zret C X (by decide) dX7_isAt_22
theorem k_X7_isAt (C : sd_C own cc nL rt D cy ad A b0 p s m args meth c) (X : sd_H D cy ad A s S H locs) (hls : ls.size = nL) {k0 : Nat} {x1 : Int64} {S2 : sd_St} {r : Int32} (hk0 : sd_kd k0 = 7) (h : f_X7_isAt k0 x1 S = some (r, S2)) (hlink : Cond.methodLink own index yX7_isAt ∈ sd_wl) (hR : 1 ≤ R.frames ∧ 22 ≤ R.locals ∧ cells ≤ R.cells ∧ slots ≤ R.slots) (hst : (rest.map fun v => v.category).sum ≤ 8) (hdg : decode cc pc = .ok (.invokevirtual index, 3)) (kk : ∀ (H1 : Heap) (locs1 : List Loc), sd_H D cy ad A s S2 H1 locs1 → W p l e R s m args below meth c H1 locs1 cells slots Q (F0 m (pc + 3) ls (.int r :: rest))) : W p l e R s m args below meth c H locs cells slots Q (F0 m pc ls (.long x1 :: .ref (ad k0) :: rest)) :=
  sd_goI X (sd_runV C X hls (n := 1) (k := k0) (As := [.long x1]) (c_X7_isAt (l := l) (b0 := b0) hk0 h) (sd_goodV hlink sd_w12_12 sd_w12_13 sd_w3_13 sd_w12_14) (ci := 7) rfl (by rw [hk0]; decide) (sd_c7 hk0) (by decide +kernel) rfl hR rfl hst hdg) kk
/-! ===== SecretDays$Town.empty()V ===== -/
def f_X8_empty (k0 : Nat) (S : sd_St) : Option (Unit × sd_St) := sd_nm (sd_I S k0 0 (0 : Int32)) (fun S_1 => sd_nm (sd_I S_1 k0 6 (0 : Int32)) (fun S_2 => sd_nm (sd_I S_2 k0 7 (0 : Int32)) (fun S_3 => sd_nm (sd_I S_3 k0 11 (0 : Int32)) (fun S_4 => sd_nm (sd_I S_4 k0 14 (0 : Int32)) (fun S_5 => sd_nm (sd_I S_5 k0 15 (0 : Int32)) (fun S_6 => (some ((), S_6))))))))
set_option maxHeartbeats 4000000 in
set_option maxRecDepth 100000 in
theorem c_X8_empty {k0 : Nat} (hk0 : sd_kd k0 = 8) {S S' : sd_St} (h : f_X8_empty k0 S = some ((), S')) : Met l yX8_empty (Cond.code yX8_empty cX8_empty 1 none :: sd_wl) (sd_rm 0) (sd_P D cy ad A b0 [.ref (ad k0)] S) (sd_Qv D cy ad A S') 0 0 A := by
  refine sd_met (by decide) (Nat.le_of_ble_eq_true rfl) (fun p e s m args below meth c ls C X hl => ?_)
  obtain ⟨hx, hb, -, hml, hown, hts, -, hG⟩ := id C
  replace C : sd_C RX8 cX8_empty 1 none D cy ad A b0 p s m args meth c := C
  replace hl : lv_has ls 1 [(0, .ref (ad k0))] := hl
  unfold f_X8_empty at h
  refine lv_aload_n hx hb dX8_empty_0 rfl (lv_at hl 0 rfl) ?_
  refine lv_iconst (v := (0 : Int32)) hx hb dX8_empty_1 (by decide) ?_
  obtain ⟨S_1, eS_1, h⟩ := sd_nm_some h
  refine sd_p8_0 C X hk0 sd_w11_2 dX8_empty_2 (fun H locs X => ?_)
  rw [← eS_1] at X
  refine lv_aload_n hx hb dX8_empty_5 rfl (lv_at hl 0 rfl) ?_
  refine lv_iconst (v := (0 : Int32)) hx hb dX8_empty_6 (by decide) ?_
  obtain ⟨S_2, eS_2, h⟩ := sd_nm_some h
  refine sd_p8_6 C X hk0 sd_w11_3 dX8_empty_7 (fun H locs X => ?_)
  rw [← eS_2] at X
  refine lv_aload_n hx hb dX8_empty_10 rfl (lv_at hl 0 rfl) ?_
  refine lv_iconst (v := (0 : Int32)) hx hb dX8_empty_11 (by decide) ?_
  obtain ⟨S_3, eS_3, h⟩ := sd_nm_some h
  refine sd_p8_7 C X hk0 sd_w11_4 dX8_empty_12 (fun H locs X => ?_)
  rw [← eS_3] at X
  refine lv_aload_n hx hb dX8_empty_15 rfl (lv_at hl 0 rfl) ?_
  refine lv_iconst (v := (0 : Int32)) hx hb dX8_empty_16 (by decide) ?_
  obtain ⟨S_4, eS_4, h⟩ := sd_nm_some h
  refine sd_p8_11 C X hk0 sd_w11_5 dX8_empty_17 (fun H locs X => ?_)
  rw [← eS_4] at X
  refine lv_aload_n hx hb dX8_empty_20 rfl (lv_at hl 0 rfl) ?_
  refine lv_iconst (v := (0 : Int32)) hx hb dX8_empty_21 (by decide) ?_
  obtain ⟨S_5, eS_5, h⟩ := sd_nm_some h
  refine sd_p8_14 C X hk0 sd_w11_6 dX8_empty_22 (fun H locs X => ?_)
  rw [← eS_5] at X
  refine lv_aload_n hx hb dX8_empty_25 rfl (lv_at hl 0 rfl) ?_
  refine lv_iconst (v := (0 : Int32)) hx hb dX8_empty_26 (by decide) ?_
  obtain ⟨S_6, eS_6, h⟩ := sd_nm_some h
  refine sd_p8_15 C X (by decide) hk0 sd_w11_7 dX8_empty_27 (fun H locs X => ?_)
  rw [← eS_6] at X
  cases h
  exact sd_vret C X dX8_empty_30
theorem k_X8_empty (C : sd_C own cc nL rt D cy ad A b0 p s m args meth c) (X : sd_H D cy ad A s S H locs) (hls : ls.size = nL) {k0 : Nat} {S2 : sd_St} (hk0 : sd_kd k0 = 8) (h : f_X8_empty k0 S = some ((), S2)) (hlink : Cond.methodLink own index yX8_empty ∈ sd_wl) (hR : 1 ≤ R.frames ∧ 20 ≤ R.locals ∧ cells ≤ R.cells ∧ slots ≤ R.slots) (hst : (rest.map fun v => v.category).sum ≤ 8) (hdg : decode cc pc = .ok (.invokevirtual index, 3)) (kk : ∀ (H1 : Heap) (locs1 : List Loc), sd_H D cy ad A s S2 H1 locs1 → W p l e R s m args below meth c H1 locs1 cells slots Q (F0 m (pc + 3) ls rest)) : W p l e R s m args below meth c H locs cells slots Q (F0 m pc ls (.ref (ad k0) :: rest)) :=
  sd_goV X (sd_runV C X hls (n := 0) (k := k0) (As := []) (c_X8_empty (l := l) (b0 := b0) hk0 h) (sd_goodV hlink sd_w10_23 sd_w11_0 sd_w1_19 sd_w11_1) (ci := 8) rfl (by rw [hk0]; decide) (sd_c8 hk0) (by decide +kernel) rfl hR rfl hst hdg) kk
/-! ===== SecretDays$Town.copyFrom(LSecretDays$Town;)V ===== -/
def f_X8_copyFrom (k0 : Nat) (k1 : Nat) (S : sd_St) : Option (Unit × sd_St) := sd_nm (sd_I S k0 0 (S.1 k1 0)) (fun S_1 => sd_cp S_1 (k1 + 1) (0 : Int32) (k0 + 1) (0 : Int32) (12 : Int32) (fun S_2 => sd_cp S_2 (k1 + 2) (0 : Int32) (k0 + 2) (0 : Int32) (12 : Int32) (fun S_3 => sd_cp S_3 (k1 + 3) (0 : Int32) (k0 + 3) (0 : Int32) (12 : Int32) (fun S_4 => sd_cp S_4 (k1 + 4) (0 : Int32) (k0 + 4) (0 : Int32) (12 : Int32) (fun S_5 => sd_cp S_5 (k1 + 5) (0 : Int32) (k0 + 5) (0 : Int32) (12 : Int32) (fun S_6 => sd_nm (sd_I S_6 k0 6 (S_6.1 k1 6)) (fun S_7 => sd_nm (sd_I S_7 k0 7 (S_7.1 k1 7)) (fun S_8 => sd_cp S_8 (k1 + 6) (0 : Int32) (k0 + 6) (0 : Int32) (12 : Int32) (fun S_9 => sd_cp S_9 (k1 + 7) (0 : Int32) (k0 + 7) (0 : Int32) (12 : Int32) (fun S_10 => sd_cp S_10 (k1 + 8) (0 : Int32) (k0 + 8) (0 : Int32) (12 : Int32) (fun S_11 => sd_nm (sd_I S_11 k0 11 (S_11.1 k1 11)) (fun S_12 => sd_cp S_12 (k1 + 9) (0 : Int32) (k0 + 9) (0 : Int32) (4 : Int32) (fun S_13 => sd_cp S_13 (k1 + 10) (0 : Int32) (k0 + 10) (0 : Int32) (4 : Int32) (fun S_14 => sd_nm (sd_I S_14 k0 14 (S_14.1 k1 14)) (fun S_15 => sd_ckz (S_15.1 k1 15) (sd_nm (sd_I S_15 k0 15 (S_15.1 k1 15)) (fun S_17 => (some ((), S_17)))))))))))))))))))
set_option maxHeartbeats 4000000 in
set_option maxRecDepth 100000 in
theorem c_X8_copyFrom {k0 : Nat} {k1 : Nat} (hk0 : sd_kd k0 = 8) (hk1 : sd_kd k1 = 8) {S S' : sd_St} (h : f_X8_copyFrom k0 k1 S = some ((), S')) : Met l yX8_copyFrom (Cond.code yX8_copyFrom cX8_copyFrom 2 none :: sd_wl) (sd_rm 1) (sd_P D cy ad A b0 [.ref (ad k0), .ref (ad k1)] S) (sd_Qv D cy ad A S') 0 0 A := by
  refine sd_met (by decide) (Nat.le_of_ble_eq_true rfl) (fun p e s m args below meth c ls C X hl => ?_)
  obtain ⟨hx, hb, -, hml, hown, hts, -, hG⟩ := id C
  replace C : sd_C RX8 cX8_copyFrom 2 none D cy ad A b0 p s m args meth c := C
  replace hl : lv_has ls 2 [(0, .ref (ad k0)), (1, .ref (ad k1))] := hl
  unfold f_X8_copyFrom at h
  refine lv_aload_n hx hb dX8_copyFrom_0 rfl (lv_at hl 0 rfl) ?_
  refine lv_aload_n hx hb dX8_copyFrom_1 rfl (lv_at hl 1 rfl) ?_
  refine sd_g8_0 C X hk1 sd_w11_2 dX8_copyFrom_2 ?_
  obtain ⟨S_1, eS_1, h⟩ := sd_nm_some h
  refine sd_p8_0 C X hk0 sd_w11_2 dX8_copyFrom_5 (fun H locs X => ?_)
  rw [← eS_1] at X
  refine lv_aload_n hx hb dX8_copyFrom_8 rfl (lv_at hl 1 rfl) ?_
  refine sd_g8_1 (k := k1) C X hk1 sd_w3_22 dX8_copyFrom_9 ?_
  refine lv_iconst (v := (0 : Int32)) hx hb dX8_copyFrom_12 (by decide) ?_
  refine lv_aload_n hx hb dX8_copyFrom_13 rfl (lv_at hl 0 rfl) ?_
  refine sd_g8_1 (k := k0) C X hk0 sd_w3_22 dX8_copyFrom_14 ?_
  refine lv_iconst (v := (0 : Int32)) hx hb dX8_copyFrom_17 (by decide) ?_
  refine lv_bipush (v := (12 : Int32)) hx hb dX8_copyFrom_18 (by decide) ?_
  obtain ⟨bS_2, S_2, eS_2, h⟩ := sd_cp_some h
  refine sd_copy C X hl.1 (sd_k8_1 hk1) (sd_k8_1 hk0) sd_w17_17 bS_2.1 bS_2.2.1 bS_2.2.2.1 bS_2.2.2.2.1 bS_2.2.2.2.2 (by decide) (Nat.le_of_ble_eq_true rfl) dX8_copyFrom_20 (fun H locs X => ?_)
  rw [← eS_2] at X
  refine lv_aload_n hx hb dX8_copyFrom_23 rfl (lv_at hl 1 rfl) ?_
  refine sd_g8_2 (k := k1) C X hk1 sd_w3_23 dX8_copyFrom_24 ?_
  refine lv_iconst (v := (0 : Int32)) hx hb dX8_copyFrom_27 (by decide) ?_
  refine lv_aload_n hx hb dX8_copyFrom_28 rfl (lv_at hl 0 rfl) ?_
  refine sd_g8_2 (k := k0) C X hk0 sd_w3_23 dX8_copyFrom_29 ?_
  refine lv_iconst (v := (0 : Int32)) hx hb dX8_copyFrom_32 (by decide) ?_
  refine lv_bipush (v := (12 : Int32)) hx hb dX8_copyFrom_33 (by decide) ?_
  obtain ⟨bS_3, S_3, eS_3, h⟩ := sd_cp_some h
  refine sd_copy C X hl.1 (sd_k8_2 hk1) (sd_k8_2 hk0) sd_w17_17 bS_3.1 bS_3.2.1 bS_3.2.2.1 bS_3.2.2.2.1 bS_3.2.2.2.2 (by decide) (Nat.le_of_ble_eq_true rfl) dX8_copyFrom_35 (fun H locs X => ?_)
  rw [← eS_3] at X
  refine lv_aload_n hx hb dX8_copyFrom_38 rfl (lv_at hl 1 rfl) ?_
  refine sd_g8_3 (k := k1) C X hk1 sd_w4_0 dX8_copyFrom_39 ?_
  refine lv_iconst (v := (0 : Int32)) hx hb dX8_copyFrom_42 (by decide) ?_
  refine lv_aload_n hx hb dX8_copyFrom_43 rfl (lv_at hl 0 rfl) ?_
  refine sd_g8_3 (k := k0) C X hk0 sd_w4_0 dX8_copyFrom_44 ?_
  refine lv_iconst (v := (0 : Int32)) hx hb dX8_copyFrom_47 (by decide) ?_
  refine lv_bipush (v := (12 : Int32)) hx hb dX8_copyFrom_48 (by decide) ?_
  obtain ⟨bS_4, S_4, eS_4, h⟩ := sd_cp_some h
  refine sd_copy C X hl.1 (sd_k8_3 hk1) (sd_k8_3 hk0) sd_w17_17 bS_4.1 bS_4.2.1 bS_4.2.2.1 bS_4.2.2.2.1 bS_4.2.2.2.2 (by decide) (Nat.le_of_ble_eq_true rfl) dX8_copyFrom_50 (fun H locs X => ?_)
  rw [← eS_4] at X
  refine lv_aload_n hx hb dX8_copyFrom_53 rfl (lv_at hl 1 rfl) ?_
  refine sd_g8_4 (k := k1) C X hk1 sd_w4_1 dX8_copyFrom_54 ?_
  refine lv_iconst (v := (0 : Int32)) hx hb dX8_copyFrom_57 (by decide) ?_
  refine lv_aload_n hx hb dX8_copyFrom_58 rfl (lv_at hl 0 rfl) ?_
  refine sd_g8_4 (k := k0) C X hk0 sd_w4_1 dX8_copyFrom_59 ?_
  refine lv_iconst (v := (0 : Int32)) hx hb dX8_copyFrom_62 (by decide) ?_
  refine lv_bipush (v := (12 : Int32)) hx hb dX8_copyFrom_63 (by decide) ?_
  obtain ⟨bS_5, S_5, eS_5, h⟩ := sd_cp_some h
  refine sd_copy C X hl.1 (sd_k8_4 hk1) (sd_k8_4 hk0) sd_w17_17 bS_5.1 bS_5.2.1 bS_5.2.2.1 bS_5.2.2.2.1 bS_5.2.2.2.2 (by decide) (Nat.le_of_ble_eq_true rfl) dX8_copyFrom_65 (fun H locs X => ?_)
  rw [← eS_5] at X
  refine lv_aload_n hx hb dX8_copyFrom_68 rfl (lv_at hl 1 rfl) ?_
  refine sd_g8_5 (k := k1) C X hk1 sd_w4_2 dX8_copyFrom_69 ?_
  refine lv_iconst (v := (0 : Int32)) hx hb dX8_copyFrom_72 (by decide) ?_
  refine lv_aload_n hx hb dX8_copyFrom_73 rfl (lv_at hl 0 rfl) ?_
  refine sd_g8_5 (k := k0) C X hk0 sd_w4_2 dX8_copyFrom_74 ?_
  refine lv_iconst (v := (0 : Int32)) hx hb dX8_copyFrom_77 (by decide) ?_
  refine lv_bipush (v := (12 : Int32)) hx hb dX8_copyFrom_78 (by decide) ?_
  obtain ⟨bS_6, S_6, eS_6, h⟩ := sd_cp_some h
  refine sd_copy C X hl.1 (sd_k8_5 hk1) (sd_k8_5 hk0) sd_w17_17 bS_6.1 bS_6.2.1 bS_6.2.2.1 bS_6.2.2.2.1 bS_6.2.2.2.2 (by decide) (Nat.le_of_ble_eq_true rfl) dX8_copyFrom_80 (fun H locs X => ?_)
  rw [← eS_6] at X
  refine lv_aload_n hx hb dX8_copyFrom_83 rfl (lv_at hl 0 rfl) ?_
  refine lv_aload_n hx hb dX8_copyFrom_84 rfl (lv_at hl 1 rfl) ?_
  refine sd_g8_6 C X hk1 sd_w11_3 dX8_copyFrom_85 ?_
  obtain ⟨S_7, eS_7, h⟩ := sd_nm_some h
  refine sd_p8_6 C X hk0 sd_w11_3 dX8_copyFrom_88 (fun H locs X => ?_)
  rw [← eS_7] at X
  refine lv_aload_n hx hb dX8_copyFrom_91 rfl (lv_at hl 0 rfl) ?_
  refine lv_aload_n hx hb dX8_copyFrom_92 rfl (lv_at hl 1 rfl) ?_
  refine sd_g8_7 C X hk1 sd_w11_4 dX8_copyFrom_93 ?_
  obtain ⟨S_8, eS_8, h⟩ := sd_nm_some h
  refine sd_p8_7 C X hk0 sd_w11_4 dX8_copyFrom_96 (fun H locs X => ?_)
  rw [← eS_8] at X
  refine lv_aload_n hx hb dX8_copyFrom_99 rfl (lv_at hl 1 rfl) ?_
  refine sd_g8_8 (k := k1) C X hk1 sd_w4_3 dX8_copyFrom_100 ?_
  refine lv_iconst (v := (0 : Int32)) hx hb dX8_copyFrom_103 (by decide) ?_
  refine lv_aload_n hx hb dX8_copyFrom_104 rfl (lv_at hl 0 rfl) ?_
  refine sd_g8_8 (k := k0) C X hk0 sd_w4_3 dX8_copyFrom_105 ?_
  refine lv_iconst (v := (0 : Int32)) hx hb dX8_copyFrom_108 (by decide) ?_
  refine lv_bipush (v := (12 : Int32)) hx hb dX8_copyFrom_109 (by decide) ?_
  obtain ⟨bS_9, S_9, eS_9, h⟩ := sd_cp_some h
  refine sd_copy C X hl.1 (sd_k8_6 hk1) (sd_k8_6 hk0) sd_w17_17 bS_9.1 bS_9.2.1 bS_9.2.2.1 bS_9.2.2.2.1 bS_9.2.2.2.2 (by decide) (Nat.le_of_ble_eq_true rfl) dX8_copyFrom_111 (fun H locs X => ?_)
  rw [← eS_9] at X
  refine lv_aload_n hx hb dX8_copyFrom_114 rfl (lv_at hl 1 rfl) ?_
  refine sd_g8_9 (k := k1) C X hk1 sd_w4_4 dX8_copyFrom_115 ?_
  refine lv_iconst (v := (0 : Int32)) hx hb dX8_copyFrom_118 (by decide) ?_
  refine lv_aload_n hx hb dX8_copyFrom_119 rfl (lv_at hl 0 rfl) ?_
  refine sd_g8_9 (k := k0) C X hk0 sd_w4_4 dX8_copyFrom_120 ?_
  refine lv_iconst (v := (0 : Int32)) hx hb dX8_copyFrom_123 (by decide) ?_
  refine lv_bipush (v := (12 : Int32)) hx hb dX8_copyFrom_124 (by decide) ?_
  obtain ⟨bS_10, S_10, eS_10, h⟩ := sd_cp_some h
  refine sd_copy C X hl.1 (sd_k8_7 hk1) (sd_k8_7 hk0) sd_w17_17 bS_10.1 bS_10.2.1 bS_10.2.2.1 bS_10.2.2.2.1 bS_10.2.2.2.2 (by decide) (Nat.le_of_ble_eq_true rfl) dX8_copyFrom_126 (fun H locs X => ?_)
  rw [← eS_10] at X
  refine lv_aload_n hx hb dX8_copyFrom_129 rfl (lv_at hl 1 rfl) ?_
  refine sd_g8_10 (k := k1) C X hk1 sd_w4_5 dX8_copyFrom_130 ?_
  refine lv_iconst (v := (0 : Int32)) hx hb dX8_copyFrom_133 (by decide) ?_
  refine lv_aload_n hx hb dX8_copyFrom_134 rfl (lv_at hl 0 rfl) ?_
  refine sd_g8_10 (k := k0) C X hk0 sd_w4_5 dX8_copyFrom_135 ?_
  refine lv_iconst (v := (0 : Int32)) hx hb dX8_copyFrom_138 (by decide) ?_
  refine lv_bipush (v := (12 : Int32)) hx hb dX8_copyFrom_139 (by decide) ?_
  obtain ⟨bS_11, S_11, eS_11, h⟩ := sd_cp_some h
  refine sd_copy C X hl.1 (sd_k8_8 hk1) (sd_k8_8 hk0) sd_w17_17 bS_11.1 bS_11.2.1 bS_11.2.2.1 bS_11.2.2.2.1 bS_11.2.2.2.2 (by decide) (Nat.le_of_ble_eq_true rfl) dX8_copyFrom_141 (fun H locs X => ?_)
  rw [← eS_11] at X
  refine lv_aload_n hx hb dX8_copyFrom_144 rfl (lv_at hl 0 rfl) ?_
  refine lv_aload_n hx hb dX8_copyFrom_145 rfl (lv_at hl 1 rfl) ?_
  refine sd_g8_11 C X hk1 sd_w11_5 dX8_copyFrom_146 ?_
  obtain ⟨S_12, eS_12, h⟩ := sd_nm_some h
  refine sd_p8_11 C X hk0 sd_w11_5 dX8_copyFrom_149 (fun H locs X => ?_)
  rw [← eS_12] at X
  refine lv_aload_n hx hb dX8_copyFrom_152 rfl (lv_at hl 1 rfl) ?_
  refine sd_g8_12 (k := k1) C X hk1 sd_w4_6 dX8_copyFrom_153 ?_
  refine lv_iconst (v := (0 : Int32)) hx hb dX8_copyFrom_156 (by decide) ?_
  refine lv_aload_n hx hb dX8_copyFrom_157 rfl (lv_at hl 0 rfl) ?_
  refine sd_g8_12 (k := k0) C X hk0 sd_w4_6 dX8_copyFrom_158 ?_
  refine lv_iconst (v := (0 : Int32)) hx hb dX8_copyFrom_161 (by decide) ?_
  refine lv_iconst (v := (4 : Int32)) hx hb dX8_copyFrom_162 (by decide) ?_
  obtain ⟨bS_13, S_13, eS_13, h⟩ := sd_cp_some h
  refine sd_copy C X hl.1 (sd_k8_9 hk1) (sd_k8_9 hk0) sd_w17_17 bS_13.1 bS_13.2.1 bS_13.2.2.1 bS_13.2.2.2.1 bS_13.2.2.2.2 (by decide) (Nat.le_of_ble_eq_true rfl) dX8_copyFrom_163 (fun H locs X => ?_)
  rw [← eS_13] at X
  refine lv_aload_n hx hb dX8_copyFrom_166 rfl (lv_at hl 1 rfl) ?_
  refine sd_g8_13 (k := k1) C X hk1 sd_w4_7 dX8_copyFrom_167 ?_
  refine lv_iconst (v := (0 : Int32)) hx hb dX8_copyFrom_170 (by decide) ?_
  refine lv_aload_n hx hb dX8_copyFrom_171 rfl (lv_at hl 0 rfl) ?_
  refine sd_g8_13 (k := k0) C X hk0 sd_w4_7 dX8_copyFrom_172 ?_
  refine lv_iconst (v := (0 : Int32)) hx hb dX8_copyFrom_175 (by decide) ?_
  refine lv_iconst (v := (4 : Int32)) hx hb dX8_copyFrom_176 (by decide) ?_
  obtain ⟨bS_14, S_14, eS_14, h⟩ := sd_cp_some h
  refine sd_copy C X hl.1 (sd_k8_10 hk1) (sd_k8_10 hk0) sd_w17_17 bS_14.1 bS_14.2.1 bS_14.2.2.1 bS_14.2.2.2.1 bS_14.2.2.2.2 (by decide) (Nat.le_of_ble_eq_true rfl) dX8_copyFrom_177 (fun H locs X => ?_)
  rw [← eS_14] at X
  refine lv_aload_n hx hb dX8_copyFrom_180 rfl (lv_at hl 0 rfl) ?_
  refine lv_aload_n hx hb dX8_copyFrom_181 rfl (lv_at hl 1 rfl) ?_
  refine sd_g8_14 C X hk1 sd_w11_6 dX8_copyFrom_182 ?_
  obtain ⟨S_15, eS_15, h⟩ := sd_nm_some h
  refine sd_p8_14 C X hk0 sd_w11_6 dX8_copyFrom_185 (fun H locs X => ?_)
  rw [← eS_15] at X
  refine lv_aload_n hx hb dX8_copyFrom_188 rfl (lv_at hl 0 rfl) ?_
  refine lv_aload_n hx hb dX8_copyFrom_189 rfl (lv_at hl 1 rfl) ?_
  refine sd_g8_15 C X hk1 sd_w11_7 dX8_copyFrom_190 ?_
  obtain ⟨z_16, h⟩ := sd_ckz_some h
  obtain ⟨S_17, eS_17, h⟩ := sd_nm_some h
  refine sd_p8_15 C X z_16 hk0 sd_w11_7 dX8_copyFrom_193 (fun H locs X => ?_)
  rw [← eS_17] at X
  cases h
  exact sd_vret C X dX8_copyFrom_196
theorem k_X8_copyFrom (C : sd_C own cc nL rt D cy ad A b0 p s m args meth c) (X : sd_H D cy ad A s S H locs) (hls : ls.size = nL) {k0 : Nat} {k1 : Nat} {S2 : sd_St} (hk0 : sd_kd k0 = 8) (hk1 : sd_kd k1 = 8) (h : f_X8_copyFrom k0 k1 S = some ((), S2)) (hlink : Cond.methodLink own index yX8_copyFrom ∈ sd_wl) (hR : 2 ≤ R.frames ∧ 61 ≤ R.locals ∧ cells ≤ R.cells ∧ slots ≤ R.slots) (hst : (rest.map fun v => v.category).sum ≤ 8) (hdg : decode cc pc = .ok (.invokevirtual index, 3)) (kk : ∀ (H1 : Heap) (locs1 : List Loc), sd_H D cy ad A s S2 H1 locs1 → W p l e R s m args below meth c H1 locs1 cells slots Q (F0 m (pc + 3) ls rest)) : W p l e R s m args below meth c H locs cells slots Q (F0 m pc ls (.ref (ad k1) :: .ref (ad k0) :: rest)) :=
  sd_goV X (sd_runV C X hls (n := 1) (k := k0) (As := [.ref (ad k1)]) (c_X8_copyFrom (l := l) (b0 := b0) hk0 hk1 h) (sd_goodV hlink sd_w17_14 sd_w17_15 sd_w1_19 sd_w17_16) (ci := 8) rfl (by rw [hk0]; decide) (sd_c8 hk0) (by decide +kernel) rfl hR rfl hst hdg) kk
/-! ===== SecretDays$Town.addPerson(I)V ===== -/
def f_X8_addPerson (k0 : Nat) (x1 : Int32) (S : sd_St) : Option (Unit × sd_St) := (if (12 : Int32) ≤ (S.1 k0 0) then (some ((), S)) else sd_st S (k0 + 1) (S.1 k0 0) x1 (fun S_2 => sd_st S_2 (k0 + 2) (S_2.1 k0 0) (-1 : Int32) (fun S_3 => sd_st S_3 (k0 + 3) (S_3.1 k0 0) (0 : Int32) (fun S_4 => sd_st S_4 (k0 + 4) (S_4.1 k0 0) (0 : Int32) (fun S_5 => sd_st S_5 (k0 + 5) (S_5.1 k0 0) (0 : Int32) (fun S_6 => sd_nm (sd_I S_6 k0 0 ((S_6.1 k0 0) + (1 : Int32))) (fun S_7 => (some ((), S_7)))))))))
set_option maxHeartbeats 4000000 in
set_option maxRecDepth 100000 in
theorem c_X8_addPerson {k0 : Nat} {x1 : Int32} (hk0 : sd_kd k0 = 8) {S S' : sd_St} (h : f_X8_addPerson k0 x1 S = some ((), S')) : Met l yX8_addPerson (Cond.code yX8_addPerson cX8_addPerson 2 none :: sd_wl) (sd_rm 0) (sd_P D cy ad A b0 [.ref (ad k0), .int x1] S) (sd_Qv D cy ad A S') 0 0 A := by
  refine sd_met (by decide) (Nat.le_of_ble_eq_true rfl) (fun p e s m args below meth c ls C X hl => ?_)
  obtain ⟨hx, hb, -, hml, hown, hts, -, hG⟩ := id C
  replace C : sd_C RX8 cX8_addPerson 2 none D cy ad A b0 p s m args meth c := C
  replace hl : lv_has ls 2 [(0, .ref (ad k0)), (1, .int x1)] := hl
  unfold f_X8_addPerson at h
  refine lv_aload_n hx hb dX8_addPerson_0 rfl (lv_at hl 0 rfl) ?_
  refine sd_g8_0 C X hk0 sd_w11_2 dX8_addPerson_1 ?_
  refine lv_bipush (v := (12 : Int32)) hx hb dX8_addPerson_4 (by decide) ?_
  refine lv_icmp_ge (tgt := 69) hx hb dX8_addPerson_6 (by decide) (fun c_1 => ?_) (fun c_1 => ?_)
  · have h := sd_ifp c_1 h
    cases h
    exact sd_vret C X dX8_addPerson_69
  · have h := sd_ifn c_1 h
    refine lv_aload_n hx hb dX8_addPerson_9 rfl (lv_at hl 0 rfl) ?_
    refine sd_g8_1 (k := k0) C X hk0 sd_w3_22 dX8_addPerson_10 ?_
    refine lv_aload_n hx hb dX8_addPerson_13 rfl (lv_at hl 0 rfl) ?_
    refine sd_g8_0 C X hk0 sd_w11_2 dX8_addPerson_14 ?_
    refine lv_iload_n hx hb dX8_addPerson_17 rfl (lv_at hl 1 rfl) ?_
    obtain ⟨bS_2, S_2, eS_2, h⟩ := sd_st_some h
    refine sd_iast C X (sd_k8_1 hk0) bS_2 dX8_addPerson_18 (fun H locs X => ?_)
    rw [← eS_2] at X
    refine lv_aload_n hx hb dX8_addPerson_19 rfl (lv_at hl 0 rfl) ?_
    refine sd_g8_2 (k := k0) C X hk0 sd_w3_23 dX8_addPerson_20 ?_
    refine lv_aload_n hx hb dX8_addPerson_23 rfl (lv_at hl 0 rfl) ?_
    refine sd_g8_0 C X hk0 sd_w11_2 dX8_addPerson_24 ?_
    refine lv_iconst (v := (-1 : Int32)) hx hb dX8_addPerson_27 (by decide) ?_
    obtain ⟨bS_3, S_3, eS_3, h⟩ := sd_st_some h
    refine sd_iast C X (sd_k8_2 hk0) bS_3 dX8_addPerson_28 (fun H locs X => ?_)
    rw [← eS_3] at X
    refine lv_aload_n hx hb dX8_addPerson_29 rfl (lv_at hl 0 rfl) ?_
    refine sd_g8_3 (k := k0) C X hk0 sd_w4_0 dX8_addPerson_30 ?_
    refine lv_aload_n hx hb dX8_addPerson_33 rfl (lv_at hl 0 rfl) ?_
    refine sd_g8_0 C X hk0 sd_w11_2 dX8_addPerson_34 ?_
    refine lv_iconst (v := (0 : Int32)) hx hb dX8_addPerson_37 (by decide) ?_
    obtain ⟨bS_4, S_4, eS_4, h⟩ := sd_st_some h
    refine sd_iast C X (sd_k8_3 hk0) bS_4 dX8_addPerson_38 (fun H locs X => ?_)
    rw [← eS_4] at X
    refine lv_aload_n hx hb dX8_addPerson_39 rfl (lv_at hl 0 rfl) ?_
    refine sd_g8_4 (k := k0) C X hk0 sd_w4_1 dX8_addPerson_40 ?_
    refine lv_aload_n hx hb dX8_addPerson_43 rfl (lv_at hl 0 rfl) ?_
    refine sd_g8_0 C X hk0 sd_w11_2 dX8_addPerson_44 ?_
    refine lv_iconst (v := (0 : Int32)) hx hb dX8_addPerson_47 (by decide) ?_
    obtain ⟨bS_5, S_5, eS_5, h⟩ := sd_st_some h
    refine sd_iast C X (sd_k8_4 hk0) bS_5 dX8_addPerson_48 (fun H locs X => ?_)
    rw [← eS_5] at X
    refine lv_aload_n hx hb dX8_addPerson_49 rfl (lv_at hl 0 rfl) ?_
    refine sd_g8_5 (k := k0) C X hk0 sd_w4_2 dX8_addPerson_50 ?_
    refine lv_aload_n hx hb dX8_addPerson_53 rfl (lv_at hl 0 rfl) ?_
    refine sd_g8_0 C X hk0 sd_w11_2 dX8_addPerson_54 ?_
    refine lv_iconst (v := (0 : Int32)) hx hb dX8_addPerson_57 (by decide) ?_
    obtain ⟨bS_6, S_6, eS_6, h⟩ := sd_st_some h
    refine sd_iast C X (sd_k8_5 hk0) bS_6 dX8_addPerson_58 (fun H locs X => ?_)
    rw [← eS_6] at X
    refine lv_aload_n hx hb dX8_addPerson_59 rfl (lv_at hl 0 rfl) ?_
    refine lv_dup hx hb dX8_addPerson_60 rfl ?_
    refine sd_g8_0 C X hk0 sd_w11_2 dX8_addPerson_61 ?_
    refine lv_iconst (v := (1 : Int32)) hx hb dX8_addPerson_64 (by decide) ?_
    refine lv_iadd hx hb dX8_addPerson_65 ?_
    obtain ⟨S_7, eS_7, h⟩ := sd_nm_some h
    refine sd_p8_0 C X hk0 sd_w11_2 dX8_addPerson_66 (fun H locs X => ?_)
    rw [← eS_7] at X
    cases h
    exact sd_vret C X dX8_addPerson_69
theorem k_X8_addPerson (C : sd_C own cc nL rt D cy ad A b0 p s m args meth c) (X : sd_H D cy ad A s S H locs) (hls : ls.size = nL) {k0 : Nat} {x1 : Int32} {S2 : sd_St} (hk0 : sd_kd k0 = 8) (h : f_X8_addPerson k0 x1 S = some ((), S2)) (hlink : Cond.methodLink own index yX8_addPerson ∈ sd_wl) (hR : 1 ≤ R.frames ∧ 21 ≤ R.locals ∧ cells ≤ R.cells ∧ slots ≤ R.slots) (hst : (rest.map fun v => v.category).sum ≤ 8) (hdg : decode cc pc = .ok (.invokevirtual index, 3)) (kk : ∀ (H1 : Heap) (locs1 : List Loc), sd_H D cy ad A s S2 H1 locs1 → W p l e R s m args below meth c H1 locs1 cells slots Q (F0 m (pc + 3) ls rest)) : W p l e R s m args below meth c H locs cells slots Q (F0 m pc ls (.int x1 :: .ref (ad k0) :: rest)) :=
  sd_goV X (sd_runV C X hls (n := 1) (k := k0) (As := [.int x1]) (c_X8_addPerson (l := l) (b0 := b0) hk0 h) (sd_goodV hlink sd_w14_8 sd_w14_9 sd_w1_19 sd_w14_10) (ci := 8) rfl (by rw [hk0]; decide) (sd_c8 hk0) (by decide +kernel) rfl hR rfl hst hdg) kk
/-! ===== SecretDays$Town.addCall(II)V ===== -/
def f_X8_addCall (k0 : Nat) (x1 : Int32) (x2 : Int32) (S : sd_St) : Option (Unit × sd_St) := sd_ld S (k0 + 4) x2 (fun v_1 => sd_st S (k0 + 4) x2 (v_1 ||| ((1 : Int32) <<< (x1 &&& 31))) (fun S_2 => sd_ld S_2 (k0 + 5) x1 (fun v_3 => sd_st S_2 (k0 + 5) x1 (v_3 ||| ((1 : Int32) <<< (x2 &&& 31))) (fun S_4 => sd_nm (sd_I S_4 k0 6 ((S_4.1 k0 6) + (1 : Int32))) (fun S_5 => (some ((), S_5)))))))
set_option maxHeartbeats 4000000 in
set_option maxRecDepth 100000 in
theorem c_X8_addCall {k0 : Nat} {x1 : Int32} {x2 : Int32} (hk0 : sd_kd k0 = 8) {S S' : sd_St} (h : f_X8_addCall k0 x1 x2 S = some ((), S')) : Met l yX8_addCall (Cond.code yX8_addCall cX8_addCall 3 none :: sd_wl) (sd_rm 0) (sd_P D cy ad A b0 [.ref (ad k0), .int x1, .int x2] S) (sd_Qv D cy ad A S') 0 0 A := by
  refine sd_met (by decide) (Nat.le_of_ble_eq_true rfl) (fun p e s m args below meth c ls C X hl => ?_)
  obtain ⟨hx, hb, -, hml, hown, hts, -, hG⟩ := id C
  replace C : sd_C RX8 cX8_addCall 3 none D cy ad A b0 p s m args meth c := C
  replace hl : lv_has ls 3 [(0, .ref (ad k0)), (1, .int x1), (2, .int x2)] := hl
  unfold f_X8_addCall at h
  refine lv_aload_n hx hb dX8_addCall_0 rfl (lv_at hl 0 rfl) ?_
  refine sd_g8_4 (k := k0) C X hk0 sd_w4_1 dX8_addCall_1 ?_
  refine lv_iload_n hx hb dX8_addCall_4 rfl (lv_at hl 2 rfl) ?_
  refine lv_dup2_11 hx hb dX8_addCall_5 rfl rfl ?_
  obtain ⟨b_1, v_1, e_1, h⟩ := sd_ld_some h
  refine sd_iald C X (sd_k8_4 hk0) b_1 dX8_addCall_6 (sd_nmi e_1 ?_)
  refine lv_iconst (v := (1 : Int32)) hx hb dX8_addCall_7 (by decide) ?_
  refine lv_iload_n hx hb dX8_addCall_8 rfl (lv_at hl 1 rfl) ?_
  refine lv_ishl hx hb dX8_addCall_9 ?_
  refine lv_ior hx hb dX8_addCall_10 ?_
  obtain ⟨bS_2, S_2, eS_2, h⟩ := sd_st_some h
  refine sd_iast C X (sd_k8_4 hk0) bS_2 dX8_addCall_11 (fun H locs X => ?_)
  rw [← eS_2] at X
  refine lv_aload_n hx hb dX8_addCall_12 rfl (lv_at hl 0 rfl) ?_
  refine sd_g8_5 (k := k0) C X hk0 sd_w4_2 dX8_addCall_13 ?_
  refine lv_iload_n hx hb dX8_addCall_16 rfl (lv_at hl 1 rfl) ?_
  refine lv_dup2_11 hx hb dX8_addCall_17 rfl rfl ?_
  obtain ⟨b_3, v_3, e_3, h⟩ := sd_ld_some h
  refine sd_iald C X (sd_k8_5 hk0) b_3 dX8_addCall_18 (sd_nmi e_3 ?_)
  refine lv_iconst (v := (1 : Int32)) hx hb dX8_addCall_19 (by decide) ?_
  refine lv_iload_n hx hb dX8_addCall_20 rfl (lv_at hl 2 rfl) ?_
  refine lv_ishl hx hb dX8_addCall_21 ?_
  refine lv_ior hx hb dX8_addCall_22 ?_
  obtain ⟨bS_4, S_4, eS_4, h⟩ := sd_st_some h
  refine sd_iast C X (sd_k8_5 hk0) bS_4 dX8_addCall_23 (fun H locs X => ?_)
  rw [← eS_4] at X
  refine lv_aload_n hx hb dX8_addCall_24 rfl (lv_at hl 0 rfl) ?_
  refine lv_dup hx hb dX8_addCall_25 rfl ?_
  refine sd_g8_6 C X hk0 sd_w11_3 dX8_addCall_26 ?_
  refine lv_iconst (v := (1 : Int32)) hx hb dX8_addCall_29 (by decide) ?_
  refine lv_iadd hx hb dX8_addCall_30 ?_
  obtain ⟨S_5, eS_5, h⟩ := sd_nm_some h
  refine sd_p8_6 C X hk0 sd_w11_3 dX8_addCall_31 (fun H locs X => ?_)
  rw [← eS_5] at X
  cases h
  exact sd_vret C X dX8_addCall_34
theorem k_X8_addCall (C : sd_C own cc nL rt D cy ad A b0 p s m args meth c) (X : sd_H D cy ad A s S H locs) (hls : ls.size = nL) {k0 : Nat} {x1 : Int32} {x2 : Int32} {S2 : sd_St} (hk0 : sd_kd k0 = 8) (h : f_X8_addCall k0 x1 x2 S = some ((), S2)) (hlink : Cond.methodLink own index yX8_addCall ∈ sd_wl) (hR : 1 ≤ R.frames ∧ 22 ≤ R.locals ∧ cells ≤ R.cells ∧ slots ≤ R.slots) (hst : (rest.map fun v => v.category).sum ≤ 8) (hdg : decode cc pc = .ok (.invokevirtual index, 3)) (kk : ∀ (H1 : Heap) (locs1 : List Loc), sd_H D cy ad A s S2 H1 locs1 → W p l e R s m args below meth c H1 locs1 cells slots Q (F0 m (pc + 3) ls rest)) : W p l e R s m args below meth c H locs cells slots Q (F0 m pc ls (.int x2 :: .int x1 :: .ref (ad k0) :: rest)) :=
  sd_goV X (sd_runV C X hls (n := 2) (k := k0) (As := [.int x1, .int x2]) (c_X8_addCall (l := l) (b0 := b0) hk0 h) (sd_goodV hlink sd_w16_0 sd_w16_1 sd_w1_19 sd_w16_2) (ci := 8) rfl (by rw [hk0]; decide) (sd_c8 hk0) (by decide +kernel) rfl hR rfl hst hdg) kk
/-! ===== SecretDays$Town.addAway(III)V ===== -/
def f_X8_addAway (k0 : Nat) (x1 : Int32) (x2 : Int32) (x3 : Int32) (S : sd_St) : Option (Unit × sd_St) := (if (12 : Int32) ≤ (S.1 k0 7) then (some ((), S)) else sd_st S (k0 + 6) (S.1 k0 7) x1 (fun S_2 => sd_st S_2 (k0 + 7) (S_2.1 k0 7) x2 (fun S_3 => sd_st S_3 (k0 + 8) (S_3.1 k0 7) x3 (fun S_4 => sd_nm (sd_I S_4 k0 7 ((S_4.1 k0 7) + (1 : Int32))) (fun S_5 => (some ((), S_5)))))))
set_option maxHeartbeats 4000000 in
set_option maxRecDepth 100000 in
theorem c_X8_addAway {k0 : Nat} {x1 : Int32} {x2 : Int32} {x3 : Int32} (hk0 : sd_kd k0 = 8) {S S' : sd_St} (h : f_X8_addAway k0 x1 x2 x3 S = some ((), S')) : Met l yX8_addAway (Cond.code yX8_addAway cX8_addAway 4 none :: sd_wl) (sd_rm 0) (sd_P D cy ad A b0 [.ref (ad k0), .int x1, .int x2, .int x3] S) (sd_Qv D cy ad A S') 0 0 A := by
  refine sd_met (by decide) (Nat.le_of_ble_eq_true rfl) (fun p e s m args below meth c ls C X hl => ?_)
  obtain ⟨hx, hb, -, hml, hown, hts, -, hG⟩ := id C
  replace C : sd_C RX8 cX8_addAway 4 none D cy ad A b0 p s m args meth c := C
  replace hl : lv_has ls 4 [(0, .ref (ad k0)), (1, .int x1), (2, .int x2), (3, .int x3)] := hl
  unfold f_X8_addAway at h
  refine lv_aload_n hx hb dX8_addAway_0 rfl (lv_at hl 0 rfl) ?_
  refine sd_g8_7 C X hk0 sd_w11_4 dX8_addAway_1 ?_
  refine lv_bipush (v := (12 : Int32)) hx hb dX8_addAway_4 (by decide) ?_
  refine lv_icmp_ge (tgt := 49) hx hb dX8_addAway_6 (by decide) (fun c_1 => ?_) (fun c_1 => ?_)
  · have h := sd_ifp c_1 h
    cases h
    exact sd_vret C X dX8_addAway_49
  · have h := sd_ifn c_1 h
    refine lv_aload_n hx hb dX8_addAway_9 rfl (lv_at hl 0 rfl) ?_
    refine sd_g8_8 (k := k0) C X hk0 sd_w4_3 dX8_addAway_10 ?_
    refine lv_aload_n hx hb dX8_addAway_13 rfl (lv_at hl 0 rfl) ?_
    refine sd_g8_7 C X hk0 sd_w11_4 dX8_addAway_14 ?_
    refine lv_iload_n hx hb dX8_addAway_17 rfl (lv_at hl 1 rfl) ?_
    obtain ⟨bS_2, S_2, eS_2, h⟩ := sd_st_some h
    refine sd_iast C X (sd_k8_6 hk0) bS_2 dX8_addAway_18 (fun H locs X => ?_)
    rw [← eS_2] at X
    refine lv_aload_n hx hb dX8_addAway_19 rfl (lv_at hl 0 rfl) ?_
    refine sd_g8_9 (k := k0) C X hk0 sd_w4_4 dX8_addAway_20 ?_
    refine lv_aload_n hx hb dX8_addAway_23 rfl (lv_at hl 0 rfl) ?_
    refine sd_g8_7 C X hk0 sd_w11_4 dX8_addAway_24 ?_
    refine lv_iload_n hx hb dX8_addAway_27 rfl (lv_at hl 2 rfl) ?_
    obtain ⟨bS_3, S_3, eS_3, h⟩ := sd_st_some h
    refine sd_iast C X (sd_k8_7 hk0) bS_3 dX8_addAway_28 (fun H locs X => ?_)
    rw [← eS_3] at X
    refine lv_aload_n hx hb dX8_addAway_29 rfl (lv_at hl 0 rfl) ?_
    refine sd_g8_10 (k := k0) C X hk0 sd_w4_5 dX8_addAway_30 ?_
    refine lv_aload_n hx hb dX8_addAway_33 rfl (lv_at hl 0 rfl) ?_
    refine sd_g8_7 C X hk0 sd_w11_4 dX8_addAway_34 ?_
    refine lv_iload_n hx hb dX8_addAway_37 rfl (lv_at hl 3 rfl) ?_
    obtain ⟨bS_4, S_4, eS_4, h⟩ := sd_st_some h
    refine sd_iast C X (sd_k8_8 hk0) bS_4 dX8_addAway_38 (fun H locs X => ?_)
    rw [← eS_4] at X
    refine lv_aload_n hx hb dX8_addAway_39 rfl (lv_at hl 0 rfl) ?_
    refine lv_dup hx hb dX8_addAway_40 rfl ?_
    refine sd_g8_7 C X hk0 sd_w11_4 dX8_addAway_41 ?_
    refine lv_iconst (v := (1 : Int32)) hx hb dX8_addAway_44 (by decide) ?_
    refine lv_iadd hx hb dX8_addAway_45 ?_
    obtain ⟨S_5, eS_5, h⟩ := sd_nm_some h
    refine sd_p8_7 C X hk0 sd_w11_4 dX8_addAway_46 (fun H locs X => ?_)
    rw [← eS_5] at X
    cases h
    exact sd_vret C X dX8_addAway_49
theorem k_X8_addAway (C : sd_C own cc nL rt D cy ad A b0 p s m args meth c) (X : sd_H D cy ad A s S H locs) (hls : ls.size = nL) {k0 : Nat} {x1 : Int32} {x2 : Int32} {x3 : Int32} {S2 : sd_St} (hk0 : sd_kd k0 = 8) (h : f_X8_addAway k0 x1 x2 x3 S = some ((), S2)) (hlink : Cond.methodLink own index yX8_addAway ∈ sd_wl) (hR : 1 ≤ R.frames ∧ 23 ≤ R.locals ∧ cells ≤ R.cells ∧ slots ≤ R.slots) (hst : (rest.map fun v => v.category).sum ≤ 8) (hdg : decode cc pc = .ok (.invokevirtual index, 3)) (kk : ∀ (H1 : Heap) (locs1 : List Loc), sd_H D cy ad A s S2 H1 locs1 → W p l e R s m args below meth c H1 locs1 cells slots Q (F0 m (pc + 3) ls rest)) : W p l e R s m args below meth c H locs cells slots Q (F0 m pc ls (.int x3 :: .int x2 :: .int x1 :: .ref (ad k0) :: rest)) :=
  sd_goV X (sd_runV C X hls (n := 3) (k := k0) (As := [.int x1, .int x2, .int x3]) (c_X8_addAway (l := l) (b0 := b0) hk0 h) (sd_goodV hlink sd_w16_15 sd_w16_16 sd_w1_19 sd_w16_17) (ci := 8) rfl (by rw [hk0]; decide) (sd_c8 hk0) (by decide +kernel) rfl hR rfl hst hdg) kk
/-! ===== SecretDays$Town.addSecret(II)V ===== -/
def f_X8_addSecret (k0 : Nat) (x1 : Int32) (x2 : Int32) (S : sd_St) : Option (Unit × sd_St) := (if (4 : Int32) ≤ (S.1 k0 11) then (some ((), S)) else sd_st S (k0 + 9) (S.1 k0 11) x1 (fun S_2 => sd_st S_2 (k0 + 10) (S_2.1 k0 11) x2 (fun S_3 => sd_nm (sd_I S_3 k0 11 ((S_3.1 k0 11) + (1 : Int32))) (fun S_4 => (some ((), S_4))))))
set_option maxHeartbeats 4000000 in
set_option maxRecDepth 100000 in
theorem c_X8_addSecret {k0 : Nat} {x1 : Int32} {x2 : Int32} (hk0 : sd_kd k0 = 8) {S S' : sd_St} (h : f_X8_addSecret k0 x1 x2 S = some ((), S')) : Met l yX8_addSecret (Cond.code yX8_addSecret cX8_addSecret 3 none :: sd_wl) (sd_rm 0) (sd_P D cy ad A b0 [.ref (ad k0), .int x1, .int x2] S) (sd_Qv D cy ad A S') 0 0 A := by
  refine sd_met (by decide) (Nat.le_of_ble_eq_true rfl) (fun p e s m args below meth c ls C X hl => ?_)
  obtain ⟨hx, hb, -, hml, hown, hts, -, hG⟩ := id C
  replace C : sd_C RX8 cX8_addSecret 3 none D cy ad A b0 p s m args meth c := C
  replace hl : lv_has ls 3 [(0, .ref (ad k0)), (1, .int x1), (2, .int x2)] := hl
  unfold f_X8_addSecret at h
  refine lv_aload_n hx hb dX8_addSecret_0 rfl (lv_at hl 0 rfl) ?_
  refine sd_g8_11 C X hk0 sd_w11_5 dX8_addSecret_1 ?_
  refine lv_iconst (v := (4 : Int32)) hx hb dX8_addSecret_4 (by decide) ?_
  refine lv_icmp_ge (tgt := 38) hx hb dX8_addSecret_5 (by decide) (fun c_1 => ?_) (fun c_1 => ?_)
  · have h := sd_ifp c_1 h
    cases h
    exact sd_vret C X dX8_addSecret_38
  · have h := sd_ifn c_1 h
    refine lv_aload_n hx hb dX8_addSecret_8 rfl (lv_at hl 0 rfl) ?_
    refine sd_g8_12 (k := k0) C X hk0 sd_w4_6 dX8_addSecret_9 ?_
    refine lv_aload_n hx hb dX8_addSecret_12 rfl (lv_at hl 0 rfl) ?_
    refine sd_g8_11 C X hk0 sd_w11_5 dX8_addSecret_13 ?_
    refine lv_iload_n hx hb dX8_addSecret_16 rfl (lv_at hl 1 rfl) ?_
    obtain ⟨bS_2, S_2, eS_2, h⟩ := sd_st_some h
    refine sd_iast C X (sd_k8_9 hk0) bS_2 dX8_addSecret_17 (fun H locs X => ?_)
    rw [← eS_2] at X
    refine lv_aload_n hx hb dX8_addSecret_18 rfl (lv_at hl 0 rfl) ?_
    refine sd_g8_13 (k := k0) C X hk0 sd_w4_7 dX8_addSecret_19 ?_
    refine lv_aload_n hx hb dX8_addSecret_22 rfl (lv_at hl 0 rfl) ?_
    refine sd_g8_11 C X hk0 sd_w11_5 dX8_addSecret_23 ?_
    refine lv_iload_n hx hb dX8_addSecret_26 rfl (lv_at hl 2 rfl) ?_
    obtain ⟨bS_3, S_3, eS_3, h⟩ := sd_st_some h
    refine sd_iast C X (sd_k8_10 hk0) bS_3 dX8_addSecret_27 (fun H locs X => ?_)
    rw [← eS_3] at X
    refine lv_aload_n hx hb dX8_addSecret_28 rfl (lv_at hl 0 rfl) ?_
    refine lv_dup hx hb dX8_addSecret_29 rfl ?_
    refine sd_g8_11 C X hk0 sd_w11_5 dX8_addSecret_30 ?_
    refine lv_iconst (v := (1 : Int32)) hx hb dX8_addSecret_33 (by decide) ?_
    refine lv_iadd hx hb dX8_addSecret_34 ?_
    obtain ⟨S_4, eS_4, h⟩ := sd_nm_some h
    refine sd_p8_11 C X hk0 sd_w11_5 dX8_addSecret_35 (fun H locs X => ?_)
    rw [← eS_4] at X
    cases h
    exact sd_vret C X dX8_addSecret_38
theorem k_X8_addSecret (C : sd_C own cc nL rt D cy ad A b0 p s m args meth c) (X : sd_H D cy ad A s S H locs) (hls : ls.size = nL) {k0 : Nat} {x1 : Int32} {x2 : Int32} {S2 : sd_St} (hk0 : sd_kd k0 = 8) (h : f_X8_addSecret k0 x1 x2 S = some ((), S2)) (hlink : Cond.methodLink own index yX8_addSecret ∈ sd_wl) (hR : 1 ≤ R.frames ∧ 22 ≤ R.locals ∧ cells ≤ R.cells ∧ slots ≤ R.slots) (hst : (rest.map fun v => v.category).sum ≤ 8) (hdg : decode cc pc = .ok (.invokevirtual index, 3)) (kk : ∀ (H1 : Heap) (locs1 : List Loc), sd_H D cy ad A s S2 H1 locs1 → W p l e R s m args below meth c H1 locs1 cells slots Q (F0 m (pc + 3) ls rest)) : W p l e R s m args below meth c H locs cells slots Q (F0 m pc ls (.int x2 :: .int x1 :: .ref (ad k0) :: rest)) :=
  sd_goV X (sd_runV C X hls (n := 2) (k := k0) (As := [.int x1, .int x2]) (c_X8_addSecret (l := l) (b0 := b0) hk0 h) (sd_goodV hlink sd_w17_0 sd_w17_1 sd_w1_19 sd_w17_2) (ci := 8) rfl (by rw [hk0]; decide) (sd_c8 hk0) (by decide +kernel) rfl hR rfl hst hdg) kk
/-! ===== SecretDays$Town.everyone()I ===== -/
def f_X8_everyone (k0 : Nat) (S : sd_St) : Option (Int32 × sd_St) := (some ((((1 : Int32) <<< ((S.1 k0 0) &&& 31)) - (1 : Int32)), S))
set_option maxHeartbeats 4000000 in
set_option maxRecDepth 100000 in
theorem c_X8_everyone {k0 : Nat} (hk0 : sd_kd k0 = 8) {S S' : sd_St} {r : Int32} (h : f_X8_everyone k0 S = some (r, S')) : Met l yX8_everyone (Cond.code yX8_everyone cX8_everyone 1 (some .int) :: sd_wl) (sd_rm 0) (sd_P D cy ad A b0 [.ref (ad k0)] S) (sd_Qi D cy ad A r S') 0 0 A := by
  refine sd_met (by decide) (Nat.le_of_ble_eq_true rfl) (fun p e s m args below meth c ls C X hl => ?_)
  obtain ⟨hx, hb, -, hml, hown, hts, -, hG⟩ := id C
  replace C : sd_C RX8 cX8_everyone 1 (some .int) D cy ad A b0 p s m args meth c := C
  replace hl : lv_has ls 1 [(0, .ref (ad k0))] := hl
  unfold f_X8_everyone at h
  refine lv_iconst (v := (1 : Int32)) hx hb dX8_everyone_0 (by decide) ?_
  refine lv_aload_n hx hb dX8_everyone_1 rfl (lv_at hl 0 rfl) ?_
  refine sd_g8_0 C X hk0 sd_w11_2 dX8_everyone_2 ?_
  refine lv_ishl hx hb dX8_everyone_5 ?_
  refine lv_iconst (v := (1 : Int32)) hx hb dX8_everyone_6 (by decide) ?_
  refine lv_isub hx hb dX8_everyone_7 ?_
  cases h
  exact sd_iret C X dX8_everyone_8
theorem k_X8_everyone (C : sd_C own cc nL rt D cy ad A b0 p s m args meth c) (X : sd_H D cy ad A s S H locs) (hls : ls.size = nL) {k0 : Nat} {S2 : sd_St} {r : Int32} (hk0 : sd_kd k0 = 8) (h : f_X8_everyone k0 S = some (r, S2)) (hlink : Cond.methodLink own index yX8_everyone ∈ sd_wl) (hR : 1 ≤ R.frames ∧ 20 ≤ R.locals ∧ cells ≤ R.cells ∧ slots ≤ R.slots) (hst : (rest.map fun v => v.category).sum ≤ 8) (hdg : decode cc pc = .ok (.invokevirtual index, 3)) (kk : ∀ (H1 : Heap) (locs1 : List Loc), sd_H D cy ad A s S2 H1 locs1 → W p l e R s m args below meth c H1 locs1 cells slots Q (F0 m (pc + 3) ls (.int r :: rest))) : W p l e R s m args below meth c H locs cells slots Q (F0 m pc ls (.ref (ad k0) :: rest)) :=
  sd_goI X (sd_runV C X hls (n := 0) (k := k0) (As := []) (c_X8_everyone (l := l) (b0 := b0) hk0 h) (sd_goodV hlink sd_w34_17 sd_w34_18 sd_w1_19 sd_w34_19) (ci := 8) rfl (by rw [hk0]; decide) (sd_c8 hk0) (by decide +kernel) rfl hR rfl hst hdg) kk
/-! ===== SecretDays$Town.isFeast(II)Z ===== -/
def f_X8_isFeast (k0 : Nat) (x1 : Int32) (x2 : Int32) (S : sd_St) : Option (Int32 × sd_St) := sd_ld S (k0 + 1) x1 (fun v_1 => (if v_1 = x2 then (some ((1 : Int32), S)) else (if (S.1 k0 15) = 0 then (some ((0 : Int32), S)) else sd_ld S (k0 + 2) x1 (fun v_4 => (if v_4 = x2 then (some ((1 : Int32), S)) else (some ((0 : Int32), S)))))))
set_option maxHeartbeats 4000000 in
set_option maxRecDepth 100000 in
theorem c_X8_isFeast {k0 : Nat} {x1 : Int32} {x2 : Int32} (hk0 : sd_kd k0 = 8) {S S' : sd_St} {r : Int32} (h : f_X8_isFeast k0 x1 x2 S = some (r, S')) : Met l yX8_isFeast (Cond.code yX8_isFeast cX8_isFeast 3 (some .boolean) :: sd_wl) (sd_rm 0) (sd_P D cy ad A b0 [.ref (ad k0), .int x1, .int x2] S) (sd_Qi D cy ad A r S') 0 0 A := by
  refine sd_met (by decide) (Nat.le_of_ble_eq_true rfl) (fun p e s m args below meth c ls C X hl => ?_)
  obtain ⟨hx, hb, -, hml, hown, hts, -, hG⟩ := id C
  replace C : sd_C RX8 cX8_isFeast 3 (some .boolean) D cy ad A b0 p s m args meth c := C
  replace hl : lv_has ls 3 [(0, .ref (ad k0)), (1, .int x1), (2, .int x2)] := hl
  unfold f_X8_isFeast at h
  refine lv_aload_n hx hb dX8_isFeast_0 rfl (lv_at hl 0 rfl) ?_
  refine sd_g8_1 (k := k0) C X hk0 sd_w3_22 dX8_isFeast_1 ?_
  refine lv_iload_n hx hb dX8_isFeast_4 rfl (lv_at hl 1 rfl) ?_
  obtain ⟨b_1, v_1, e_1, h⟩ := sd_ld_some h
  refine sd_iald C X (sd_k8_1 hk0) b_1 dX8_isFeast_5 (sd_nmi e_1 ?_)
  refine lv_iload_n hx hb dX8_isFeast_6 rfl (lv_at hl 2 rfl) ?_
  refine lv_icmp_eq (tgt := 27) hx hb dX8_isFeast_7 (by decide) (fun c_2 => ?_) (fun c_2 => ?_)
  · have h := sd_ifp c_2 h
    refine lv_iconst (v := (1 : Int32)) hx hb dX8_isFeast_27 (by decide) ?_
    refine lv_goto (tgt := 32) hx hb dX8_isFeast_28 (by decide) ?_
    cases h
    exact sd_zret C X (by decide) dX8_isFeast_32
  · have h := sd_ifn c_2 h
    refine lv_aload_n hx hb dX8_isFeast_10 rfl (lv_at hl 0 rfl) ?_
    refine sd_g8_15 C X hk0 sd_w11_7 dX8_isFeast_11 ?_
    refine lv_if_eq (tgt := 31) hx hb dX8_isFeast_14 (by decide) (fun c_3 => ?_) (fun c_3 => ?_)
    · have h := sd_ifp c_3 h
      refine lv_iconst (v := (0 : Int32)) hx hb dX8_isFeast_31 (by decide) ?_
      cases h
      exact sd_zret C X (by decide) dX8_isFeast_32
    · have h := sd_ifn c_3 h
      refine lv_aload_n hx hb dX8_isFeast_17 rfl (lv_at hl 0 rfl) ?_
      refine sd_g8_2 (k := k0) C X hk0 sd_w3_23 dX8_isFeast_18 ?_
      refine lv_iload_n hx hb dX8_isFeast_21 rfl (lv_at hl 1 rfl) ?_
      obtain ⟨b_4, v_4, e_4, h⟩ := sd_ld_some h
      refine sd_iald C X (sd_k8_2 hk0) b_4 dX8_isFeast_22 (sd_nmi e_4 ?_)
      refine lv_iload_n hx hb dX8_isFeast_23 rfl (lv_at hl 2 rfl) ?_
      refine lv_icmp_ne (tgt := 31) hx hb dX8_isFeast_24 (by decide) (fun c_5 => ?_) (fun c_5 => ?_)
      · have h := sd_ifn c_5 h
        refine lv_iconst (v := (0 : Int32)) hx hb dX8_isFeast_31 (by decide) ?_
        cases h
        exact sd_zret C X (by decide) dX8_isFeast_32
      · have h := sd_ifp c_5 h
        refine lv_iconst (v := (1 : Int32)) hx hb dX8_isFeast_27 (by decide) ?_
        refine lv_goto (tgt := 32) hx hb dX8_isFeast_28 (by decide) ?_
        cases h
        exact sd_zret C X (by decide) dX8_isFeast_32
theorem k_X8_isFeast (C : sd_C own cc nL rt D cy ad A b0 p s m args meth c) (X : sd_H D cy ad A s S H locs) (hls : ls.size = nL) {k0 : Nat} {x1 : Int32} {x2 : Int32} {S2 : sd_St} {r : Int32} (hk0 : sd_kd k0 = 8) (h : f_X8_isFeast k0 x1 x2 S = some (r, S2)) (hlink : Cond.methodLink own index yX8_isFeast ∈ sd_wl) (hR : 1 ≤ R.frames ∧ 22 ≤ R.locals ∧ cells ≤ R.cells ∧ slots ≤ R.slots) (hst : (rest.map fun v => v.category).sum ≤ 8) (hdg : decode cc pc = .ok (.invokevirtual index, 3)) (kk : ∀ (H1 : Heap) (locs1 : List Loc), sd_H D cy ad A s S2 H1 locs1 → W p l e R s m args below meth c H1 locs1 cells slots Q (F0 m (pc + 3) ls (.int r :: rest))) : W p l e R s m args below meth c H locs cells slots Q (F0 m pc ls (.int x2 :: .int x1 :: .ref (ad k0) :: rest)) :=
  sd_goI X (sd_runV C X hls (n := 2) (k := k0) (As := [.int x1, .int x2]) (c_X8_isFeast (l := l) (b0 := b0) hk0 h) (sd_goodV hlink sd_w26_17 sd_w26_18 sd_w1_19 sd_w26_19) (ci := 8) rfl (by rw [hk0]; decide) (sd_c8 hk0) (by decide +kernel) rfl hR rfl hst hdg) kk
/-! ===== SecretDays$TownReader.failIf(ZI)V ===== -/
def f_X9_failIf (k0 : Nat) (x1 : Int32) (x2 : Int32) (S : sd_St) : Option (Unit × sd_St) := (if x1 = 0 then (some ((), S)) else (if (S.1 k0 5) = 0 then sd_nm (sd_I S k0 5 (x2 + ((16 : Int32) * (S.1 (k0 + 12) 4)))) (fun S_3 => (some ((), S_3))) else (some ((), S))))
set_option maxHeartbeats 4000000 in
set_option maxRecDepth 100000 in
theorem c_X9_failIf {k0 : Nat} {x1 : Int32} {x2 : Int32} (hk0 : sd_kd k0 = 9) {S S' : sd_St} (h : f_X9_failIf k0 x1 x2 S = some ((), S')) : Met l yX9_failIf (Cond.code yX9_failIf cX9_failIf 3 none :: sd_wl) (sd_rm 0) (sd_P D cy ad A b0 [.ref (ad k0), .int x1, .int x2] S) (sd_Qv D cy ad A S') 0 0 A := by
  refine sd_met (by decide) (Nat.le_of_ble_eq_true rfl) (fun p e s m args below meth c ls C X hl => ?_)
  obtain ⟨hx, hb, -, hml, hown, hts, -, hG⟩ := id C
  replace C : sd_C RX9 cX9_failIf 3 none D cy ad A b0 p s m args meth c := C
  replace hl : lv_has ls 3 [(0, .ref (ad k0)), (1, .int x1), (2, .int x2)] := hl
  unfold f_X9_failIf at h
  refine lv_iload_n hx hb dX9_failIf_0 rfl (lv_at hl 1 rfl) ?_
  refine lv_if_eq (tgt := 27) hx hb dX9_failIf_1 (by decide) (fun c_1 => ?_) (fun c_1 => ?_)
  · have h := sd_ifp c_1 h
    cases h
    exact sd_vret C X dX9_failIf_27
  · have h := sd_ifn c_1 h
    refine lv_aload_n hx hb dX9_failIf_4 rfl (lv_at hl 0 rfl) ?_
    refine sd_g9_5 C X hk0 sd_w10_14 dX9_failIf_5 ?_
    refine lv_if_ne (tgt := 27) hx hb dX9_failIf_8 (by decide) (fun c_2 => ?_) (fun c_2 => ?_)
    · have h := sd_ifn c_2 h
      cases h
      exact sd_vret C X dX9_failIf_27
    · have h := sd_ifp c_2 h
      refine lv_aload_n hx hb dX9_failIf_11 rfl (lv_at hl 0 rfl) ?_
      refine lv_iload_n hx hb dX9_failIf_12 rfl (lv_at hl 2 rfl) ?_
      refine lv_bipush (v := (16 : Int32)) hx hb dX9_failIf_13 (by decide) ?_
      refine lv_aload_n hx hb dX9_failIf_15 rfl (lv_at hl 0 rfl) ?_
      refine sd_g9_1 (k := k0) C X hk0 sd_w3_14 dX9_failIf_16 ?_
      refine sd_g7_4 C X (sd_k9_12 hk0) sd_w13_0 dX9_failIf_19 ?_
      refine lv_imul hx hb dX9_failIf_22 ?_
      refine lv_iadd hx hb dX9_failIf_23 ?_
      obtain ⟨S_3, eS_3, h⟩ := sd_nm_some h
      refine sd_p9_5 C X hk0 sd_w10_14 dX9_failIf_24 (fun H locs X => ?_)
      rw [← eS_3] at X
      cases h
      exact sd_vret C X dX9_failIf_27
theorem k_X9_failIf (C : sd_C own cc nL rt D cy ad A b0 p s m args meth c) (X : sd_H D cy ad A s S H locs) (hls : ls.size = nL) {k0 : Nat} {x1 : Int32} {x2 : Int32} {S2 : sd_St} (hk0 : sd_kd k0 = 9) (h : f_X9_failIf k0 x1 x2 S = some ((), S2)) (hlink : Cond.methodLink own index yX9_failIf ∈ sd_wl) (hR : 1 ≤ R.frames ∧ 22 ≤ R.locals ∧ cells ≤ R.cells ∧ slots ≤ R.slots) (hst : (rest.map fun v => v.category).sum ≤ 8) (hdg : decode cc pc = .ok (.invokevirtual index, 3)) (kk : ∀ (H1 : Heap) (locs1 : List Loc), sd_H D cy ad A s S2 H1 locs1 → W p l e R s m args below meth c H1 locs1 cells slots Q (F0 m (pc + 3) ls rest)) : W p l e R s m args below meth c H locs cells slots Q (F0 m pc ls (.int x2 :: .int x1 :: .ref (ad k0) :: rest)) :=
  sd_goV X (sd_runV C X hls (n := 2) (k := k0) (As := [.int x1, .int x2]) (c_X9_failIf (l := l) (b0 := b0) hk0 h) (sd_goodV hlink sd_w12_21 sd_w12_22 sd_w1_15 sd_w12_23) (ci := 9) rfl (by rw [hk0]; decide) (sd_c9 hk0) (by decide +kernel) rfl hR rfl hst hdg) kk
/-! ===== SecretDays$TownReader.takeNumber(I)I ===== -/
def f_X9_takeNumber_b38 (k0 : Nat) (w1 : Int32) (S : sd_St) : Option (Int32 × sd_St) := sd_cl (f_X9_failIf k0 w1 (4 : Int32) S) (fun _ S_1 => sd_nm ((S_1.1 (k0 + 12) 6)) (fun v_3 => sd_cl (f_X7_step (k0 + 12) S_1) (fun _ S_4 => (some (v_3, S_4)))))
set_option maxHeartbeats 4000000 in
set_option maxRecDepth 100000 in
theorem t_X9_takeNumber_b38 (C : sd_C RX9 cX9_takeNumber 3 (some .int) D cy ad A b0 p s m args meth c) {k0 : Nat} (hk0 : sd_kd k0 = 9) {r : Int32} {S' : sd_St} : ∀ (w1 : Int32) (S : sd_St) (H : Heap) (locs : List Loc) (ls : Array Slot), f_X9_takeNumber_b38 k0 w1 S = some (r, S') → sd_H D cy ad A s S H locs → lv_has ls 3 [(0, .ref (ad k0))] → W p l e (sd_rm 3) s m args below meth c H locs 0 0 (MQ below (sd_Qi D cy ad A r S') args s 0 0 A) (F0 m 38 ls [.int w1, .ref (ad k0)]) := by
  obtain ⟨hx, hb, -, hml, hown, hts, -, hG⟩ := id C
  intro w1 S H locs ls h X hl
  unfold f_X9_takeNumber_b38 at h
  refine lv_iconst (v := (4 : Int32)) hx hb dX9_takeNumber_38 (by decide) ?_
  obtain ⟨r_2, S_1, er_2, h⟩ := sd_cl_some h
  refine k_X9_failIf C X hl.1 hk0 er_2 sd_w12_20 (by decide) (Nat.le_of_ble_eq_true rfl) dX9_takeNumber_39 (fun H locs X => ?_)
  refine lv_aload_n hx hb dX9_takeNumber_42 rfl (lv_at hl 0 rfl) ?_
  refine sd_g9_1 (k := k0) C X hk0 sd_w3_14 dX9_takeNumber_43 ?_
  refine sd_g7_6 C X (sd_k9_12 hk0) sd_w13_6 dX9_takeNumber_46 ?_
  obtain ⟨v_3, e_3, h⟩ := sd_nm_some h
  refine sd_nmi e_3 ?_
  refine lv_istore_n (lv' := [(2, .int v_3), (0, .ref (ad k0))]) hx hb dX9_takeNumber_49 rfl hl (by decide) rfl (fun ls hl => ?_)
  refine lv_aload_n hx hb dX9_takeNumber_50 rfl (lv_at hl 1 rfl) ?_
  refine sd_g9_1 (k := k0) C X hk0 sd_w3_14 dX9_takeNumber_51 ?_
  obtain ⟨r_5, S_4, er_5, h⟩ := sd_cl_some h
  refine k_X7_step C X hl.1 (sd_k9_12 hk0) er_5 sd_w13_1 (by decide) (Nat.le_of_ble_eq_true rfl) dX9_takeNumber_54 (fun H locs X => ?_)
  refine lv_iload_n hx hb dX9_takeNumber_57 rfl (lv_at hl 0 rfl) ?_
  cases h
  exact sd_iret C X dX9_takeNumber_58
def f_X9_takeNumber_b17 (k0 : Nat) (x1 : Int32) (w1 : Int32) (S : sd_St) : Option (Int32 × sd_St) := sd_cl (f_X9_failIf k0 w1 (1 : Int32) S) (fun _ S_6 => (if (S_6.1 (k0 + 12) 6) ≤ x1 then f_X9_takeNumber_b38 k0 (0 : Int32) S_6 else f_X9_takeNumber_b38 k0 (1 : Int32) S_6))
set_option maxHeartbeats 4000000 in
set_option maxRecDepth 100000 in
theorem t_X9_takeNumber_b17 (C : sd_C RX9 cX9_takeNumber 3 (some .int) D cy ad A b0 p s m args meth c) {k0 : Nat} (hk0 : sd_kd k0 = 9) {r : Int32} {S' : sd_St} : ∀ (x1 : Int32) (w1 : Int32) (S : sd_St) (H : Heap) (locs : List Loc) (ls : Array Slot), f_X9_takeNumber_b17 k0 x1 w1 S = some (r, S') → sd_H D cy ad A s S H locs → lv_has ls 3 [(0, .ref (ad k0)), (1, .int x1)] → W p l e (sd_rm 3) s m args below meth c H locs 0 0 (MQ below (sd_Qi D cy ad A r S') args s 0 0 A) (F0 m 17 ls [.int w1, .ref (ad k0)]) := by
  obtain ⟨hx, hb, -, hml, hown, hts, -, hG⟩ := id C
  intro x1 w1 S H locs ls h X hl
  unfold f_X9_takeNumber_b17 at h
  refine lv_iconst (v := (1 : Int32)) hx hb dX9_takeNumber_17 (by decide) ?_
  obtain ⟨r_7, S_6, er_7, h⟩ := sd_cl_some h
  refine k_X9_failIf C X hl.1 hk0 er_7 sd_w12_20 (by decide) (Nat.le_of_ble_eq_true rfl) dX9_takeNumber_18 (fun H locs X => ?_)
  refine lv_aload_n hx hb dX9_takeNumber_21 rfl (lv_at hl 0 rfl) ?_
  refine lv_aload_n hx hb dX9_takeNumber_22 rfl (lv_at hl 0 rfl) ?_
  refine sd_g9_1 (k := k0) C X hk0 sd_w3_14 dX9_takeNumber_23 ?_
  refine sd_g7_6 C X (sd_k9_12 hk0) sd_w13_6 dX9_takeNumber_26 ?_
  refine lv_iload_n hx hb dX9_takeNumber_29 rfl (lv_at hl 1 rfl) ?_
  refine lv_icmp_le (tgt := 37) hx hb dX9_takeNumber_30 (by decide) (fun c_8 => ?_) (fun c_8 => ?_)
  · have h := sd_ifp c_8 h
    refine lv_iconst (v := (0 : Int32)) hx hb dX9_takeNumber_37 (by decide) ?_
    exact t_X9_takeNumber_b38 C hk0 (0 : Int32) S_6 _ _ _ h X (lv_sub hl [0] rfl)
  · have h := sd_ifn c_8 h
    refine lv_iconst (v := (1 : Int32)) hx hb dX9_takeNumber_33 (by decide) ?_
    refine lv_goto (tgt := 38) hx hb dX9_takeNumber_34 (by decide) ?_
    exact t_X9_takeNumber_b38 C hk0 (1 : Int32) S_6 _ _ _ h X (lv_sub hl [0] rfl)
def f_X9_takeNumber (k0 : Nat) (x1 : Int32) (S : sd_St) : Option (Int32 × sd_St) := (if (S.1 (k0 + 12) 3) = (2 : Int32) then f_X9_takeNumber_b17 k0 x1 (0 : Int32) S else f_X9_takeNumber_b17 k0 x1 (1 : Int32) S)
set_option maxHeartbeats 4000000 in
set_option maxRecDepth 100000 in
theorem c_X9_takeNumber {k0 : Nat} {x1 : Int32} (hk0 : sd_kd k0 = 9) {S S' : sd_St} {r : Int32} (h : f_X9_takeNumber k0 x1 S = some (r, S')) : Met l yX9_takeNumber (Cond.code yX9_takeNumber cX9_takeNumber 3 (some .int) :: sd_wl) (sd_rm 3) (sd_P D cy ad A b0 [.ref (ad k0), .int x1] S) (sd_Qi D cy ad A r S') 0 0 A := by
  refine sd_met (by decide) (Nat.le_of_ble_eq_true rfl) (fun p e s m args below meth c ls C X hl => ?_)
  obtain ⟨hx, hb, -, hml, hown, hts, -, hG⟩ := id C
  replace C : sd_C RX9 cX9_takeNumber 3 (some .int) D cy ad A b0 p s m args meth c := C
  replace hl : lv_has ls 3 [(0, .ref (ad k0)), (1, .int x1)] := hl
  unfold f_X9_takeNumber at h
  refine lv_aload_n hx hb dX9_takeNumber_0 rfl (lv_at hl 0 rfl) ?_
  refine lv_aload_n hx hb dX9_takeNumber_1 rfl (lv_at hl 0 rfl) ?_
  refine sd_g9_1 (k := k0) C X hk0 sd_w3_14 dX9_takeNumber_2 ?_
  refine sd_g7_3 C X (sd_k9_12 hk0) sd_w10_15 dX9_takeNumber_5 ?_
  refine lv_iconst (v := (2 : Int32)) hx hb dX9_takeNumber_8 (by decide) ?_
  refine lv_icmp_eq (tgt := 16) hx hb dX9_takeNumber_9 (by decide) (fun c_9 => ?_) (fun c_9 => ?_)
  · have h := sd_ifp c_9 h
    refine lv_iconst (v := (0 : Int32)) hx hb dX9_takeNumber_16 (by decide) ?_
    exact t_X9_takeNumber_b17 C hk0 x1 (0 : Int32) S _ _ _ h X (lv_sub hl [0, 1] rfl)
  · have h := sd_ifn c_9 h
    refine lv_iconst (v := (1 : Int32)) hx hb dX9_takeNumber_12 (by decide) ?_
    refine lv_goto (tgt := 17) hx hb dX9_takeNumber_13 (by decide) ?_
    exact t_X9_takeNumber_b17 C hk0 x1 (1 : Int32) S _ _ _ h X (lv_sub hl [0, 1] rfl)
theorem k_X9_takeNumber (C : sd_C own cc nL rt D cy ad A b0 p s m args meth c) (X : sd_H D cy ad A s S H locs) (hls : ls.size = nL) {k0 : Nat} {x1 : Int32} {S2 : sd_St} {r : Int32} (hk0 : sd_kd k0 = 9) (h : f_X9_takeNumber k0 x1 S = some (r, S2)) (hlink : Cond.methodLink own index yX9_takeNumber ∈ sd_wl) (hR : 4 ≤ R.frames ∧ 142 ≤ R.locals ∧ cells ≤ R.cells ∧ slots ≤ R.slots) (hst : (rest.map fun v => v.category).sum ≤ 8) (hdg : decode cc pc = .ok (.invokevirtual index, 3)) (kk : ∀ (H1 : Heap) (locs1 : List Loc), sd_H D cy ad A s S2 H1 locs1 → W p l e R s m args below meth c H1 locs1 cells slots Q (F0 m (pc + 3) ls (.int r :: rest))) : W p l e R s m args below meth c H locs cells slots Q (F0 m pc ls (.int x1 :: .ref (ad k0) :: rest)) :=
  sd_goI X (sd_runV C X hls (n := 1) (k := k0) (As := [.int x1]) (c_X9_takeNumber (l := l) (b0 := b0) hk0 h) (sd_goodV hlink sd_w13_3 sd_w13_4 sd_w1_15 sd_w13_5) (ci := 9) rfl (by rw [hk0]; decide) (sd_c9 hk0) (by decide +kernel) rfl hR rfl hst hdg) kk
/-! ===== SecretDays$TownReader.readLeap()V ===== -/
def f_X9_readLeap (k0 : Nat) (S : sd_St) : Option (Unit × sd_St) := sd_cl (f_X9_failIf k0 (S.1 k0 4) (3 : Int32) S) (fun _ S_1 => sd_nm (sd_I S_1 k0 4 (1 : Int32)) (fun S_3 => sd_cl (f_X7_step (k0 + 12) S_3) (fun _ S_4 => sd_cl (f_X9_takeNumber k0 (3 : Int32) S_4) (fun r_7 S_6 => sd_nm (sd_I S_6 (k0 + 1) 14 r_7) (fun S_8 => (some ((), S_8)))))))
set_option maxHeartbeats 4000000 in
set_option maxRecDepth 100000 in
theorem c_X9_readLeap {k0 : Nat} (hk0 : sd_kd k0 = 9) {S S' : sd_St} (h : f_X9_readLeap k0 S = some ((), S')) : Met l yX9_readLeap (Cond.code yX9_readLeap cX9_readLeap 1 none :: sd_wl) (sd_rm 4) (sd_P D cy ad A b0 [.ref (ad k0)] S) (sd_Qv D cy ad A S') 0 0 A := by
  refine sd_met (by decide) (Nat.le_of_ble_eq_true rfl) (fun p e s m args below meth c ls C X hl => ?_)
  obtain ⟨hx, hb, -, hml, hown, hts, -, hG⟩ := id C
  replace C : sd_C RX9 cX9_readLeap 1 none D cy ad A b0 p s m args meth c := C
  replace hl : lv_has ls 1 [(0, .ref (ad k0))] := hl
  unfold f_X9_readLeap at h
  refine lv_aload_n hx hb dX9_readLeap_0 rfl (lv_at hl 0 rfl) ?_
  refine lv_aload_n hx hb dX9_readLeap_1 rfl (lv_at hl 0 rfl) ?_
  refine sd_g9_4 C X hk0 sd_w10_13 dX9_readLeap_2 ?_
  refine lv_iconst (v := (3 : Int32)) hx hb dX9_readLeap_5 (by decide) ?_
  obtain ⟨r_2, S_1, er_2, h⟩ := sd_cl_some h
  refine k_X9_failIf C X hl.1 hk0 er_2 sd_w12_20 (by decide) (Nat.le_of_ble_eq_true rfl) dX9_readLeap_6 (fun H locs X => ?_)
  refine lv_aload_n hx hb dX9_readLeap_9 rfl (lv_at hl 0 rfl) ?_
  refine lv_iconst (v := (1 : Int32)) hx hb dX9_readLeap_10 (by decide) ?_
  obtain ⟨S_3, eS_3, h⟩ := sd_nm_some h
  refine sd_p9_4 C X (by decide) hk0 sd_w10_13 dX9_readLeap_11 (fun H locs X => ?_)
  rw [← eS_3] at X
  refine lv_aload_n hx hb dX9_readLeap_14 rfl (lv_at hl 0 rfl) ?_
  refine sd_g9_1 (k := k0) C X hk0 sd_w3_14 dX9_readLeap_15 ?_
  obtain ⟨r_5, S_4, er_5, h⟩ := sd_cl_some h
  refine k_X7_step C X hl.1 (sd_k9_12 hk0) er_5 sd_w13_1 (by decide) (Nat.le_of_ble_eq_true rfl) dX9_readLeap_18 (fun H locs X => ?_)
  refine lv_aload_n hx hb dX9_readLeap_21 rfl (lv_at hl 0 rfl) ?_
  refine sd_g9_0 (k := k0) C X hk0 sd_w3_10 dX9_readLeap_22 ?_
  refine lv_aload_n hx hb dX9_readLeap_25 rfl (lv_at hl 0 rfl) ?_
  refine lv_iconst (v := (3 : Int32)) hx hb dX9_readLeap_26 (by decide) ?_
  obtain ⟨r_7, S_6, er_7, h⟩ := sd_cl_some h
  refine k_X9_takeNumber C X hl.1 hk0 er_7 sd_w13_2 (by decide) (Nat.le_of_ble_eq_true rfl) dX9_readLeap_27 (fun H locs X => ?_)
  obtain ⟨S_8, eS_8, h⟩ := sd_nm_some h
  refine sd_p8_14 C X (sd_k9_1 hk0) sd_w12_19 dX9_readLeap_30 (fun H locs X => ?_)
  rw [← eS_8] at X
  cases h
  exact sd_vret C X dX9_readLeap_33
theorem k_X9_readLeap (C : sd_C own cc nL rt D cy ad A b0 p s m args meth c) (X : sd_H D cy ad A s S H locs) (hls : ls.size = nL) {k0 : Nat} {S2 : sd_St} (hk0 : sd_kd k0 = 9) (h : f_X9_readLeap k0 S = some ((), S2)) (hlink : Cond.methodLink own index yX9_readLeap ∈ sd_wl) (hR : 5 ≤ R.frames ∧ 180 ≤ R.locals ∧ cells ≤ R.cells ∧ slots ≤ R.slots) (hst : (rest.map fun v => v.category).sum ≤ 8) (hdg : decode cc pc = .ok (.invokevirtual index, 3)) (kk : ∀ (H1 : Heap) (locs1 : List Loc), sd_H D cy ad A s S2 H1 locs1 → W p l e R s m args below meth c H1 locs1 cells slots Q (F0 m (pc + 3) ls rest)) : W p l e R s m args below meth c H locs cells slots Q (F0 m pc ls (.ref (ad k0) :: rest)) :=
  sd_goV X (sd_runV C X hls (n := 0) (k := k0) (As := []) (c_X9_readLeap (l := l) (b0 := b0) hk0 h) (sd_goodV hlink sd_w12_16 sd_w12_17 sd_w1_15 sd_w12_18) (ci := 9) rfl (by rw [hk0]; decide) (sd_c9 hk0) (by decide +kernel) rfl hR rfl hst hdg) kk
/-! ===== SecretDays$TownReader.placeOf(J[JI)I ===== -/
def f_X9_placeOf_l3 (k2 : Nat) : Nat → Int64 → Int32 → Int32 → sd_St → Option (Int32 × sd_St)
  | 0 => fun _ _ _ _ => none
  | n + 1 => fun x0 x3 x4 S => (if x3 ≤ x4 then (some ((-1 : Int32), S)) else (if (Int32.ofNat (sd_al k2)) ≤ x4 then (some ((-1 : Int32), S)) else sd_ldl S k2 x4 (fun v_3 => (if (lg_cmp v_3 x0) = 0 then (some (x4, S)) else (f_X9_placeOf_l3 k2 n) x0 x3 (x4 + (1 : Int32)) S))))
set_option maxHeartbeats 4000000 in
set_option maxRecDepth 100000 in
theorem t_X9_placeOf_l3 (C : sd_C RX9 cX9_placeOf 5 (some .int) D cy ad A b0 p s m args meth c) {k2 : Nat} (hk2 : sd_kd k2 = 14) {r : Int32} {S' : sd_St} : ∀ (n : Nat) (x0 : Int64) (x3 : Int32) (x4 : Int32) (S : sd_St) (H : Heap) (locs : List Loc) (ls : Array Slot), f_X9_placeOf_l3 k2 n x0 x3 x4 S = some (r, S') → sd_H D cy ad A s S H locs → lv_has ls 5 [(2, .ref (ad k2)), (0, .long x0), (3, .int x3), (4, .int x4)] → W p l e (sd_rm 0) s m args below meth c H locs 0 0 (MQ below (sd_Qi D cy ad A r S') args s 0 0 A) (F0 m 3 ls []) := by
  obtain ⟨hx, hb, -, hml, hown, hts, -, hG⟩ := id C
  intro n
  induction n with
  | zero => intro x0 x3 x4 S H locs ls h; cases h
  | succ n ih =>
    intro x0 x3 x4 S H locs ls h X hl
    unfold f_X9_placeOf_l3 at h
    refine lv_iload hx hb dX9_placeOf_3 (lv_at hl 3 rfl) ?_
    refine lv_iload_n hx hb dX9_placeOf_5 rfl (lv_at hl 2 rfl) ?_
    refine lv_icmp_ge (tgt := 34) hx hb dX9_placeOf_6 (by decide) (fun c_1 => ?_) (fun c_1 => ?_)
    · have h := sd_ifp c_1 h
      refine lv_iconst (v := (-1 : Int32)) hx hb dX9_placeOf_34 (by decide) ?_
      cases h
      exact sd_iret C X dX9_placeOf_35
    · have h := sd_ifn c_1 h
      refine lv_iload hx hb dX9_placeOf_9 (lv_at hl 3 rfl) ?_
      refine lv_aload_n hx hb dX9_placeOf_11 rfl (lv_at hl 0 rfl) ?_
      refine sd_lalen C X hk2 dX9_placeOf_12 ?_
      refine lv_icmp_ge (tgt := 34) hx hb dX9_placeOf_13 (by decide) (fun c_2 => ?_) (fun c_2 => ?_)
      · have h := sd_ifp c_2 h
        refine lv_iconst (v := (-1 : Int32)) hx hb dX9_placeOf_34 (by decide) ?_
        cases h
        exact sd_iret C X dX9_placeOf_35
      · have h := sd_ifn c_2 h
        refine lv_aload_n hx hb dX9_placeOf_16 rfl (lv_at hl 0 rfl) ?_
        refine lv_iload hx hb dX9_placeOf_17 (lv_at hl 3 rfl) ?_
        obtain ⟨b_3, v_3, e_3, h⟩ := sd_ldl_some h
        refine sd_lald C X hk2 b_3 dX9_placeOf_19 (sd_nml e_3 ?_)
        refine lv_lload_n hx hb dX9_placeOf_20 rfl (lv_at hl 1 rfl) ?_
        refine W.lcmp hx hb dX9_placeOf_21 ?_
        refine lv_if_ne (tgt := 28) hx hb dX9_placeOf_22 (by decide) (fun c_4 => ?_) (fun c_4 => ?_)
        · have h := sd_ifn c_4 h
          refine lv_iinc (v := (x4 + (1 : Int32))) (lv' := [(4, .int (x4 + (1 : Int32))), (2, .ref (ad k2)), (0, .long x0), (3, .int x3)]) hx hb dX9_placeOf_28 hl (k := 3) rfl rfl (by decide) rfl (fun ls hl => ?_)
          refine lv_goto (tgt := 3) hx hb dX9_placeOf_31 (by decide) ?_
          exact ih x0 x3 (x4 + (1 : Int32)) S _ _ _ h X (lv_sub hl [1, 2, 3, 0] rfl)
        · have h := sd_ifp c_4 h
          refine lv_iload hx hb dX9_placeOf_25 (lv_at hl 3 rfl) ?_
          cases h
          exact sd_iret C X dX9_placeOf_27
def f_X9_placeOf (k2 : Nat) (x0 : Int64) (x3 : Int32) (S : sd_St) : Option (Int32 × sd_St) := f_X9_placeOf_l3 k2 sd_FU x0 x3 (0 : Int32) S
set_option maxHeartbeats 4000000 in
set_option maxRecDepth 100000 in
theorem c_X9_placeOf {k2 : Nat} {x0 : Int64} {x3 : Int32} (hk2 : sd_kd k2 = 14) {S S' : sd_St} {r : Int32} (h : f_X9_placeOf k2 x0 x3 S = some (r, S')) : Met l yX9_placeOf (Cond.code yX9_placeOf cX9_placeOf 5 (some .int) :: sd_wl) (sd_rm 0) (sd_P D cy ad A b0 [.long x0, .ref (ad k2), .int x3] S) (sd_Qi D cy ad A r S') 0 0 A := by
  refine sd_met (by decide) (Nat.le_of_ble_eq_true rfl) (fun p e s m args below meth c ls C X hl => ?_)
  obtain ⟨hx, hb, -, hml, hown, hts, -, hG⟩ := id C
  replace C : sd_C RX9 cX9_placeOf 5 (some .int) D cy ad A b0 p s m args meth c := C
  replace hl : lv_has ls 5 [(0, .long x0), (2, .ref (ad k2)), (3, .int x3)] := hl
  unfold f_X9_placeOf at h
  refine lv_iconst (v := (0 : Int32)) hx hb dX9_placeOf_0 (by decide) ?_
  refine lv_istore (lv' := [(4, .int (0 : Int32)), (0, .long x0), (2, .ref (ad k2)), (3, .int x3)]) hx hb dX9_placeOf_1 hl (by decide) rfl (fun ls hl => ?_)
  exact t_X9_placeOf_l3 C hk2 sd_FU x0 x3 (0 : Int32) S _ _ _ h X (lv_sub hl [2, 1, 3, 0] rfl)
theorem k_X9_placeOf (C : sd_C own cc nL rt D cy ad A b0 p s m args meth c) (X : sd_H D cy ad A s S H locs) (hls : ls.size = nL) {k2 : Nat} {x0 : Int64} {x3 : Int32} {S2 : sd_St} {r : Int32} (hk2 : sd_kd k2 = 14) (h : f_X9_placeOf k2 x0 x3 S = some (r, S2)) (hlink : Cond.methodLink own index yX9_placeOf ∈ sd_wl) (hR : 1 ≤ R.frames ∧ 24 ≤ R.locals ∧ cells ≤ R.cells ∧ slots ≤ R.slots) (hst : (rest.map fun v => v.category).sum ≤ 8) (hdg : decode cc pc = .ok (.invokestatic index, 3)) (kk : ∀ (H1 : Heap) (locs1 : List Loc), sd_H D cy ad A s S2 H1 locs1 → W p l e R s m args below meth c H1 locs1 cells slots Q (F0 m (pc + 3) ls (.int r :: rest))) : W p l e R s m args below meth c H locs cells slots Q (F0 m pc ls (.int x3 :: .ref (ad k2) :: .long x0 :: rest)) :=
  sd_goI X (sd_runJ C X hls (n := 3) (As := [.long x0, .ref (ad k2), .int x3]) (c_X9_placeOf (l := l) (b0 := b0) hk2 h) hlink sd_w14_1 sd_w1_15 sd_w14_2 (by decide +kernel) rfl hR rfl hst hdg) kk
/-! ===== SecretDays$TownReader.placeOf(J[JI)I ===== -/
def f_X9_placeOf_s_l3 : Nat → Int64 → Int32 → Int32 → sd_St → Option (Int32 × sd_St)
  | 0 => fun _ _ _ _ => none
  | n + 1 => fun x0 x3 x4 S => (if x3 ≤ x4 then (some ((-1 : Int32), S)) else (if (14 : Int32) ≤ x4 then (some ((-1 : Int32), S)) else sd_ld0 x4 (fun v_3 => (if (lg_cmp v_3 x0) = 0 then (some (x4, S)) else (f_X9_placeOf_s_l3 n) x0 x3 (x4 + (1 : Int32)) S))))
set_option maxHeartbeats 4000000 in
set_option maxRecDepth 100000 in
theorem t_X9_placeOf_s_l3 (C : sd_C RX9 cX9_placeOf 5 (some .int) D cy ad A b0 p s m args meth c) {r : Int32} {S' : sd_St} : ∀ (n : Nat) (x0 : Int64) (x3 : Int32) (x4 : Int32) (S : sd_St) (H : Heap) (locs : List Loc) (ls : Array Slot), f_X9_placeOf_s_l3 n x0 x3 x4 S = some (r, S') → sd_H D cy ad A s S H locs → lv_has ls 5 [(2, .ref b0), (0, .long x0), (3, .int x3), (4, .int x4)] → W p l e (sd_rm 0) s m args below meth c H locs 0 0 (MQ below (sd_Qi D cy ad A r S') args s 0 0 A) (F0 m 3 ls []) := by
  obtain ⟨hx, hb, -, hml, hown, hts, -, hG⟩ := id C
  intro n
  induction n with
  | zero => intro x0 x3 x4 S H locs ls h; cases h
  | succ n ih =>
    intro x0 x3 x4 S H locs ls h X hl
    unfold f_X9_placeOf_s_l3 at h
    refine lv_iload hx hb dX9_placeOf_3 (lv_at hl 3 rfl) ?_
    refine lv_iload_n hx hb dX9_placeOf_5 rfl (lv_at hl 2 rfl) ?_
    refine lv_icmp_ge (tgt := 34) hx hb dX9_placeOf_6 (by decide) (fun c_1 => ?_) (fun c_1 => ?_)
    · have h := sd_ifp c_1 h
      refine lv_iconst (v := (-1 : Int32)) hx hb dX9_placeOf_34 (by decide) ?_
      cases h
      exact sd_iret C X dX9_placeOf_35
    · have h := sd_ifn c_1 h
      refine lv_iload hx hb dX9_placeOf_9 (lv_at hl 3 rfl) ?_
      refine lv_aload_n hx hb dX9_placeOf_11 rfl (lv_at hl 0 rfl) ?_
      refine sd_lalen0 C X dX9_placeOf_12 ?_
      refine lv_icmp_ge (tgt := 34) hx hb dX9_placeOf_13 (by decide) (fun c_2 => ?_) (fun c_2 => ?_)
      · have h := sd_ifp c_2 h
        refine lv_iconst (v := (-1 : Int32)) hx hb dX9_placeOf_34 (by decide) ?_
        cases h
        exact sd_iret C X dX9_placeOf_35
      · have h := sd_ifn c_2 h
        refine lv_aload_n hx hb dX9_placeOf_16 rfl (lv_at hl 0 rfl) ?_
        refine lv_iload hx hb dX9_placeOf_17 (lv_at hl 3 rfl) ?_
        obtain ⟨b_3, v_3, e_3, h⟩ := sd_ld0_some h
        refine sd_lald0 C X b_3 dX9_placeOf_19 (sd_nml e_3 ?_)
        refine lv_lload_n hx hb dX9_placeOf_20 rfl (lv_at hl 1 rfl) ?_
        refine W.lcmp hx hb dX9_placeOf_21 ?_
        refine lv_if_ne (tgt := 28) hx hb dX9_placeOf_22 (by decide) (fun c_4 => ?_) (fun c_4 => ?_)
        · have h := sd_ifn c_4 h
          refine lv_iinc (v := (x4 + (1 : Int32))) (lv' := [(4, .int (x4 + (1 : Int32))), (2, .ref b0), (0, .long x0), (3, .int x3)]) hx hb dX9_placeOf_28 hl (k := 3) rfl rfl (by decide) rfl (fun ls hl => ?_)
          refine lv_goto (tgt := 3) hx hb dX9_placeOf_31 (by decide) ?_
          exact ih x0 x3 (x4 + (1 : Int32)) S _ _ _ h X (lv_sub hl [1, 2, 3, 0] rfl)
        · have h := sd_ifp c_4 h
          refine lv_iload hx hb dX9_placeOf_25 (lv_at hl 3 rfl) ?_
          cases h
          exact sd_iret C X dX9_placeOf_27
def f_X9_placeOf_s (x0 : Int64) (x3 : Int32) (S : sd_St) : Option (Int32 × sd_St) := f_X9_placeOf_s_l3 sd_FU x0 x3 (0 : Int32) S
set_option maxHeartbeats 4000000 in
set_option maxRecDepth 100000 in
theorem c_X9_placeOf_s {x0 : Int64} {x3 : Int32} {S S' : sd_St} {r : Int32} (h : f_X9_placeOf_s x0 x3 S = some (r, S')) : Met l yX9_placeOf (Cond.code yX9_placeOf cX9_placeOf 5 (some .int) :: sd_wl) (sd_rm 0) (sd_P D cy ad A b0 [.long x0, .ref b0, .int x3] S) (sd_Qi D cy ad A r S') 0 0 A := by
  refine sd_met (by decide) (Nat.le_of_ble_eq_true rfl) (fun p e s m args below meth c ls C X hl => ?_)
  obtain ⟨hx, hb, -, hml, hown, hts, -, hG⟩ := id C
  replace C : sd_C RX9 cX9_placeOf 5 (some .int) D cy ad A b0 p s m args meth c := C
  replace hl : lv_has ls 5 [(0, .long x0), (2, .ref b0), (3, .int x3)] := hl
  unfold f_X9_placeOf_s at h
  refine lv_iconst (v := (0 : Int32)) hx hb dX9_placeOf_0 (by decide) ?_
  refine lv_istore (lv' := [(4, .int (0 : Int32)), (0, .long x0), (2, .ref b0), (3, .int x3)]) hx hb dX9_placeOf_1 hl (by decide) rfl (fun ls hl => ?_)
  exact t_X9_placeOf_s_l3 C sd_FU x0 x3 (0 : Int32) S _ _ _ h X (lv_sub hl [2, 1, 3, 0] rfl)
theorem k_X9_placeOf_s (C : sd_C own cc nL rt D cy ad A b0 p s m args meth c) (X : sd_H D cy ad A s S H locs) (hls : ls.size = nL) {x0 : Int64} {x3 : Int32} {S2 : sd_St} {r : Int32} (h : f_X9_placeOf_s x0 x3 S = some (r, S2)) (hlink : Cond.methodLink own index yX9_placeOf ∈ sd_wl) (hR : 1 ≤ R.frames ∧ 24 ≤ R.locals ∧ cells ≤ R.cells ∧ slots ≤ R.slots) (hst : (rest.map fun v => v.category).sum ≤ 8) (hdg : decode cc pc = .ok (.invokestatic index, 3)) (kk : ∀ (H1 : Heap) (locs1 : List Loc), sd_H D cy ad A s S2 H1 locs1 → W p l e R s m args below meth c H1 locs1 cells slots Q (F0 m (pc + 3) ls (.int r :: rest))) : W p l e R s m args below meth c H locs cells slots Q (F0 m pc ls (.int x3 :: .ref b0 :: .long x0 :: rest)) :=
  sd_goI X (sd_runJ C X hls (n := 3) (As := [.long x0, .ref b0, .int x3]) (c_X9_placeOf_s (l := l) (b0 := b0) h) hlink sd_w14_1 sd_w1_15 sd_w14_2 (by decide +kernel) rfl hR rfl hst hdg) kk
/-! ===== SecretDays$TownReader.isAtName()Z ===== -/
def f_X9_isAtName (k0 : Nat) (S : sd_St) : Option (Int32 × sd_St) := (if (S.1 (k0 + 12) 3) = (1 : Int32) then sd_cl (f_X9_placeOf_s (S.2 (k0 + 12) 5) (14 : Int32) S) (fun r_3 S_2 => (if r_3 = (-1 : Int32) then (some ((1 : Int32), S_2)) else (some ((0 : Int32), S_2)))) else (some ((0 : Int32), S)))
set_option maxHeartbeats 4000000 in
set_option maxRecDepth 100000 in
theorem c_X9_isAtName {k0 : Nat} (hk0 : sd_kd k0 = 9) {S S' : sd_St} {r : Int32} (h : f_X9_isAtName k0 S = some (r, S')) : Met l yX9_isAtName (Cond.code yX9_isAtName cX9_isAtName 1 (some .boolean) :: sd_wl) (sd_rm 1) (sd_P D cy ad A b0 [.ref (ad k0)] S) (sd_Qi D cy ad A r S') 0 0 A := by
  refine sd_met (by decide) (Nat.le_of_ble_eq_true rfl) (fun p e s m args below meth c ls C X hl => ?_)
  obtain ⟨hx, hb, -, hml, hown, hts, -, hG⟩ := id C
  replace C : sd_C RX9 cX9_isAtName 1 (some .boolean) D cy ad A b0 p s m args meth c := C
  replace hl : lv_has ls 1 [(0, .ref (ad k0))] := hl
  unfold f_X9_isAtName at h
  refine lv_aload_n hx hb dX9_isAtName_0 rfl (lv_at hl 0 rfl) ?_
  refine sd_g9_1 (k := k0) C X hk0 sd_w3_14 dX9_isAtName_1 ?_
  refine sd_g7_3 C X (sd_k9_12 hk0) sd_w10_15 dX9_isAtName_4 ?_
  refine lv_iconst (v := (1 : Int32)) hx hb dX9_isAtName_7 (by decide) ?_
  refine lv_icmp_ne (tgt := 36) hx hb dX9_isAtName_8 (by decide) (fun c_1 => ?_) (fun c_1 => ?_)
  · have h := sd_ifn c_1 h
    refine lv_iconst (v := (0 : Int32)) hx hb dX9_isAtName_36 (by decide) ?_
    cases h
    exact sd_zret C X (by decide) dX9_isAtName_37
  · have h := sd_ifp c_1 h
    refine lv_aload_n hx hb dX9_isAtName_11 rfl (lv_at hl 0 rfl) ?_
    refine sd_g9_1 (k := k0) C X hk0 sd_w3_14 dX9_isAtName_12 ?_
    refine sd_g7_5 C X (sd_k9_12 hk0) sd_w13_17 dX9_isAtName_15 ?_
    refine sd_gets C X sd_w13_23 dX9_isAtName_18 ?_
    refine sd_gets C X sd_w13_23 dX9_isAtName_21 ?_
    refine sd_lalen0 C X dX9_isAtName_24 ?_
    obtain ⟨r_3, S_2, er_3, h⟩ := sd_cl_some h
    refine k_X9_placeOf_s C X hl.1 er_3 sd_w14_0 (by decide) (Nat.le_of_ble_eq_true rfl) dX9_isAtName_25 (fun H locs X => ?_)
    refine lv_iconst (v := (-1 : Int32)) hx hb dX9_isAtName_28 (by decide) ?_
    refine lv_icmp_ne (tgt := 36) hx hb dX9_isAtName_29 (by decide) (fun c_4 => ?_) (fun c_4 => ?_)
    · have h := sd_ifn c_4 h
      refine lv_iconst (v := (0 : Int32)) hx hb dX9_isAtName_36 (by decide) ?_
      cases h
      exact sd_zret C X (by decide) dX9_isAtName_37
    · have h := sd_ifp c_4 h
      refine lv_iconst (v := (1 : Int32)) hx hb dX9_isAtName_32 (by decide) ?_
      refine lv_goto (tgt := 37) hx hb dX9_isAtName_33 (by decide) ?_
      cases h
      exact sd_zret C X (by decide) dX9_isAtName_37
theorem k_X9_isAtName (C : sd_C own cc nL rt D cy ad A b0 p s m args meth c) (X : sd_H D cy ad A s S H locs) (hls : ls.size = nL) {k0 : Nat} {S2 : sd_St} {r : Int32} (hk0 : sd_kd k0 = 9) (h : f_X9_isAtName k0 S = some (r, S2)) (hlink : Cond.methodLink own index yX9_isAtName ∈ sd_wl) (hR : 2 ≤ R.frames ∧ 60 ≤ R.locals ∧ cells ≤ R.cells ∧ slots ≤ R.slots) (hst : (rest.map fun v => v.category).sum ≤ 8) (hdg : decode cc pc = .ok (.invokevirtual index, 3)) (kk : ∀ (H1 : Heap) (locs1 : List Loc), sd_H D cy ad A s S2 H1 locs1 → W p l e R s m args below meth c H1 locs1 cells slots Q (F0 m (pc + 3) ls (.int r :: rest))) : W p l e R s m args below meth c H locs cells slots Q (F0 m pc ls (.ref (ad k0) :: rest)) :=
  sd_goI X (sd_runV C X hls (n := 0) (k := k0) (As := []) (c_X9_isAtName (l := l) (b0 := b0) hk0 h) (sd_goodV hlink sd_w13_20 sd_w13_21 sd_w1_15 sd_w13_22) (ci := 9) rfl (by rw [hk0]; decide) (sd_c9 hk0) (by decide +kernel) rfl hR rfl hst hdg) kk
/-! ===== SecretDays$TownReader.takeNewName()J ===== -/
def f_X9_takeNewName_b91 (k0 : Nat) (x1 : Int64) (w1 : Int32) (S : sd_St) : Option (Int64 × sd_St) := sd_cl (f_X9_failIf k0 w1 (3 : Int32) S) (fun _ S_1 => sd_cl (f_X7_step (k0 + 12) S_1) (fun _ S_3 => (some (x1, S_3))))
set_option maxHeartbeats 4000000 in
set_option maxRecDepth 100000 in
theorem t_X9_takeNewName_b91 (C : sd_C RX9 cX9_takeNewName 5 (some .long) D cy ad A b0 p s m args meth c) {k0 : Nat} (hk0 : sd_kd k0 = 9) {r : Int64} {S' : sd_St} : ∀ (x1 : Int64) (w1 : Int32) (S : sd_St) (H : Heap) (locs : List Loc) (ls : Array Slot), f_X9_takeNewName_b91 k0 x1 w1 S = some (r, S') → sd_H D cy ad A s S H locs → lv_has ls 5 [(0, .ref (ad k0)), (1, .long x1)] → W p l e (sd_rm 3) s m args below meth c H locs 0 0 (MQ below (sd_Ql D cy ad A r S') args s 0 0 A) (F0 m 91 ls [.int w1, .ref (ad k0)]) := by
  obtain ⟨hx, hb, -, hml, hown, hts, -, hG⟩ := id C
  intro x1 w1 S H locs ls h X hl
  unfold f_X9_takeNewName_b91 at h
  refine lv_iconst (v := (3 : Int32)) hx hb dX9_takeNewName_91 (by decide) ?_
  obtain ⟨r_2, S_1, er_2, h⟩ := sd_cl_some h
  refine k_X9_failIf C X hl.1 hk0 er_2 sd_w12_20 (by decide) (Nat.le_of_ble_eq_true rfl) dX9_takeNewName_92 (fun H locs X => ?_)
  refine lv_aload_n hx hb dX9_takeNewName_95 rfl (lv_at hl 0 rfl) ?_
  refine sd_g9_1 (k := k0) C X hk0 sd_w3_14 dX9_takeNewName_96 ?_
  obtain ⟨r_4, S_3, er_4, h⟩ := sd_cl_some h
  refine k_X7_step C X hl.1 (sd_k9_12 hk0) er_4 sd_w13_1 (by decide) (Nat.le_of_ble_eq_true rfl) dX9_takeNewName_99 (fun H locs X => ?_)
  refine lv_lload_n hx hb dX9_takeNewName_102 rfl (lv_at hl 1 rfl) ?_
  cases h
  exact sd_lret C X dX9_takeNewName_103
def f_X9_takeNewName_b86 (k0 : Nat) (x1 : Int64) (S : sd_St) : Option (Int64 × sd_St) := f_X9_takeNewName_b91 k0 x1 (1 : Int32) S
set_option maxHeartbeats 4000000 in
set_option maxRecDepth 100000 in
theorem t_X9_takeNewName_b86 (C : sd_C RX9 cX9_takeNewName 5 (some .long) D cy ad A b0 p s m args meth c) {k0 : Nat} (hk0 : sd_kd k0 = 9) {r : Int64} {S' : sd_St} : ∀ (x1 : Int64) (S : sd_St) (H : Heap) (locs : List Loc) (ls : Array Slot), f_X9_takeNewName_b86 k0 x1 S = some (r, S') → sd_H D cy ad A s S H locs → lv_has ls 5 [(0, .ref (ad k0)), (1, .long x1)] → W p l e (sd_rm 3) s m args below meth c H locs 0 0 (MQ below (sd_Ql D cy ad A r S') args s 0 0 A) (F0 m 86 ls [.ref (ad k0)]) := by
  obtain ⟨hx, hb, -, hml, hown, hts, -, hG⟩ := id C
  intro x1 S H locs ls h X hl
  unfold f_X9_takeNewName_b86 at h
  refine lv_iconst (v := (1 : Int32)) hx hb dX9_takeNewName_86 (by decide) ?_
  refine lv_goto (tgt := 91) hx hb dX9_takeNewName_87 (by decide) ?_
  exact t_X9_takeNewName_b91 C hk0 x1 (1 : Int32) S _ _ _ h X (lv_sub hl [0, 1] rfl)
def f_X9_takeNewName_b74 (k0 : Nat) (x1 : Int64) (x3 : Int32) (w0 : Int32) (S : sd_St) : Option (Int64 × sd_St) := (if x3 = 0 then (if w0 = 0 then f_X9_takeNewName_b91 k0 x1 (0 : Int32) S else f_X9_takeNewName_b86 k0 x1 S) else f_X9_takeNewName_b86 k0 x1 S)
set_option maxHeartbeats 4000000 in
set_option maxRecDepth 100000 in
theorem t_X9_takeNewName_b74 (C : sd_C RX9 cX9_takeNewName 5 (some .long) D cy ad A b0 p s m args meth c) {k0 : Nat} (hk0 : sd_kd k0 = 9) {r : Int64} {S' : sd_St} : ∀ (x1 : Int64) (x3 : Int32) (w0 : Int32) (S : sd_St) (H : Heap) (locs : List Loc) (ls : Array Slot), f_X9_takeNewName_b74 k0 x1 x3 w0 S = some (r, S') → sd_H D cy ad A s S H locs → lv_has ls 5 [(0, .ref (ad k0)), (1, .long x1), (3, .int x3)] → W p l e (sd_rm 3) s m args below meth c H locs 0 0 (MQ below (sd_Ql D cy ad A r S') args s 0 0 A) (F0 m 74 ls [.int w0]) := by
  obtain ⟨hx, hb, -, hml, hown, hts, -, hG⟩ := id C
  intro x1 x3 w0 S H locs ls h X hl
  unfold f_X9_takeNewName_b74 at h
  refine lv_istore (lv' := [(4, .int w0), (0, .ref (ad k0)), (1, .long x1), (3, .int x3)]) hx hb dX9_takeNewName_74 hl (by decide) rfl (fun ls hl => ?_)
  refine lv_aload_n hx hb dX9_takeNewName_76 rfl (lv_at hl 1 rfl) ?_
  refine lv_iload_n hx hb dX9_takeNewName_77 rfl (lv_at hl 3 rfl) ?_
  refine lv_if_ne (tgt := 86) hx hb dX9_takeNewName_78 (by decide) (fun c_5 => ?_) (fun c_5 => ?_)
  · have h := sd_ifn c_5 h
    exact t_X9_takeNewName_b86 C hk0 x1 S _ _ _ h X (lv_sub hl [1, 2] rfl)
  · have h := sd_ifp c_5 h
    refine lv_iload hx hb dX9_takeNewName_81 (lv_at hl 0 rfl) ?_
    refine lv_if_eq (tgt := 90) hx hb dX9_takeNewName_83 (by decide) (fun c_6 => ?_) (fun c_6 => ?_)
    · have h := sd_ifp c_6 h
      refine lv_iconst (v := (0 : Int32)) hx hb dX9_takeNewName_90 (by decide) ?_
      exact t_X9_takeNewName_b91 C hk0 x1 (0 : Int32) S _ _ _ h X (lv_sub hl [1, 2] rfl)
    · have h := sd_ifn c_6 h
      exact t_X9_takeNewName_b86 C hk0 x1 S _ _ _ h X (lv_sub hl [1, 2] rfl)
def f_X9_takeNewName_b49 (k0 : Nat) (x1 : Int64) (w0 : Int32) (S : sd_St) : Option (Int64 × sd_St) := sd_cl (f_X9_placeOf (k0 + 15) x1 (S.1 (k0 + 1) 11) S) (fun r_8 S_7 => (if r_8 = (-1 : Int32) then f_X9_takeNewName_b74 k0 x1 w0 (0 : Int32) S_7 else f_X9_takeNewName_b74 k0 x1 w0 (1 : Int32) S_7))
set_option maxHeartbeats 4000000 in
set_option maxRecDepth 100000 in
theorem t_X9_takeNewName_b49 (C : sd_C RX9 cX9_takeNewName 5 (some .long) D cy ad A b0 p s m args meth c) {k0 : Nat} (hk0 : sd_kd k0 = 9) {r : Int64} {S' : sd_St} : ∀ (x1 : Int64) (w0 : Int32) (S : sd_St) (H : Heap) (locs : List Loc) (ls : Array Slot), f_X9_takeNewName_b49 k0 x1 w0 S = some (r, S') → sd_H D cy ad A s S H locs → lv_has ls 5 [(0, .ref (ad k0)), (1, .long x1)] → W p l e (sd_rm 3) s m args below meth c H locs 0 0 (MQ below (sd_Ql D cy ad A r S') args s 0 0 A) (F0 m 49 ls [.int w0]) := by
  obtain ⟨hx, hb, -, hml, hown, hts, -, hG⟩ := id C
  intro x1 w0 S H locs ls h X hl
  unfold f_X9_takeNewName_b49 at h
  refine lv_istore_n (lv' := [(3, .int w0), (0, .ref (ad k0)), (1, .long x1)]) hx hb dX9_takeNewName_49 rfl hl (by decide) rfl (fun ls hl => ?_)
  refine lv_lload_n hx hb dX9_takeNewName_50 rfl (lv_at hl 2 rfl) ?_
  refine lv_aload_n hx hb dX9_takeNewName_51 rfl (lv_at hl 1 rfl) ?_
  refine sd_g9_3 (k := k0) C X hk0 sd_w3_17 dX9_takeNewName_52 ?_
  refine lv_aload_n hx hb dX9_takeNewName_55 rfl (lv_at hl 1 rfl) ?_
  refine sd_g9_0 (k := k0) C X hk0 sd_w3_10 dX9_takeNewName_56 ?_
  refine sd_g8_11 C X (sd_k9_1 hk0) sd_w13_18 dX9_takeNewName_59 ?_
  obtain ⟨r_8, S_7, er_8, h⟩ := sd_cl_some h
  refine k_X9_placeOf C X hl.1 (sd_k9_15 hk0) er_8 sd_w14_0 (by decide) (Nat.le_of_ble_eq_true rfl) dX9_takeNewName_62 (fun H locs X => ?_)
  refine lv_iconst (v := (-1 : Int32)) hx hb dX9_takeNewName_65 (by decide) ?_
  refine lv_icmp_eq (tgt := 73) hx hb dX9_takeNewName_66 (by decide) (fun c_9 => ?_) (fun c_9 => ?_)
  · have h := sd_ifp c_9 h
    refine lv_iconst (v := (0 : Int32)) hx hb dX9_takeNewName_73 (by decide) ?_
    exact t_X9_takeNewName_b74 C hk0 x1 w0 (0 : Int32) S_7 _ _ _ h X (lv_sub hl [1, 2, 0] rfl)
  · have h := sd_ifn c_9 h
    refine lv_iconst (v := (1 : Int32)) hx hb dX9_takeNewName_69 (by decide) ?_
    refine lv_goto (tgt := 74) hx hb dX9_takeNewName_70 (by decide) ?_
    exact t_X9_takeNewName_b74 C hk0 x1 w0 (1 : Int32) S_7 _ _ _ h X (lv_sub hl [1, 2, 0] rfl)
def f_X9_takeNewName_b13 (k0 : Nat) (w1 : Int32) (S : sd_St) : Option (Int64 × sd_St) := sd_cl (f_X9_failIf k0 w1 (1 : Int32) S) (fun _ S_10 => sd_nm ((S_10.2 (k0 + 12) 5)) (fun v_12 => sd_cl (f_X9_placeOf (k0 + 14) v_12 (S_10.1 (k0 + 1) 0) S_10) (fun r_14 S_13 => (if r_14 = (-1 : Int32) then f_X9_takeNewName_b49 k0 v_12 (0 : Int32) S_13 else f_X9_takeNewName_b49 k0 v_12 (1 : Int32) S_13))))
set_option maxHeartbeats 4000000 in
set_option maxRecDepth 100000 in
theorem t_X9_takeNewName_b13 (C : sd_C RX9 cX9_takeNewName 5 (some .long) D cy ad A b0 p s m args meth c) {k0 : Nat} (hk0 : sd_kd k0 = 9) {r : Int64} {S' : sd_St} : ∀ (w1 : Int32) (S : sd_St) (H : Heap) (locs : List Loc) (ls : Array Slot), f_X9_takeNewName_b13 k0 w1 S = some (r, S') → sd_H D cy ad A s S H locs → lv_has ls 5 [(0, .ref (ad k0))] → W p l e (sd_rm 3) s m args below meth c H locs 0 0 (MQ below (sd_Ql D cy ad A r S') args s 0 0 A) (F0 m 13 ls [.int w1, .ref (ad k0)]) := by
  obtain ⟨hx, hb, -, hml, hown, hts, -, hG⟩ := id C
  intro w1 S H locs ls h X hl
  unfold f_X9_takeNewName_b13 at h
  refine lv_iconst (v := (1 : Int32)) hx hb dX9_takeNewName_13 (by decide) ?_
  obtain ⟨r_11, S_10, er_11, h⟩ := sd_cl_some h
  refine k_X9_failIf C X hl.1 hk0 er_11 sd_w12_20 (by decide) (Nat.le_of_ble_eq_true rfl) dX9_takeNewName_14 (fun H locs X => ?_)
  refine lv_aload_n hx hb dX9_takeNewName_17 rfl (lv_at hl 0 rfl) ?_
  refine sd_g9_1 (k := k0) C X hk0 sd_w3_14 dX9_takeNewName_18 ?_
  refine sd_g7_5 C X (sd_k9_12 hk0) sd_w13_17 dX9_takeNewName_21 ?_
  obtain ⟨v_12, e_12, h⟩ := sd_nm_some h
  refine sd_nml e_12 ?_
  refine lv_lstore_n (lv' := [(1, .long v_12), (0, .ref (ad k0))]) hx hb dX9_takeNewName_24 rfl hl (by decide) rfl (fun ls hl => ?_)
  refine lv_lload_n hx hb dX9_takeNewName_25 rfl (lv_at hl 0 rfl) ?_
  refine lv_aload_n hx hb dX9_takeNewName_26 rfl (lv_at hl 1 rfl) ?_
  refine sd_g9_2 (k := k0) C X hk0 sd_w3_16 dX9_takeNewName_27 ?_
  refine lv_aload_n hx hb dX9_takeNewName_30 rfl (lv_at hl 1 rfl) ?_
  refine sd_g9_0 (k := k0) C X hk0 sd_w3_10 dX9_takeNewName_31 ?_
  refine sd_g8_0 C X (sd_k9_1 hk0) sd_w13_11 dX9_takeNewName_34 ?_
  obtain ⟨r_14, S_13, er_14, h⟩ := sd_cl_some h
  refine k_X9_placeOf C X hl.1 (sd_k9_14 hk0) er_14 sd_w14_0 (by decide) (Nat.le_of_ble_eq_true rfl) dX9_takeNewName_37 (fun H locs X => ?_)
  refine lv_iconst (v := (-1 : Int32)) hx hb dX9_takeNewName_40 (by decide) ?_
  refine lv_icmp_eq (tgt := 48) hx hb dX9_takeNewName_41 (by decide) (fun c_15 => ?_) (fun c_15 => ?_)
  · have h := sd_ifp c_15 h
    refine lv_iconst (v := (0 : Int32)) hx hb dX9_takeNewName_48 (by decide) ?_
    exact t_X9_takeNewName_b49 C hk0 v_12 (0 : Int32) S_13 _ _ _ h X (lv_sub hl [1, 0] rfl)
  · have h := sd_ifn c_15 h
    refine lv_iconst (v := (1 : Int32)) hx hb dX9_takeNewName_44 (by decide) ?_
    refine lv_goto (tgt := 49) hx hb dX9_takeNewName_45 (by decide) ?_
    exact t_X9_takeNewName_b49 C hk0 v_12 (1 : Int32) S_13 _ _ _ h X (lv_sub hl [1, 0] rfl)
def f_X9_takeNewName (k0 : Nat) (S : sd_St) : Option (Int64 × sd_St) := sd_cl (f_X9_isAtName k0 S) (fun r_17 S_16 => (if r_17 = 0 then f_X9_takeNewName_b13 k0 (1 : Int32) S_16 else f_X9_takeNewName_b13 k0 (0 : Int32) S_16))
set_option maxHeartbeats 4000000 in
set_option maxRecDepth 100000 in
theorem c_X9_takeNewName {k0 : Nat} (hk0 : sd_kd k0 = 9) {S S' : sd_St} {r : Int64} (h : f_X9_takeNewName k0 S = some (r, S')) : Met l yX9_takeNewName (Cond.code yX9_takeNewName cX9_takeNewName 5 (some .long) :: sd_wl) (sd_rm 3) (sd_P D cy ad A b0 [.ref (ad k0)] S) (sd_Ql D cy ad A r S') 0 0 A := by
  refine sd_met (by decide) (Nat.le_of_ble_eq_true rfl) (fun p e s m args below meth c ls C X hl => ?_)
  obtain ⟨hx, hb, -, hml, hown, hts, -, hG⟩ := id C
  replace C : sd_C RX9 cX9_takeNewName 5 (some .long) D cy ad A b0 p s m args meth c := C
  replace hl : lv_has ls 5 [(0, .ref (ad k0))] := hl
  unfold f_X9_takeNewName at h
  refine lv_aload_n hx hb dX9_takeNewName_0 rfl (lv_at hl 0 rfl) ?_
  refine lv_aload_n hx hb dX9_takeNewName_1 rfl (lv_at hl 0 rfl) ?_
  obtain ⟨r_17, S_16, er_17, h⟩ := sd_cl_some h
  refine k_X9_isAtName C X hl.1 hk0 er_17 sd_w13_19 (by decide) (Nat.le_of_ble_eq_true rfl) dX9_takeNewName_2 (fun H locs X => ?_)
  refine lv_if_ne (tgt := 12) hx hb dX9_takeNewName_5 (by decide) (fun c_18 => ?_) (fun c_18 => ?_)
  · have h := sd_ifn c_18 h
    refine lv_iconst (v := (0 : Int32)) hx hb dX9_takeNewName_12 (by decide) ?_
    exact t_X9_takeNewName_b13 C hk0 (0 : Int32) S_16 _ _ _ h X (lv_sub hl [0] rfl)
  · have h := sd_ifp c_18 h
    refine lv_iconst (v := (1 : Int32)) hx hb dX9_takeNewName_8 (by decide) ?_
    refine lv_goto (tgt := 13) hx hb dX9_takeNewName_9 (by decide) ?_
    exact t_X9_takeNewName_b13 C hk0 (1 : Int32) S_16 _ _ _ h X (lv_sub hl [0] rfl)
theorem k_X9_takeNewName (C : sd_C own cc nL rt D cy ad A b0 p s m args meth c) (X : sd_H D cy ad A s S H locs) (hls : ls.size = nL) {k0 : Nat} {S2 : sd_St} {r : Int64} (hk0 : sd_kd k0 = 9) (h : f_X9_takeNewName k0 S = some (r, S2)) (hlink : Cond.methodLink own index yX9_takeNewName ∈ sd_wl) (hR : 4 ≤ R.frames ∧ 144 ≤ R.locals ∧ cells ≤ R.cells ∧ slots ≤ R.slots) (hst : (rest.map fun v => v.category).sum ≤ 8) (hdg : decode cc pc = .ok (.invokevirtual index, 3)) (kk : ∀ (H1 : Heap) (locs1 : List Loc), sd_H D cy ad A s S2 H1 locs1 → W p l e R s m args below meth c H1 locs1 cells slots Q (F0 m (pc + 3) ls (.long r :: rest))) : W p l e R s m args below meth c H locs cells slots Q (F0 m pc ls (.ref (ad k0) :: rest)) :=
  sd_goL X (sd_runV C X hls (n := 0) (k := k0) (As := []) (c_X9_takeNewName (l := l) (b0 := b0) hk0 h) (sd_goodV hlink sd_w13_14 sd_w13_15 sd_w1_15 sd_w13_16) (ci := 9) rfl (by rw [hk0]; decide) (sd_c9 hk0) (by decide +kernel) rfl hR rfl hst hdg) kk
/-! ===== SecretDays$TownReader.takeWord(J)V ===== -/
def f_X9_takeWord_b17 (k0 : Nat) (w1 : Int32) (S : sd_St) : Option (Unit × sd_St) := sd_cl (f_X9_failIf k0 w1 (1 : Int32) S) (fun _ S_1 => sd_cl (f_X7_step (k0 + 12) S_1) (fun _ S_3 => (some ((), S_3))))
set_option maxHeartbeats 4000000 in
set_option maxRecDepth 100000 in
theorem t_X9_takeWord_b17 (C : sd_C RX9 cX9_takeWord 3 none D cy ad A b0 p s m args meth c) {k0 : Nat} (hk0 : sd_kd k0 = 9) {S' : sd_St} : ∀ (w1 : Int32) (S : sd_St) (H : Heap) (locs : List Loc) (ls : Array Slot), f_X9_takeWord_b17 k0 w1 S = some ((), S') → sd_H D cy ad A s S H locs → lv_has ls 3 [(0, .ref (ad k0))] → W p l e (sd_rm 3) s m args below meth c H locs 0 0 (MQ below (sd_Qv D cy ad A S') args s 0 0 A) (F0 m 17 ls [.int w1, .ref (ad k0)]) := by
  obtain ⟨hx, hb, -, hml, hown, hts, -, hG⟩ := id C
  intro w1 S H locs ls h X hl
  unfold f_X9_takeWord_b17 at h
  refine lv_iconst (v := (1 : Int32)) hx hb dX9_takeWord_17 (by decide) ?_
  obtain ⟨r_2, S_1, er_2, h⟩ := sd_cl_some h
  refine k_X9_failIf C X hl.1 hk0 er_2 sd_w12_20 (by decide) (Nat.le_of_ble_eq_true rfl) dX9_takeWord_18 (fun H locs X => ?_)
  refine lv_aload_n hx hb dX9_takeWord_21 rfl (lv_at hl 0 rfl) ?_
  refine sd_g9_1 (k := k0) C X hk0 sd_w3_14 dX9_takeWord_22 ?_
  obtain ⟨r_4, S_3, er_4, h⟩ := sd_cl_some h
  refine k_X7_step C X hl.1 (sd_k9_12 hk0) er_4 sd_w13_1 (by decide) (Nat.le_of_ble_eq_true rfl) dX9_takeWord_25 (fun H locs X => ?_)
  cases h
  exact sd_vret C X dX9_takeWord_28
def f_X9_takeWord (k0 : Nat) (x1 : Int64) (S : sd_St) : Option (Unit × sd_St) := sd_cl (f_X7_isAt (k0 + 12) x1 S) (fun r_6 S_5 => (if r_6 = 0 then f_X9_takeWord_b17 k0 (1 : Int32) S_5 else f_X9_takeWord_b17 k0 (0 : Int32) S_5))
set_option maxHeartbeats 4000000 in
set_option maxRecDepth 100000 in
theorem c_X9_takeWord {k0 : Nat} {x1 : Int64} (hk0 : sd_kd k0 = 9) {S S' : sd_St} (h : f_X9_takeWord k0 x1 S = some ((), S')) : Met l yX9_takeWord (Cond.code yX9_takeWord cX9_takeWord 3 none :: sd_wl) (sd_rm 3) (sd_P D cy ad A b0 [.ref (ad k0), .long x1] S) (sd_Qv D cy ad A S') 0 0 A := by
  refine sd_met (by decide) (Nat.le_of_ble_eq_true rfl) (fun p e s m args below meth c ls C X hl => ?_)
  obtain ⟨hx, hb, -, hml, hown, hts, -, hG⟩ := id C
  replace C : sd_C RX9 cX9_takeWord 3 none D cy ad A b0 p s m args meth c := C
  replace hl : lv_has ls 3 [(0, .ref (ad k0)), (1, .long x1)] := hl
  unfold f_X9_takeWord at h
  refine lv_aload_n hx hb dX9_takeWord_0 rfl (lv_at hl 0 rfl) ?_
  refine lv_aload_n hx hb dX9_takeWord_1 rfl (lv_at hl 0 rfl) ?_
  refine sd_g9_1 (k := k0) C X hk0 sd_w3_14 dX9_takeWord_2 ?_
  refine lv_lload_n hx hb dX9_takeWord_5 rfl (lv_at hl 1 rfl) ?_
  obtain ⟨r_6, S_5, er_6, h⟩ := sd_cl_some h
  refine k_X7_isAt C X hl.1 (sd_k9_12 hk0) er_6 sd_w12_11 (by decide) (Nat.le_of_ble_eq_true rfl) dX9_takeWord_6 (fun H locs X => ?_)
  refine lv_if_ne (tgt := 16) hx hb dX9_takeWord_9 (by decide) (fun c_7 => ?_) (fun c_7 => ?_)
  · have h := sd_ifn c_7 h
    refine lv_iconst (v := (0 : Int32)) hx hb dX9_takeWord_16 (by decide) ?_
    exact t_X9_takeWord_b17 C hk0 (0 : Int32) S_5 _ _ _ h X (lv_sub hl [0] rfl)
  · have h := sd_ifp c_7 h
    refine lv_iconst (v := (1 : Int32)) hx hb dX9_takeWord_12 (by decide) ?_
    refine lv_goto (tgt := 17) hx hb dX9_takeWord_13 (by decide) ?_
    exact t_X9_takeWord_b17 C hk0 (1 : Int32) S_5 _ _ _ h X (lv_sub hl [0] rfl)
theorem k_X9_takeWord (C : sd_C own cc nL rt D cy ad A b0 p s m args meth c) (X : sd_H D cy ad A s S H locs) (hls : ls.size = nL) {k0 : Nat} {x1 : Int64} {S2 : sd_St} (hk0 : sd_kd k0 = 9) (h : f_X9_takeWord k0 x1 S = some ((), S2)) (hlink : Cond.methodLink own index yX9_takeWord ∈ sd_wl) (hR : 4 ≤ R.frames ∧ 142 ≤ R.locals ∧ cells ≤ R.cells ∧ slots ≤ R.slots) (hst : (rest.map fun v => v.category).sum ≤ 8) (hdg : decode cc pc = .ok (.invokevirtual index, 3)) (kk : ∀ (H1 : Heap) (locs1 : List Loc), sd_H D cy ad A s S2 H1 locs1 → W p l e R s m args below meth c H1 locs1 cells slots Q (F0 m (pc + 3) ls rest)) : W p l e R s m args below meth c H locs cells slots Q (F0 m pc ls (.long x1 :: .ref (ad k0) :: rest)) :=
  sd_goV X (sd_runV C X hls (n := 1) (k := k0) (As := [.long x1]) (c_X9_takeWord (l := l) (b0 := b0) hk0 h) (sd_goodV hlink sd_w14_4 sd_w14_5 sd_w1_15 sd_w14_6) (ci := 9) rfl (by rw [hk0]; decide) (sd_c9 hk0) (by decide +kernel) rfl hR rfl hst hdg) kk
/-! ===== SecretDays$TownReader.readExtras(I)V ===== -/
def f_X9_readExtras_b110 (q7 : (Int32 → Int32 → Int32 → Int32 → sd_St → Option (Unit × sd_St))) (k0 : Nat) (x1 : Int32) (x2 : Int32) (x3 : Int32) (x4 : Int32) (S : sd_St) : Option (Unit × sd_St) := q7 x1 x2 x3 (x4 + (1 : Int32)) S
set_option maxHeartbeats 4000000 in
set_option maxRecDepth 100000 in
theorem t_X9_readExtras_b110 (C : sd_C RX9 cX9_readExtras 5 none D cy ad A b0 p s m args meth c) {k0 : Nat} (hk0 : sd_kd k0 = 9) {S' : sd_St} {q7 : (Int32 → Int32 → Int32 → Int32 → sd_St → Option (Unit × sd_St))} (hq7 : ∀ (x1 : Int32) (x2 : Int32) (x3 : Int32) (x4 : Int32) (S : sd_St) (H : Heap) (locs : List Loc) (ls : Array Slot), q7 x1 x2 x3 x4 S = some ((), S') → sd_H D cy ad A s S H locs → lv_has ls 5 [(0, .ref (ad k0)), (1, .int x1), (2, .int x2), (3, .int x3), (4, .int x4)] → W p l e (sd_rm 4) s m args below meth c H locs 0 0 (MQ below (sd_Qv D cy ad A S') args s 0 0 A) (F0 m 7 ls [])) : ∀ (x1 : Int32) (x2 : Int32) (x3 : Int32) (x4 : Int32) (S : sd_St) (H : Heap) (locs : List Loc) (ls : Array Slot), f_X9_readExtras_b110 q7 k0 x1 x2 x3 x4 S = some ((), S') → sd_H D cy ad A s S H locs → lv_has ls 5 [(0, .ref (ad k0)), (1, .int x1), (2, .int x2), (3, .int x3), (4, .int x4)] → W p l e (sd_rm 4) s m args below meth c H locs 0 0 (MQ below (sd_Qv D cy ad A S') args s 0 0 A) (F0 m 110 ls []) := by
  obtain ⟨hx, hb, -, hml, hown, hts, -, hG⟩ := id C
  intro x1 x2 x3 x4 S H locs ls h X hl
  unfold f_X9_readExtras_b110 at h
  refine lv_iinc (v := (x4 + (1 : Int32))) (lv' := [(4, .int (x4 + (1 : Int32))), (0, .ref (ad k0)), (1, .int x1), (2, .int x2), (3, .int x3)]) hx hb dX9_readExtras_110 hl (k := 4) rfl rfl (by decide) rfl (fun ls hl => ?_)
  refine lv_goto (tgt := 7) hx hb dX9_readExtras_113 (by decide) ?_
  exact hq7 x1 x2 x3 (x4 + (1 : Int32)) S _ _ _ h X (lv_sub hl [1, 2, 3, 4, 0] rfl)
def f_X9_readExtras_l7 (k0 : Nat) : Nat → Int32 → Int32 → Int32 → Int32 → sd_St → Option (Unit × sd_St)
  | 0 => fun _ _ _ _ _ => none
  | n + 1 => fun x1 x2 x3 x4 S => (if (3 : Int32) ≤ x4 then (some ((), S)) else (if (S.1 k0 5) = 0 then sd_cl (f_X7_isAt (k0 + 12) (1851878757 : Int64) S) (fun r_4 S_3 => (if r_4 = 0 then sd_cl (f_X7_isAt (k0 + 12) (6909036 : Int64) S_3) (fun r_7 S_6 => (if r_7 = 0 then f_X9_readExtras_b110 (f_X9_readExtras_l7 k0 n) k0 x1 x2 x3 x4 S_6 else sd_cl (f_X9_failIf k0 x3 (3 : Int32) S_6) (fun _ S_9 => sd_cl (f_X7_step (k0 + 12) S_9) (fun _ S_11 => sd_cl (f_X9_takeNumber k0 (99 : Int32) S_11) (fun r_14 S_13 => sd_st S_13 (k0 + 4) x1 r_14 (fun S_15 => f_X9_readExtras_b110 (f_X9_readExtras_l7 k0 n) k0 x1 x2 (1 : Int32) x4 S_15)))))) else sd_cl (f_X9_failIf k0 x2 (3 : Int32) S_3) (fun _ S_16 => sd_cl (f_X7_step (k0 + 12) S_16) (fun _ S_18 => sd_cl (f_X9_takeNumber k0 (365 : Int32) S_18) (fun r_21 S_20 => sd_st S_20 (k0 + 3) x1 r_21 (fun S_22 => f_X9_readExtras_b110 (f_X9_readExtras_l7 k0 n) k0 x1 (1 : Int32) x3 x4 S_22)))))) else (some ((), S))))
set_option maxHeartbeats 4000000 in
set_option maxRecDepth 100000 in
theorem t_X9_readExtras_l7 (C : sd_C RX9 cX9_readExtras 5 none D cy ad A b0 p s m args meth c) {k0 : Nat} (hk0 : sd_kd k0 = 9) {S' : sd_St} : ∀ (n : Nat) (x1 : Int32) (x2 : Int32) (x3 : Int32) (x4 : Int32) (S : sd_St) (H : Heap) (locs : List Loc) (ls : Array Slot), f_X9_readExtras_l7 k0 n x1 x2 x3 x4 S = some ((), S') → sd_H D cy ad A s S H locs → lv_has ls 5 [(0, .ref (ad k0)), (1, .int x1), (2, .int x2), (3, .int x3), (4, .int x4)] → W p l e (sd_rm 4) s m args below meth c H locs 0 0 (MQ below (sd_Qv D cy ad A S') args s 0 0 A) (F0 m 7 ls []) := by
  obtain ⟨hx, hb, -, hml, hown, hts, -, hG⟩ := id C
  intro n
  induction n with
  | zero => intro x1 x2 x3 x4 S H locs ls h; cases h
  | succ n ih =>
    intro x1 x2 x3 x4 S H locs ls h X hl
    unfold f_X9_readExtras_l7 at h
    refine lv_iload hx hb dX9_readExtras_7 (lv_at hl 4 rfl) ?_
    refine lv_iconst (v := (3 : Int32)) hx hb dX9_readExtras_9 (by decide) ?_
    refine lv_icmp_ge (tgt := 116) hx hb dX9_readExtras_10 (by decide) (fun c_1 => ?_) (fun c_1 => ?_)
    · have h := sd_ifp c_1 h
      cases h
      exact sd_vret C X dX9_readExtras_116
    · have h := sd_ifn c_1 h
      refine lv_aload_n hx hb dX9_readExtras_13 rfl (lv_at hl 0 rfl) ?_
      refine sd_g9_5 C X hk0 sd_w10_14 dX9_readExtras_14 ?_
      refine lv_if_ne (tgt := 116) hx hb dX9_readExtras_17 (by decide) (fun c_2 => ?_) (fun c_2 => ?_)
      · have h := sd_ifn c_2 h
        cases h
        exact sd_vret C X dX9_readExtras_116
      · have h := sd_ifp c_2 h
        refine lv_aload_n hx hb dX9_readExtras_20 rfl (lv_at hl 0 rfl) ?_
        refine sd_g9_1 (k := k0) C X hk0 sd_w3_14 dX9_readExtras_21 ?_
        refine lv_ldc2 (v := (1851878757 : Int64)) hx hb hown (hts _ sd_w14_15) dX9_readExtras_24 ?_
        obtain ⟨r_4, S_3, er_4, h⟩ := sd_cl_some h
        refine k_X7_isAt C X hl.1 (sd_k9_12 hk0) er_4 sd_w12_11 (by decide) (Nat.le_of_ble_eq_true rfl) dX9_readExtras_27 (fun H locs X => ?_)
        refine lv_if_eq (tgt := 67) hx hb dX9_readExtras_30 (by decide) (fun c_5 => ?_) (fun c_5 => ?_)
        · have h := sd_ifp c_5 h
          refine lv_aload_n hx hb dX9_readExtras_67 rfl (lv_at hl 0 rfl) ?_
          refine sd_g9_1 (k := k0) C X hk0 sd_w3_14 dX9_readExtras_68 ?_
          refine lv_ldc2 (v := (6909036 : Int64)) hx hb hown (hts _ sd_w14_17) dX9_readExtras_71 ?_
          obtain ⟨r_7, S_6, er_7, h⟩ := sd_cl_some h
          refine k_X7_isAt C X hl.1 (sd_k9_12 hk0) er_7 sd_w12_11 (by decide) (Nat.le_of_ble_eq_true rfl) dX9_readExtras_74 (fun H locs X => ?_)
          refine lv_if_eq (tgt := 110) hx hb dX9_readExtras_77 (by decide) (fun c_8 => ?_) (fun c_8 => ?_)
          · have h := sd_ifp c_8 h
            exact t_X9_readExtras_b110 C hk0 ih x1 x2 x3 x4 S_6 _ _ _ h X (lv_sub hl [0, 1, 2, 3, 4] rfl)
          · have h := sd_ifn c_8 h
            refine lv_aload_n hx hb dX9_readExtras_80 rfl (lv_at hl 0 rfl) ?_
            refine lv_iload_n hx hb dX9_readExtras_81 rfl (lv_at hl 3 rfl) ?_
            refine lv_iconst (v := (3 : Int32)) hx hb dX9_readExtras_82 (by decide) ?_
            obtain ⟨r_10, S_9, er_10, h⟩ := sd_cl_some h
            refine k_X9_failIf C X hl.1 hk0 er_10 sd_w12_20 (by decide) (Nat.le_of_ble_eq_true rfl) dX9_readExtras_83 (fun H locs X => ?_)
            refine lv_iconst (v := (1 : Int32)) hx hb dX9_readExtras_86 (by decide) ?_
            refine lv_istore_n (lv' := [(3, .int (1 : Int32)), (0, .ref (ad k0)), (1, .int x1), (2, .int x2), (4, .int x4)]) hx hb dX9_readExtras_87 rfl hl (by decide) rfl (fun ls hl => ?_)
            refine lv_aload_n hx hb dX9_readExtras_88 rfl (lv_at hl 1 rfl) ?_
            refine sd_g9_1 (k := k0) C X hk0 sd_w3_14 dX9_readExtras_89 ?_
            obtain ⟨r_12, S_11, er_12, h⟩ := sd_cl_some h
            refine k_X7_step C X hl.1 (sd_k9_12 hk0) er_12 sd_w13_1 (by decide) (Nat.le_of_ble_eq_true rfl) dX9_readExtras_92 (fun H locs X => ?_)
            refine lv_aload_n hx hb dX9_readExtras_95 rfl (lv_at hl 1 rfl) ?_
            refine sd_g9_0 (k := k0) C X hk0 sd_w3_10 dX9_readExtras_96 ?_
            refine sd_g8_3 (k := (k0 + 1)) C X (sd_k9_1 hk0) sd_w14_18 dX9_readExtras_99 ?_
            refine lv_iload_n hx hb dX9_readExtras_102 rfl (lv_at hl 2 rfl) ?_
            refine lv_aload_n hx hb dX9_readExtras_103 rfl (lv_at hl 1 rfl) ?_
            refine lv_bipush (v := (99 : Int32)) hx hb dX9_readExtras_104 (by decide) ?_
            obtain ⟨r_14, S_13, er_14, h⟩ := sd_cl_some h
            refine k_X9_takeNumber C X hl.1 hk0 er_14 sd_w13_2 (by decide) (Nat.le_of_ble_eq_true rfl) dX9_readExtras_106 (fun H locs X => ?_)
            obtain ⟨bS_15, S_15, eS_15, h⟩ := sd_st_some h
            refine sd_iast C X (sd_k9_4 hk0) bS_15 dX9_readExtras_109 (fun H locs X => ?_)
            rw [← eS_15] at X
            exact t_X9_readExtras_b110 C hk0 ih x1 x2 (1 : Int32) x4 S_15 _ _ _ h X (lv_sub hl [1, 2, 3, 0, 4] rfl)
        · have h := sd_ifn c_5 h
          refine lv_aload_n hx hb dX9_readExtras_33 rfl (lv_at hl 0 rfl) ?_
          refine lv_iload_n hx hb dX9_readExtras_34 rfl (lv_at hl 2 rfl) ?_
          refine lv_iconst (v := (3 : Int32)) hx hb dX9_readExtras_35 (by decide) ?_
          obtain ⟨r_17, S_16, er_17, h⟩ := sd_cl_some h
          refine k_X9_failIf C X hl.1 hk0 er_17 sd_w12_20 (by decide) (Nat.le_of_ble_eq_true rfl) dX9_readExtras_36 (fun H locs X => ?_)
          refine lv_iconst (v := (1 : Int32)) hx hb dX9_readExtras_39 (by decide) ?_
          refine lv_istore_n (lv' := [(2, .int (1 : Int32)), (0, .ref (ad k0)), (1, .int x1), (3, .int x3), (4, .int x4)]) hx hb dX9_readExtras_40 rfl hl (by decide) rfl (fun ls hl => ?_)
          refine lv_aload_n hx hb dX9_readExtras_41 rfl (lv_at hl 1 rfl) ?_
          refine sd_g9_1 (k := k0) C X hk0 sd_w3_14 dX9_readExtras_42 ?_
          obtain ⟨r_19, S_18, er_19, h⟩ := sd_cl_some h
          refine k_X7_step C X hl.1 (sd_k9_12 hk0) er_19 sd_w13_1 (by decide) (Nat.le_of_ble_eq_true rfl) dX9_readExtras_45 (fun H locs X => ?_)
          refine lv_aload_n hx hb dX9_readExtras_48 rfl (lv_at hl 1 rfl) ?_
          refine sd_g9_0 (k := k0) C X hk0 sd_w3_10 dX9_readExtras_49 ?_
          refine sd_g8_2 (k := (k0 + 1)) C X (sd_k9_1 hk0) sd_w14_16 dX9_readExtras_52 ?_
          refine lv_iload_n hx hb dX9_readExtras_55 rfl (lv_at hl 2 rfl) ?_
          refine lv_aload_n hx hb dX9_readExtras_56 rfl (lv_at hl 1 rfl) ?_
          refine lv_sipush (v := (365 : Int32)) hx hb dX9_readExtras_57 (by decide) ?_
          obtain ⟨r_21, S_20, er_21, h⟩ := sd_cl_some h
          refine k_X9_takeNumber C X hl.1 hk0 er_21 sd_w13_2 (by decide) (Nat.le_of_ble_eq_true rfl) dX9_readExtras_60 (fun H locs X => ?_)
          obtain ⟨bS_22, S_22, eS_22, h⟩ := sd_st_some h
          refine sd_iast C X (sd_k9_3 hk0) bS_22 dX9_readExtras_63 (fun H locs X => ?_)
          rw [← eS_22] at X
          refine lv_goto (tgt := 110) hx hb dX9_readExtras_64 (by decide) ?_
          exact t_X9_readExtras_b110 C hk0 ih x1 (1 : Int32) x3 x4 S_22 _ _ _ h X (lv_sub hl [1, 2, 0, 3, 4] rfl)
def f_X9_readExtras (k0 : Nat) (x1 : Int32) (S : sd_St) : Option (Unit × sd_St) := f_X9_readExtras_l7 k0 sd_FU x1 (0 : Int32) (0 : Int32) (0 : Int32) S
set_option maxHeartbeats 4000000 in
set_option maxRecDepth 100000 in
theorem c_X9_readExtras {k0 : Nat} {x1 : Int32} (hk0 : sd_kd k0 = 9) {S S' : sd_St} (h : f_X9_readExtras k0 x1 S = some ((), S')) : Met l yX9_readExtras (Cond.code yX9_readExtras cX9_readExtras 5 none :: sd_wl) (sd_rm 4) (sd_P D cy ad A b0 [.ref (ad k0), .int x1] S) (sd_Qv D cy ad A S') 0 0 A := by
  refine sd_met (by decide) (Nat.le_of_ble_eq_true rfl) (fun p e s m args below meth c ls C X hl => ?_)
  obtain ⟨hx, hb, -, hml, hown, hts, -, hG⟩ := id C
  replace C : sd_C RX9 cX9_readExtras 5 none D cy ad A b0 p s m args meth c := C
  replace hl : lv_has ls 5 [(0, .ref (ad k0)), (1, .int x1)] := hl
  unfold f_X9_readExtras at h
  refine lv_iconst (v := (0 : Int32)) hx hb dX9_readExtras_0 (by decide) ?_
  refine lv_istore_n (lv' := [(2, .int (0 : Int32)), (0, .ref (ad k0)), (1, .int x1)]) hx hb dX9_readExtras_1 rfl hl (by decide) rfl (fun ls hl => ?_)
  refine lv_iconst (v := (0 : Int32)) hx hb dX9_readExtras_2 (by decide) ?_
  refine lv_istore_n (lv' := [(3, .int (0 : Int32)), (2, .int (0 : Int32)), (0, .ref (ad k0)), (1, .int x1)]) hx hb dX9_readExtras_3 rfl hl (by decide) rfl (fun ls hl => ?_)
  refine lv_iconst (v := (0 : Int32)) hx hb dX9_readExtras_4 (by decide) ?_
  refine lv_istore (lv' := [(4, .int (0 : Int32)), (3, .int (0 : Int32)), (2, .int (0 : Int32)), (0, .ref (ad k0)), (1, .int x1)]) hx hb dX9_readExtras_5 hl (by decide) rfl (fun ls hl => ?_)
  exact t_X9_readExtras_l7 C hk0 sd_FU x1 (0 : Int32) (0 : Int32) (0 : Int32) S _ _ _ h X (lv_sub hl [3, 4, 2, 1, 0] rfl)
theorem k_X9_readExtras (C : sd_C own cc nL rt D cy ad A b0 p s m args meth c) (X : sd_H D cy ad A s S H locs) (hls : ls.size = nL) {k0 : Nat} {x1 : Int32} {S2 : sd_St} (hk0 : sd_kd k0 = 9) (h : f_X9_readExtras k0 x1 S = some ((), S2)) (hlink : Cond.methodLink own index yX9_readExtras ∈ sd_wl) (hR : 5 ≤ R.frames ∧ 184 ≤ R.locals ∧ cells ≤ R.cells ∧ slots ≤ R.slots) (hst : (rest.map fun v => v.category).sum ≤ 8) (hdg : decode cc pc = .ok (.invokevirtual index, 3)) (kk : ∀ (H1 : Heap) (locs1 : List Loc), sd_H D cy ad A s S2 H1 locs1 → W p l e R s m args below meth c H1 locs1 cells slots Q (F0 m (pc + 3) ls rest)) : W p l e R s m args below meth c H locs cells slots Q (F0 m pc ls (.int x1 :: .ref (ad k0) :: rest)) :=
  sd_goV X (sd_runV C X hls (n := 1) (k := k0) (As := [.int x1]) (c_X9_readExtras (l := l) (b0 := b0) hk0 h) (sd_goodV hlink sd_w14_12 sd_w14_13 sd_w1_15 sd_w14_14) (ci := 9) rfl (by rw [hk0]; decide) (sd_c9 hk0) (by decide +kernel) rfl hR rfl hst hdg) kk
/-! ===== SecretDays$TownReader.readPerson()V ===== -/
def f_X9_readPerson_b18 (k0 : Nat) (w1 : Int32) (S : sd_St) : Option (Unit × sd_St) := sd_cl (f_X9_failIf k0 w1 (5 : Int32) S) (fun _ S_1 => sd_cl (f_X7_step (k0 + 12) S_1) (fun _ S_3 => sd_cl (f_X9_takeNewName k0 S_3) (fun r_6 S_5 => sd_cl (f_X9_takeWord k0 (1651470958 : Int64) S_5) (fun _ S_7 => sd_cl (f_X9_takeNumber k0 (365 : Int32) S_7) (fun r_10 S_9 => (if (S_9.1 k0 5) = 0 then sd_stl S_9 (k0 + 14) (S_9.1 (k0 + 1) 0) r_6 (fun S_12 => sd_cl (f_X8_addPerson (k0 + 1) r_10 S_12) (fun _ S_13 => sd_cl (f_X9_readExtras k0 ((S_13.1 (k0 + 1) 0) - (1 : Int32)) S_13) (fun _ S_15 => (some ((), S_15))))) else (some ((), S_9))))))))
set_option maxHeartbeats 4000000 in
set_option maxRecDepth 100000 in
theorem t_X9_readPerson_b18 (C : sd_C RX9 cX9_readPerson 4 none D cy ad A b0 p s m args meth c) {k0 : Nat} (hk0 : sd_kd k0 = 9) {S' : sd_St} : ∀ (w1 : Int32) (S : sd_St) (H : Heap) (locs : List Loc) (ls : Array Slot), f_X9_readPerson_b18 k0 w1 S = some ((), S') → sd_H D cy ad A s S H locs → lv_has ls 4 [(0, .ref (ad k0))] → W p l e (sd_rm 5) s m args below meth c H locs 0 0 (MQ below (sd_Qv D cy ad A S') args s 0 0 A) (F0 m 18 ls [.int w1, .ref (ad k0)]) := by
  obtain ⟨hx, hb, -, hml, hown, hts, -, hG⟩ := id C
  intro w1 S H locs ls h X hl
  unfold f_X9_readPerson_b18 at h
  refine lv_iconst (v := (5 : Int32)) hx hb dX9_readPerson_18 (by decide) ?_
  obtain ⟨r_2, S_1, er_2, h⟩ := sd_cl_some h
  refine k_X9_failIf C X hl.1 hk0 er_2 sd_w12_20 (by decide) (Nat.le_of_ble_eq_true rfl) dX9_readPerson_19 (fun H locs X => ?_)
  refine lv_aload_n hx hb dX9_readPerson_22 rfl (lv_at hl 0 rfl) ?_
  refine sd_g9_1 (k := k0) C X hk0 sd_w3_14 dX9_readPerson_23 ?_
  obtain ⟨r_4, S_3, er_4, h⟩ := sd_cl_some h
  refine k_X7_step C X hl.1 (sd_k9_12 hk0) er_4 sd_w13_1 (by decide) (Nat.le_of_ble_eq_true rfl) dX9_readPerson_26 (fun H locs X => ?_)
  refine lv_aload_n hx hb dX9_readPerson_29 rfl (lv_at hl 0 rfl) ?_
  obtain ⟨r_6, S_5, er_6, h⟩ := sd_cl_some h
  refine k_X9_takeNewName C X hl.1 hk0 er_6 sd_w13_13 (by decide) (Nat.le_of_ble_eq_true rfl) dX9_readPerson_30 (fun H locs X => ?_)
  refine lv_lstore_n (lv' := [(1, .long r_6), (0, .ref (ad k0))]) hx hb dX9_readPerson_33 rfl hl (by decide) rfl (fun ls hl => ?_)
  refine lv_aload_n hx hb dX9_readPerson_34 rfl (lv_at hl 1 rfl) ?_
  refine lv_ldc2 (v := (1651470958 : Int64)) hx hb hown (hts _ sd_w13_12) dX9_readPerson_35 ?_
  obtain ⟨r_8, S_7, er_8, h⟩ := sd_cl_some h
  refine k_X9_takeWord C X hl.1 hk0 er_8 sd_w14_3 (by decide) (Nat.le_of_ble_eq_true rfl) dX9_readPerson_38 (fun H locs X => ?_)
  refine lv_aload_n hx hb dX9_readPerson_41 rfl (lv_at hl 1 rfl) ?_
  refine lv_sipush (v := (365 : Int32)) hx hb dX9_readPerson_42 (by decide) ?_
  obtain ⟨r_10, S_9, er_10, h⟩ := sd_cl_some h
  refine k_X9_takeNumber C X hl.1 hk0 er_10 sd_w13_2 (by decide) (Nat.le_of_ble_eq_true rfl) dX9_readPerson_45 (fun H locs X => ?_)
  refine lv_istore_n (lv' := [(3, .int r_10), (1, .long r_6), (0, .ref (ad k0))]) hx hb dX9_readPerson_48 rfl hl (by decide) rfl (fun ls hl => ?_)
  refine lv_aload_n hx hb dX9_readPerson_49 rfl (lv_at hl 2 rfl) ?_
  refine sd_g9_5 C X hk0 sd_w10_14 dX9_readPerson_50 ?_
  refine lv_if_ne (tgt := 90) hx hb dX9_readPerson_53 (by decide) (fun c_11 => ?_) (fun c_11 => ?_)
  · have h := sd_ifn c_11 h
    cases h
    exact sd_vret C X dX9_readPerson_90
  · have h := sd_ifp c_11 h
    refine lv_aload_n hx hb dX9_readPerson_56 rfl (lv_at hl 2 rfl) ?_
    refine sd_g9_2 (k := k0) C X hk0 sd_w3_16 dX9_readPerson_57 ?_
    refine lv_aload_n hx hb dX9_readPerson_60 rfl (lv_at hl 2 rfl) ?_
    refine sd_g9_0 (k := k0) C X hk0 sd_w3_10 dX9_readPerson_61 ?_
    refine sd_g8_0 C X (sd_k9_1 hk0) sd_w13_11 dX9_readPerson_64 ?_
    refine lv_lload_n hx hb dX9_readPerson_67 rfl (lv_at hl 1 rfl) ?_
    obtain ⟨bS_12, S_12, eS_12, h⟩ := sd_stl_some h
    refine sd_last C X (sd_k9_14 hk0) bS_12 dX9_readPerson_68 (fun H locs X => ?_)
    rw [← eS_12] at X
    refine lv_aload_n hx hb dX9_readPerson_69 rfl (lv_at hl 2 rfl) ?_
    refine sd_g9_0 (k := k0) C X hk0 sd_w3_10 dX9_readPerson_70 ?_
    refine lv_iload_n hx hb dX9_readPerson_73 rfl (lv_at hl 0 rfl) ?_
    obtain ⟨r_14, S_13, er_14, h⟩ := sd_cl_some h
    refine k_X8_addPerson C X hl.1 (sd_k9_1 hk0) er_14 sd_w14_7 (by decide) (Nat.le_of_ble_eq_true rfl) dX9_readPerson_74 (fun H locs X => ?_)
    refine lv_aload_n hx hb dX9_readPerson_77 rfl (lv_at hl 2 rfl) ?_
    refine lv_aload_n hx hb dX9_readPerson_78 rfl (lv_at hl 2 rfl) ?_
    refine sd_g9_0 (k := k0) C X hk0 sd_w3_10 dX9_readPerson_79 ?_
    refine sd_g8_0 C X (sd_k9_1 hk0) sd_w13_11 dX9_readPerson_82 ?_
    refine lv_iconst (v := (1 : Int32)) hx hb dX9_readPerson_85 (by decide) ?_
    refine lv_isub hx hb dX9_readPerson_86 ?_
    obtain ⟨r_16, S_15, er_16, h⟩ := sd_cl_some h
    refine k_X9_readExtras C X hl.1 hk0 er_16 sd_w14_11 (by decide) (Nat.le_of_ble_eq_true rfl) dX9_readPerson_87 (fun H locs X => ?_)
    cases h
    exact sd_vret C X dX9_readPerson_90
def f_X9_readPerson (k0 : Nat) (S : sd_St) : Option (Unit × sd_St) := (if (S.1 (k0 + 1) 0) = (12 : Int32) then f_X9_readPerson_b18 k0 (1 : Int32) S else f_X9_readPerson_b18 k0 (0 : Int32) S)
set_option maxHeartbeats 4000000 in
set_option maxRecDepth 100000 in
theorem c_X9_readPerson {k0 : Nat} (hk0 : sd_kd k0 = 9) {S S' : sd_St} (h : f_X9_readPerson k0 S = some ((), S')) : Met l yX9_readPerson (Cond.code yX9_readPerson cX9_readPerson 4 none :: sd_wl) (sd_rm 5) (sd_P D cy ad A b0 [.ref (ad k0)] S) (sd_Qv D cy ad A S') 0 0 A := by
  refine sd_met (by decide) (Nat.le_of_ble_eq_true rfl) (fun p e s m args below meth c ls C X hl => ?_)
  obtain ⟨hx, hb, -, hml, hown, hts, -, hG⟩ := id C
  replace C : sd_C RX9 cX9_readPerson 4 none D cy ad A b0 p s m args meth c := C
  replace hl : lv_has ls 4 [(0, .ref (ad k0))] := hl
  unfold f_X9_readPerson at h
  refine lv_aload_n hx hb dX9_readPerson_0 rfl (lv_at hl 0 rfl) ?_
  refine lv_aload_n hx hb dX9_readPerson_1 rfl (lv_at hl 0 rfl) ?_
  refine sd_g9_0 (k := k0) C X hk0 sd_w3_10 dX9_readPerson_2 ?_
  refine sd_g8_0 C X (sd_k9_1 hk0) sd_w13_11 dX9_readPerson_5 ?_
  refine lv_bipush (v := (12 : Int32)) hx hb dX9_readPerson_8 (by decide) ?_
  refine lv_icmp_ne (tgt := 17) hx hb dX9_readPerson_10 (by decide) (fun c_17 => ?_) (fun c_17 => ?_)
  · have h := sd_ifn c_17 h
    refine lv_iconst (v := (0 : Int32)) hx hb dX9_readPerson_17 (by decide) ?_
    exact t_X9_readPerson_b18 C hk0 (0 : Int32) S _ _ _ h X (lv_sub hl [0] rfl)
  · have h := sd_ifp c_17 h
    refine lv_iconst (v := (1 : Int32)) hx hb dX9_readPerson_13 (by decide) ?_
    refine lv_goto (tgt := 18) hx hb dX9_readPerson_14 (by decide) ?_
    exact t_X9_readPerson_b18 C hk0 (1 : Int32) S _ _ _ h X (lv_sub hl [0] rfl)
theorem k_X9_readPerson (C : sd_C own cc nL rt D cy ad A b0 p s m args meth c) (X : sd_H D cy ad A s S H locs) (hls : ls.size = nL) {k0 : Nat} {S2 : sd_St} (hk0 : sd_kd k0 = 9) (h : f_X9_readPerson k0 S = some ((), S2)) (hlink : Cond.methodLink own index yX9_readPerson ∈ sd_wl) (hR : 6 ≤ R.frames ∧ 223 ≤ R.locals ∧ cells ≤ R.cells ∧ slots ≤ R.slots) (hst : (rest.map fun v => v.category).sum ≤ 8) (hdg : decode cc pc = .ok (.invokevirtual index, 3)) (kk : ∀ (H1 : Heap) (locs1 : List Loc), sd_H D cy ad A s S2 H1 locs1 → W p l e R s m args below meth c H1 locs1 cells slots Q (F0 m (pc + 3) ls rest)) : W p l e R s m args below meth c H locs cells slots Q (F0 m pc ls (.ref (ad k0) :: rest)) :=
  sd_goV X (sd_runV C X hls (n := 0) (k := k0) (As := []) (c_X9_readPerson (l := l) (b0 := b0) hk0 h) (sd_goodV hlink sd_w13_8 sd_w13_9 sd_w1_15 sd_w13_10) (ci := 9) rfl (by rw [hk0]; decide) (sd_c9 hk0) (by decide +kernel) rfl hR rfl hst hdg) kk
/-! ===== SecretDays$TownReader.findPerson()I ===== -/
def f_X9_findPerson_b50 (k0 : Nat) (x1 : Int32) (w1 : Int32) (S : sd_St) : Option (Int32 × sd_St) := sd_cl (f_X9_failIf k0 w1 (2 : Int32) S) (fun _ S_1 => (some (x1, S_1)))
set_option maxHeartbeats 4000000 in
set_option maxRecDepth 100000 in
theorem t_X9_findPerson_b50 (C : sd_C RX9 cX9_findPerson 2 (some .int) D cy ad A b0 p s m args meth c) {k0 : Nat} (hk0 : sd_kd k0 = 9) {r : Int32} {S' : sd_St} : ∀ (x1 : Int32) (w1 : Int32) (S : sd_St) (H : Heap) (locs : List Loc) (ls : Array Slot), f_X9_findPerson_b50 k0 x1 w1 S = some (r, S') → sd_H D cy ad A s S H locs → lv_has ls 2 [(1, .int x1)] → W p l e (sd_rm 2) s m args below meth c H locs 0 0 (MQ below (sd_Qi D cy ad A r S') args s 0 0 A) (F0 m 50 ls [.int w1, .ref (ad k0)]) := by
  obtain ⟨hx, hb, -, hml, hown, hts, -, hG⟩ := id C
  intro x1 w1 S H locs ls h X hl
  unfold f_X9_findPerson_b50 at h
  refine lv_iconst (v := (2 : Int32)) hx hb dX9_findPerson_50 (by decide) ?_
  obtain ⟨r_2, S_1, er_2, h⟩ := sd_cl_some h
  refine k_X9_failIf C X hl.1 hk0 er_2 sd_w12_20 (by decide) (Nat.le_of_ble_eq_true rfl) dX9_findPerson_51 (fun H locs X => ?_)
  refine lv_iload_n hx hb dX9_findPerson_54 rfl (lv_at hl 0 rfl) ?_
  cases h
  exact sd_iret C X dX9_findPerson_55
def f_X9_findPerson_b13 (k0 : Nat) (w1 : Int32) (S : sd_St) : Option (Int32 × sd_St) := sd_cl (f_X9_failIf k0 w1 (1 : Int32) S) (fun _ S_3 => sd_cl (f_X9_placeOf (k0 + 14) (S_3.2 (k0 + 12) 5) (S_3.1 (k0 + 1) 0) S_3) (fun r_6 S_5 => (if r_6 = (-1 : Int32) then f_X9_findPerson_b50 k0 r_6 (1 : Int32) S_5 else f_X9_findPerson_b50 k0 r_6 (0 : Int32) S_5)))
set_option maxHeartbeats 4000000 in
set_option maxRecDepth 100000 in
theorem t_X9_findPerson_b13 (C : sd_C RX9 cX9_findPerson 2 (some .int) D cy ad A b0 p s m args meth c) {k0 : Nat} (hk0 : sd_kd k0 = 9) {r : Int32} {S' : sd_St} : ∀ (w1 : Int32) (S : sd_St) (H : Heap) (locs : List Loc) (ls : Array Slot), f_X9_findPerson_b13 k0 w1 S = some (r, S') → sd_H D cy ad A s S H locs → lv_has ls 2 [(0, .ref (ad k0))] → W p l e (sd_rm 2) s m args below meth c H locs 0 0 (MQ below (sd_Qi D cy ad A r S') args s 0 0 A) (F0 m 13 ls [.int w1, .ref (ad k0)]) := by
  obtain ⟨hx, hb, -, hml, hown, hts, -, hG⟩ := id C
  intro w1 S H locs ls h X hl
  unfold f_X9_findPerson_b13 at h
  refine lv_iconst (v := (1 : Int32)) hx hb dX9_findPerson_13 (by decide) ?_
  obtain ⟨r_4, S_3, er_4, h⟩ := sd_cl_some h
  refine k_X9_failIf C X hl.1 hk0 er_4 sd_w12_20 (by decide) (Nat.le_of_ble_eq_true rfl) dX9_findPerson_14 (fun H locs X => ?_)
  refine lv_aload_n hx hb dX9_findPerson_17 rfl (lv_at hl 0 rfl) ?_
  refine sd_g9_1 (k := k0) C X hk0 sd_w3_14 dX9_findPerson_18 ?_
  refine sd_g7_5 C X (sd_k9_12 hk0) sd_w13_17 dX9_findPerson_21 ?_
  refine lv_aload_n hx hb dX9_findPerson_24 rfl (lv_at hl 0 rfl) ?_
  refine sd_g9_2 (k := k0) C X hk0 sd_w3_16 dX9_findPerson_25 ?_
  refine lv_aload_n hx hb dX9_findPerson_28 rfl (lv_at hl 0 rfl) ?_
  refine sd_g9_0 (k := k0) C X hk0 sd_w3_10 dX9_findPerson_29 ?_
  refine sd_g8_0 C X (sd_k9_1 hk0) sd_w13_11 dX9_findPerson_32 ?_
  obtain ⟨r_6, S_5, er_6, h⟩ := sd_cl_some h
  refine k_X9_placeOf C X hl.1 (sd_k9_14 hk0) er_6 sd_w14_0 (by decide) (Nat.le_of_ble_eq_true rfl) dX9_findPerson_35 (fun H locs X => ?_)
  refine lv_istore_n (lv' := [(1, .int r_6), (0, .ref (ad k0))]) hx hb dX9_findPerson_38 rfl hl (by decide) rfl (fun ls hl => ?_)
  refine lv_aload_n hx hb dX9_findPerson_39 rfl (lv_at hl 1 rfl) ?_
  refine lv_iload_n hx hb dX9_findPerson_40 rfl (lv_at hl 0 rfl) ?_
  refine lv_iconst (v := (-1 : Int32)) hx hb dX9_findPerson_41 (by decide) ?_
  refine lv_icmp_ne (tgt := 49) hx hb dX9_findPerson_42 (by decide) (fun c_7 => ?_) (fun c_7 => ?_)
  · have h := sd_ifn c_7 h
    refine lv_iconst (v := (0 : Int32)) hx hb dX9_findPerson_49 (by decide) ?_
    exact t_X9_findPerson_b50 C hk0 r_6 (0 : Int32) S_5 _ _ _ h X (lv_sub hl [0] rfl)
  · have h := sd_ifp c_7 h
    refine lv_iconst (v := (1 : Int32)) hx hb dX9_findPerson_45 (by decide) ?_
    refine lv_goto (tgt := 50) hx hb dX9_findPerson_46 (by decide) ?_
    exact t_X9_findPerson_b50 C hk0 r_6 (1 : Int32) S_5 _ _ _ h X (lv_sub hl [0] rfl)
def f_X9_findPerson (k0 : Nat) (S : sd_St) : Option (Int32 × sd_St) := sd_cl (f_X9_isAtName k0 S) (fun r_9 S_8 => (if r_9 = 0 then f_X9_findPerson_b13 k0 (1 : Int32) S_8 else f_X9_findPerson_b13 k0 (0 : Int32) S_8))
set_option maxHeartbeats 4000000 in
set_option maxRecDepth 100000 in
theorem c_X9_findPerson {k0 : Nat} (hk0 : sd_kd k0 = 9) {S S' : sd_St} {r : Int32} (h : f_X9_findPerson k0 S = some (r, S')) : Met l yX9_findPerson (Cond.code yX9_findPerson cX9_findPerson 2 (some .int) :: sd_wl) (sd_rm 2) (sd_P D cy ad A b0 [.ref (ad k0)] S) (sd_Qi D cy ad A r S') 0 0 A := by
  refine sd_met (by decide) (Nat.le_of_ble_eq_true rfl) (fun p e s m args below meth c ls C X hl => ?_)
  obtain ⟨hx, hb, -, hml, hown, hts, -, hG⟩ := id C
  replace C : sd_C RX9 cX9_findPerson 2 (some .int) D cy ad A b0 p s m args meth c := C
  replace hl : lv_has ls 2 [(0, .ref (ad k0))] := hl
  unfold f_X9_findPerson at h
  refine lv_aload_n hx hb dX9_findPerson_0 rfl (lv_at hl 0 rfl) ?_
  refine lv_aload_n hx hb dX9_findPerson_1 rfl (lv_at hl 0 rfl) ?_
  obtain ⟨r_9, S_8, er_9, h⟩ := sd_cl_some h
  refine k_X9_isAtName C X hl.1 hk0 er_9 sd_w13_19 (by decide) (Nat.le_of_ble_eq_true rfl) dX9_findPerson_2 (fun H locs X => ?_)
  refine lv_if_ne (tgt := 12) hx hb dX9_findPerson_5 (by decide) (fun c_10 => ?_) (fun c_10 => ?_)
  · have h := sd_ifn c_10 h
    refine lv_iconst (v := (0 : Int32)) hx hb dX9_findPerson_12 (by decide) ?_
    exact t_X9_findPerson_b13 C hk0 (0 : Int32) S_8 _ _ _ h X (lv_sub hl [0] rfl)
  · have h := sd_ifp c_10 h
    refine lv_iconst (v := (1 : Int32)) hx hb dX9_findPerson_8 (by decide) ?_
    refine lv_goto (tgt := 13) hx hb dX9_findPerson_9 (by decide) ?_
    exact t_X9_findPerson_b13 C hk0 (1 : Int32) S_8 _ _ _ h X (lv_sub hl [0] rfl)
theorem k_X9_findPerson (C : sd_C own cc nL rt D cy ad A b0 p s m args meth c) (X : sd_H D cy ad A s S H locs) (hls : ls.size = nL) {k0 : Nat} {S2 : sd_St} {r : Int32} (hk0 : sd_kd k0 = 9) (h : f_X9_findPerson k0 S = some (r, S2)) (hlink : Cond.methodLink own index yX9_findPerson ∈ sd_wl) (hR : 3 ≤ R.frames ∧ 101 ≤ R.locals ∧ cells ≤ R.cells ∧ slots ≤ R.slots) (hst : (rest.map fun v => v.category).sum ≤ 8) (hdg : decode cc pc = .ok (.invokevirtual index, 3)) (kk : ∀ (H1 : Heap) (locs1 : List Loc), sd_H D cy ad A s S2 H1 locs1 → W p l e R s m args below meth c H1 locs1 cells slots Q (F0 m (pc + 3) ls (.int r :: rest))) : W p l e R s m args below meth c H locs cells slots Q (F0 m pc ls (.ref (ad k0) :: rest)) :=
  sd_goI X (sd_runV C X hls (n := 0) (k := k0) (As := []) (c_X9_findPerson (l := l) (b0 := b0) hk0 h) (sd_goodV hlink sd_w15_5 sd_w15_6 sd_w1_15 sd_w15_7) (ci := 9) rfl (by rw [hk0]; decide) (sd_c9 hk0) (by decide +kernel) rfl hR rfl hst hdg) kk
end SM1
