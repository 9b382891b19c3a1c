section SM79
variable {p : Program} {l : Launch} {e : Env} {R : Room} {s : State} {m : MethodId} {args : Array Value} {below : List Frame} {meth : Method} {c : Code} {H : Heap} {locs : List Loc} {Q : State → Prop}
variable {cc : ByteArray} {pc nL index cells slots : Nat} {ls : Array Slot} {rest : List Value} {D : va_G} {cy : Nat → ClassId} {ad : Nat → Nat} {A : Nat → Prop} {b0 : Nat} {own : String} {rt : Option FieldType} {S : sd_St}
theorem kr_X12_waysOf (C : sd_C own cc nL rt D cy ad A b0 p s m args meth c) (X : sd_H D cy ad A s S H locs) (hls : ls.size = nL) {x1 x2 : Int32} {S2 : sd_St} {r : Int64} {dl : Nat} (con : Met l yX12_waysOf (Cond.code yX12_waysOf cX12_waysOf 6 (some .long) :: sd_wl) (sd_rm dl) (sd_P D cy ad A b0 [.ref (ad 130), .int x1, .int x2] S) (sd_Ql D cy ad A r S2) 0 0 A) (hlink : Cond.methodLink own index yX12_waysOf ∈ sd_wl) (hR : dl + 1 ≤ R.frames ∧ 19 + 6 + 40 * dl ≤ R.locals ∧ cells ≤ R.cells ∧ slots ≤ R.slots) (hst : (rest.map fun v => v.category).sum ≤ 8) (hdg : decode cc pc = .ok (.invokevirtual index, 3)) (kk : ∀ (H1 : Heap) (locs1 : List Loc), sd_H D cy ad A s S2 H1 locs1 → W p l e R s m args below meth c H1 locs1 cells slots Q (F0 m (pc + 3) ls (.long r :: rest))) : W p l e R s m args below meth c H locs cells slots Q (F0 m pc ls (.int x2 :: .int x1 :: .ref (ad 130) :: rest)) :=
  sd_goL X (sd_runV C X hls (n := 2) (k := 130) (As := [.int x1, .int x2]) con (sd_goodV hlink sd_w34_8 sd_w34_9 sd_w1_5 sd_w34_10) (ci := 12) rfl (by rw [(show sd_kd 130 = 12 by decide)]; decide) (sd_c12 (show sd_kd 130 = 12 by decide)) (by decide +kernel) rfl hR rfl hst hdg) kk
/-! ===== SecretDaysModel.waysOf(II)J ===== -/
def f_X12_waysOf_b73 (q26 : (Int32 → Int32 → Int64 → Int32 → sd_St → Option (Int64 × sd_St))) (qR : Int32 → Int32 → sd_St → Option (Int64 × sd_St)) (x1 : Int32) (x2 : Int32) (x5 : Int32) (w0 : Int64) (w1 : Int64) (S : sd_St) : Option (Int64 × sd_St) := sd_nm ((w0 + w1)) (fun v_17 => q26 x1 x2 v_17 (x5 + (1 : Int32)) S)
set_option maxHeartbeats 4000000 in
set_option maxRecDepth 100000 in
theorem t_X12_waysOf_b73 (C : sd_C RX12 cX12_waysOf 6 (some .long) D cy ad A b0 p s m args meth c) {qR : Int32 → Int32 → sd_St → Option (Int64 × sd_St)} {dl : Nat} (hdl : 4 ≤ dl) (cR : ∀ (x1 x2 : Int32) (S S2 : sd_St) (r : Int64), qR x1 x2 S = some (r, S2) → Met l yX12_waysOf (Cond.code yX12_waysOf cX12_waysOf 6 (some .long) :: sd_wl) (sd_rm dl) (sd_P D cy ad A b0 [.ref (ad 130), .int x1, .int x2] S) (sd_Ql D cy ad A r S2) 0 0 A) {r : Int64} {S' : sd_St} {q26 : (Int32 → Int32 → Int64 → Int32 → sd_St → Option (Int64 × sd_St))} (hq26 : ∀ (x1 : Int32) (x2 : Int32) (x3 : Int64) (x5 : Int32) (S : sd_St) (H : Heap) (locs : List Loc) (ls : Array Slot), q26 x1 x2 x3 x5 S = some (r, S') → sd_H D cy ad A s S H locs → lv_has ls 6 [(0, .ref (ad 130)), (1, .int x1), (2, .int x2), (3, .long x3), (5, .int x5)] → W p l e (sd_rm (dl + 1)) s m args below meth c H locs 0 0 (MQ below (sd_Ql D cy ad A r S') args s 0 0 A) (F0 m 26 ls [])) : ∀ (x1 : Int32) (x2 : Int32) (x5 : Int32) (w0 : Int64) (w1 : Int64) (S : sd_St) (H : Heap) (locs : List Loc) (ls : Array Slot), f_X12_waysOf_b73 q26 qR x1 x2 x5 w0 w1 S = some (r, S') → sd_H D cy ad A s S H locs → lv_has ls 6 [(0, .ref (ad 130)), (1, .int x1), (2, .int x2), (5, .int x5)] → W p l e (sd_rm (dl + 1)) s m args below meth c H locs 0 0 (MQ below (sd_Ql D cy ad A r S') args s 0 0 A) (F0 m 73 ls [.long w1, .long w0]) := by
  obtain ⟨hx, hb, -, hml, hown, hts, -, hG⟩ := id C
  intro x1 x2 x5 w0 w1 S H locs ls h X hl
  unfold f_X12_waysOf_b73 at h
  refine lv_ladd hx hb dX12_waysOf_73 ?_
  obtain ⟨v_17, e_17, h⟩ := sd_nm_some h
  refine sd_nml e_17 ?_
  refine lv_lstore_n (lv' := [(3, .long v_17), (0, .ref (ad 130)), (1, .int x1), (2, .int x2), (5, .int x5)]) hx hb dX12_waysOf_74 rfl hl (by decide) rfl (fun ls hl => ?_)
  refine lv_iinc (v := (x5 + (1 : Int32))) (lv' := [(5, .int (x5 + (1 : Int32))), (3, .long v_17), (0, .ref (ad 130)), (1, .int x1), (2, .int x2)]) hx hb dX12_waysOf_75 hl (k := 4) rfl rfl (by decide) rfl (fun ls hl => ?_)
  refine lv_goto (tgt := 26) hx hb dX12_waysOf_78 (by decide) ?_
  exact hq26 x1 x2 v_17 (x5 + (1 : Int32)) S _ _ _ h X (lv_sub hl [2, 3, 4, 1, 0] rfl)
def f_X12_waysOf_b72 (q26 : (Int32 → Int32 → Int64 → Int32 → sd_St → Option (Int64 × sd_St))) (qR : Int32 → Int32 → sd_St → Option (Int64 × sd_St)) (x1 : Int32) (x2 : Int32) (x5 : Int32) (w0 : Int64) (S : sd_St) : Option (Int64 × sd_St) := f_X12_waysOf_b73 q26 qR x1 x2 x5 w0 (0 : Int64) S
set_option maxHeartbeats 4000000 in
set_option maxRecDepth 100000 in
theorem t_X12_waysOf_b72 (C : sd_C RX12 cX12_waysOf 6 (some .long) D cy ad A b0 p s m args meth c) {qR : Int32 → Int32 → sd_St → Option (Int64 × sd_St)} {dl : Nat} (hdl : 4 ≤ dl) (cR : ∀ (x1 x2 : Int32) (S S2 : sd_St) (r : Int64), qR x1 x2 S = some (r, S2) → Met l yX12_waysOf (Cond.code yX12_waysOf cX12_waysOf 6 (some .long) :: sd_wl) (sd_rm dl) (sd_P D cy ad A b0 [.ref (ad 130), .int x1, .int x2] S) (sd_Ql D cy ad A r S2) 0 0 A) {r : Int64} {S' : sd_St} {q26 : (Int32 → Int32 → Int64 → Int32 → sd_St → Option (Int64 × sd_St))} (hq26 : ∀ (x1 : Int32) (x2 : Int32) (x3 : Int64) (x5 : Int32) (S : sd_St) (H : Heap) (locs : List Loc) (ls : Array Slot), q26 x1 x2 x3 x5 S = some (r, S') → sd_H D cy ad A s S H locs → lv_has ls 6 [(0, .ref (ad 130)), (1, .int x1), (2, .int x2), (3, .long x3), (5, .int x5)] → W p l e (sd_rm (dl + 1)) s m args below meth c H locs 0 0 (MQ below (sd_Ql D cy ad A r S') args s 0 0 A) (F0 m 26 ls [])) : ∀ (x1 : Int32) (x2 : Int32) (x5 : Int32) (w0 : Int64) (S : sd_St) (H : Heap) (locs : List Loc) (ls : Array Slot), f_X12_waysOf_b72 q26 qR x1 x2 x5 w0 S = some (r, S') → sd_H D cy ad A s S H locs → lv_has ls 6 [(0, .ref (ad 130)), (1, .int x1), (2, .int x2), (5, .int x5)] → W p l e (sd_rm (dl + 1)) s m args below meth c H locs 0 0 (MQ below (sd_Ql D cy ad A r S') args s 0 0 A) (F0 m 72 ls [.long w0]) := by
  obtain ⟨hx, hb, -, hml, hown, hts, -, hG⟩ := id C
  intro x1 x2 x5 w0 S H locs ls h X hl
  unfold f_X12_waysOf_b72 at h
  refine lv_lconst (v := (0 : Int64)) hx hb dX12_waysOf_72 (by decide) ?_
  exact t_X12_waysOf_b73 C hdl cR hq26 x1 x2 x5 w0 (0 : Int64) S _ _ _ h X (lv_sub hl [0, 1, 2, 3] rfl)
def f_X12_waysOf_l26 (qR : Int32 → Int32 → sd_St → Option (Int64 × sd_St)) : Nat → Int32 → Int32 → Int64 → Int32 → sd_St → Option (Int64 × sd_St)
  | 0 => fun _ _ _ _ _ => none
  | n + 1 => fun x1 x2 x3 x5 S => sd_cl (f_X12_people S) (fun r_19 S_18 => (if r_19 ≤ x5 then (some ((sd_lrem x3 (1000000007 : Int64)), S_18)) else sd_cl (f_X12_calls x1 x5 S_18) (fun r_22 S_21 => (if r_22 = 0 then f_X12_waysOf_b72 (f_X12_waysOf_l26 qR n) qR x1 x2 x5 x3 S_21 else sd_ld S_21 140 x1 (fun v_24 => sd_cl (f_X12_tells x5 x2 v_24 S_21) (fun r_26 S_25 => (if r_26 = 0 then f_X12_waysOf_b72 (f_X12_waysOf_l26 qR n) qR x1 x2 x5 x3 S_25 else sd_cl (qR x5 x2 S_25) (fun r_29 S_28 => f_X12_waysOf_b73 (f_X12_waysOf_l26 qR n) qR x1 x2 x5 x3 r_29 S_28))))))))
set_option maxHeartbeats 4000000 in
set_option maxRecDepth 100000 in
theorem t_X12_waysOf_l26 (C : sd_C RX12 cX12_waysOf 6 (some .long) D cy ad A b0 p s m args meth c) {qR : Int32 → Int32 → sd_St → Option (Int64 × sd_St)} {dl : Nat} (hdl : 4 ≤ dl) (cR : ∀ (x1 x2 : Int32) (S S2 : sd_St) (r : Int64), qR x1 x2 S = some (r, S2) → Met l yX12_waysOf (Cond.code yX12_waysOf cX12_waysOf 6 (some .long) :: sd_wl) (sd_rm dl) (sd_P D cy ad A b0 [.ref (ad 130), .int x1, .int x2] S) (sd_Ql D cy ad A r S2) 0 0 A) {r : Int64} {S' : sd_St} : ∀ (n : Nat) (x1 : Int32) (x2 : Int32) (x3 : Int64) (x5 : Int32) (S : sd_St) (H : Heap) (locs : List Loc) (ls : Array Slot), f_X12_waysOf_l26 qR n x1 x2 x3 x5 S = some (r, S') → sd_H D cy ad A s S H locs → lv_has ls 6 [(0, .ref (ad 130)), (1, .int x1), (2, .int x2), (3, .long x3), (5, .int x5)] → W p l e (sd_rm (dl + 1)) s m args below meth c H locs 0 0 (MQ below (sd_Ql D cy ad A r S') args s 0 0 A) (F0 m 26 ls []) := by
  obtain ⟨hx, hb, -, hml, hown, hts, -, hG⟩ := id C
  intro n
  induction n with
  | zero => intro x1 x2 x3 x5 S H locs ls h; cases h
  | succ n ih =>
    intro x1 x2 x3 x5 S H locs ls h X hl
    unfold f_X12_waysOf_l26 at h
    refine lv_iload hx hb dX12_waysOf_26 (lv_at hl 4 rfl) ?_
    refine lv_aload_n hx hb dX12_waysOf_28 rfl (lv_at hl 0 rfl) ?_
    obtain ⟨r_19, S_18, er_19, h⟩ := sd_cl_some h
    refine k_X12_people C X hl.1 er_19 sd_w24_18 ⟨show 1 ≤ dl + 1 by omega, show 20 ≤ 40 * (dl + 1) by omega, Nat.le_refl 0, Nat.le_refl 0⟩ (Nat.le_of_ble_eq_true rfl) dX12_waysOf_29 (fun H locs X => ?_)
    refine lv_icmp_ge (tgt := 81) hx hb dX12_waysOf_32 (by decide) (fun c_20 => ?_) (fun c_20 => ?_)
    · have h := sd_ifp c_20 h
      refine lv_lload_n hx hb dX12_waysOf_81 rfl (lv_at hl 3 rfl) ?_
      refine lv_ldc2 (v := (1000000007 : Int64)) hx hb hown (hts _ sd_w34_11) dX12_waysOf_82 ?_
      refine lv_lrem hx hb dX12_waysOf_85 (by decide) ?_
      cases h
      exact sd_lret C X dX12_waysOf_86
    · have h := sd_ifn c_20 h
      refine lv_lload_n hx hb dX12_waysOf_35 rfl (lv_at hl 3 rfl) ?_
      refine lv_aload_n hx hb dX12_waysOf_36 rfl (lv_at hl 0 rfl) ?_
      refine lv_iload_n hx hb dX12_waysOf_37 rfl (lv_at hl 1 rfl) ?_
      refine lv_iload hx hb dX12_waysOf_38 (lv_at hl 4 rfl) ?_
      obtain ⟨r_22, S_21, er_22, h⟩ := sd_cl_some h
      refine k_X12_calls C X hl.1 er_22 sd_w25_1 ⟨show 2 ≤ dl + 1 by omega, show 62 ≤ 40 * (dl + 1) by omega, Nat.le_refl 0, Nat.le_refl 0⟩ (Nat.le_of_ble_eq_true rfl) dX12_waysOf_40 (fun H locs X => ?_)
      refine lv_if_eq (tgt := 72) hx hb dX12_waysOf_43 (by decide) (fun c_23 => ?_) (fun c_23 => ?_)
      · have h := sd_ifp c_23 h
        exact t_X12_waysOf_b72 C hdl cR ih x1 x2 x5 x3 S_21 _ _ _ h X (lv_sub hl [0, 1, 2, 4] rfl)
      · have h := sd_ifn c_23 h
        refine lv_aload_n hx hb dX12_waysOf_46 rfl (lv_at hl 0 rfl) ?_
        refine lv_iload hx hb dX12_waysOf_47 (lv_at hl 4 rfl) ?_
        refine lv_iload_n hx hb dX12_waysOf_49 rfl (lv_at hl 2 rfl) ?_
        refine lv_aload_n hx hb dX12_waysOf_50 rfl (lv_at hl 0 rfl) ?_
        refine sd_g12_17 (k := 130) C X (by decide) sd_w8_12 dX12_waysOf_51 ?_
        refine lv_iload_n hx hb dX12_waysOf_54 rfl (lv_at hl 1 rfl) ?_
        obtain ⟨b_24, v_24, e_24, h⟩ := sd_ld_some h
        refine sd_iald C X (by decide) b_24 dX12_waysOf_55 (sd_nmi e_24 ?_)
        obtain ⟨r_26, S_25, er_26, h⟩ := sd_cl_some h
        refine k_X12_tells C X hl.1 er_26 sd_w33_0 ⟨show 4 ≤ dl + 1 by omega, show 143 ≤ 40 * (dl + 1) by omega, Nat.le_refl 0, Nat.le_refl 0⟩ (Nat.le_of_ble_eq_true rfl) dX12_waysOf_56 (fun H locs X => ?_)
        refine lv_if_eq (tgt := 72) hx hb dX12_waysOf_59 (by decide) (fun c_27 => ?_) (fun c_27 => ?_)
        · have h := sd_ifp c_27 h
          exact t_X12_waysOf_b72 C hdl cR ih x1 x2 x5 x3 S_25 _ _ _ h X (lv_sub hl [0, 1, 2, 4] rfl)
        · have h := sd_ifn c_27 h
          refine lv_aload_n hx hb dX12_waysOf_62 rfl (lv_at hl 0 rfl) ?_
          refine lv_iload hx hb dX12_waysOf_63 (lv_at hl 4 rfl) ?_
          refine lv_iload_n hx hb dX12_waysOf_65 rfl (lv_at hl 2 rfl) ?_
          obtain ⟨r_29, S_28, er_29, h⟩ := sd_cl_some h
          refine kr_X12_waysOf C X hl.1 (cR _ _ _ _ _ er_29) sd_w34_7 ⟨show dl + 1 ≤ dl + 1 by omega, show 19 + 6 + 40 * dl ≤ 40 * (dl + 1) by omega, Nat.le_refl 0, Nat.le_refl 0⟩ (Nat.le_of_ble_eq_true rfl) dX12_waysOf_66 (fun H locs X => ?_)
          refine lv_goto (tgt := 73) hx hb dX12_waysOf_69 (by decide) ?_
          exact t_X12_waysOf_b73 C hdl cR ih x1 x2 x5 x3 r_29 S_28 _ _ _ h X (lv_sub hl [0, 1, 2, 4] rfl)
def f_X12_waysOf_e (qR : Int32 → Int32 → sd_St → Option (Int64 × sd_St)) (x1 : Int32) (x2 : Int32) (S : sd_St) : Option (Int64 × sd_St) := (if x1 = x2 then (some ((1 : Int64), S)) else sd_ld S 140 x1 (fun v_31 => (if v_31 = (1000000 : Int32) then (some ((0 : Int64), S)) else f_X12_waysOf_l26 qR sd_FU x1 x2 (0 : Int64) (0 : Int32) S)))
set_option maxHeartbeats 4000000 in
set_option maxRecDepth 100000 in
theorem c_X12_waysOf_e {x1 : Int32} {x2 : Int32} {qR : Int32 → Int32 → sd_St → Option (Int64 × sd_St)} {dl : Nat} (hdl : 4 ≤ dl) (cR : ∀ (x1 x2 : Int32) (S S2 : sd_St) (r : Int64), qR x1 x2 S = some (r, S2) → Met l yX12_waysOf (Cond.code yX12_waysOf cX12_waysOf 6 (some .long) :: sd_wl) (sd_rm dl) (sd_P D cy ad A b0 [.ref (ad 130), .int x1, .int x2] S) (sd_Ql D cy ad A r S2) 0 0 A) {S S' : sd_St} {r : Int64} (h : f_X12_waysOf_e qR x1 x2 S = some (r, S')) : Met l yX12_waysOf (Cond.code yX12_waysOf cX12_waysOf 6 (some .long) :: sd_wl) (sd_rm (dl + 1)) (sd_P D cy ad A b0 [.ref (ad 130), .int x1, .int x2] S) (sd_Ql D cy ad A r S') 0 0 A := by
  refine sd_met (by decide) (Nat.le_of_ble_eq_true rfl) (fun p e s m args below meth c ls C X hl => ?_)
  obtain ⟨hx, hb, -, hml, hown, hts, -, hG⟩ := id C
  replace C : sd_C RX12 cX12_waysOf 6 (some .long) D cy ad A b0 p s m args meth c := C
  replace hl : lv_has ls 6 [(0, .ref (ad 130)), (1, .int x1), (2, .int x2)] := hl
  unfold f_X12_waysOf_e at h
  refine lv_iload_n hx hb dX12_waysOf_0 rfl (lv_at hl 1 rfl) ?_
  refine lv_iload_n hx hb dX12_waysOf_1 rfl (lv_at hl 2 rfl) ?_
  refine lv_icmp_ne (tgt := 7) hx hb dX12_waysOf_2 (by decide) (fun c_30 => ?_) (fun c_30 => ?_)
  · have h := sd_ifn c_30 h
    refine lv_aload_n hx hb dX12_waysOf_7 rfl (lv_at hl 0 rfl) ?_
    refine sd_g12_17 (k := 130) C X (by decide) sd_w8_12 dX12_waysOf_8 ?_
    refine lv_iload_n hx hb dX12_waysOf_11 rfl (lv_at hl 1 rfl) ?_
    obtain ⟨b_31, v_31, e_31, h⟩ := sd_ld_some h
    refine sd_iald C X (by decide) b_31 dX12_waysOf_12 (sd_nmi e_31 ?_)
    refine lv_ldcw (v := (1000000 : Int32)) hx hb hown (hts _ sd_w31_10) dX12_waysOf_13 ?_
    refine lv_icmp_ne (tgt := 21) hx hb dX12_waysOf_16 (by decide) (fun c_32 => ?_) (fun c_32 => ?_)
    · have h := sd_ifn c_32 h
      refine lv_lconst (v := (0 : Int64)) hx hb dX12_waysOf_21 (by decide) ?_
      refine lv_lstore_n (lv' := [(3, .long (0 : Int64)), (0, .ref (ad 130)), (1, .int x1), (2, .int x2)]) hx hb dX12_waysOf_22 rfl hl (by decide) rfl (fun ls hl => ?_)
      refine lv_iconst (v := (0 : Int32)) hx hb dX12_waysOf_23 (by decide) ?_
      refine lv_istore (lv' := [(5, .int (0 : Int32)), (3, .long (0 : Int64)), (0, .ref (ad 130)), (1, .int x1), (2, .int x2)]) hx hb dX12_waysOf_24 hl (by decide) rfl (fun ls hl => ?_)
      exact t_X12_waysOf_l26 C hdl cR sd_FU x1 x2 (0 : Int64) (0 : Int32) S _ _ _ h X (lv_sub hl [2, 3, 4, 1, 0] rfl)
    · have h := sd_ifp c_32 h
      refine lv_lconst (v := (0 : Int64)) hx hb dX12_waysOf_19 (by decide) ?_
      cases h
      exact sd_lret C X dX12_waysOf_20
  · have h := sd_ifp c_30 h
    refine lv_lconst (v := (1 : Int64)) hx hb dX12_waysOf_5 (by decide) ?_
    cases h
    exact sd_lret C X dX12_waysOf_6
def f_X12_waysOf : Nat → Int32 → Int32 → sd_St → Option (Int64 × sd_St)
  | 0 => fun _ _ _ => none
  | d + 1 => fun x1 x2 S => f_X12_waysOf_e (f_X12_waysOf d) x1 x2 S
theorem c_X12_waysOf : ∀ (d : Nat) (x1 x2 : Int32) (S S2 : sd_St) (r : Int64), f_X12_waysOf d x1 x2 S = some (r, S2) → Met l yX12_waysOf (Cond.code yX12_waysOf cX12_waysOf 6 (some .long) :: sd_wl) (sd_rm (d + 4)) (sd_P D cy ad A b0 [.ref (ad 130), .int x1, .int x2] S) (sd_Ql D cy ad A r S2) 0 0 A := by
  intro d
  induction d with
  | zero => intro x1 x2 S S2 r h; cases h
  | succ d ih =>
    intro x1 x2 S S2 r h
    have := c_X12_waysOf_e (l := l) (b0 := b0) (dl := d + 4) (by omega) ih h
    exact this
theorem k_X12_waysOf (C : sd_C own cc nL rt D cy ad A b0 p s m args meth c) (X : sd_H D cy ad A s S H locs) (hls : ls.size = nL) {x1 x2 : Int32} {S2 : sd_St} {r : Int64} (h : f_X12_waysOf 14 x1 x2 S = some (r, S2)) (hlink : Cond.methodLink own index yX12_waysOf ∈ sd_wl) (hR : 19 ≤ R.frames ∧ 745 ≤ R.locals ∧ cells ≤ R.cells ∧ slots ≤ R.slots) (hst : (rest.map fun v => v.category).sum ≤ 8) (hdg : decode cc pc = .ok (.invokevirtual index, 3)) (kk : ∀ (H1 : Heap) (locs1 : List Loc), sd_H D cy ad A s S2 H1 locs1 → W p l e R s m args below meth c H1 locs1 cells slots Q (F0 m (pc + 3) ls (.long r :: rest))) : W p l e R s m args below meth c H locs cells slots Q (F0 m pc ls (.int x2 :: .int x1 :: .ref (ad 130) :: rest)) :=
  kr_X12_waysOf (dl := 18) C X hls (c_X12_waysOf 14 x1 x2 S S2 r h) hlink hR hst hdg kk
/-! ===== SecretDaysModel.ways(II)I ===== -/
def f_X12_ways (x1 : Int32) (x2 : Int32) (S : sd_St) : Option (Int32 × sd_St) := sd_nm (sd_I S 130 0 (0 : Int32)) (fun S_1 => sd_cl (f_X12_areThere x1 x2 S_1) (fun r_3 S_2 => (if r_3 = 0 then (some ((-1 : Int32), S_2)) else sd_cl (f_X12_find_ x1 S_2) (fun _ S_5 => sd_cl (f_X12_beginner x1 S_5) (fun r_8 S_7 => sd_cl (f_X12_waysOf 14 x2 r_8 S_7) (fun r_10 S_9 => (some ((r_10.toInt32), S_9))))))))
set_option maxHeartbeats 4000000 in
set_option maxRecDepth 100000 in
theorem c_X12_ways {x1 : Int32} {x2 : Int32} {S S' : sd_St} {r : Int32} (h : f_X12_ways x1 x2 S = some (r, S')) : Met l yX12_ways (Cond.code yX12_ways cX12_ways 3 (some .int) :: sd_wl) (sd_rm 19) (sd_P D cy ad A b0 [.ref (ad 130), .int x1, .int x2] S) (sd_Qi D cy ad A r S') 0 0 A := by
  refine sd_met (by decide) (Nat.le_of_ble_eq_true rfl) (fun p e s m args below meth c ls C X hl => ?_)
  obtain ⟨hx, hb, -, hml, hown, hts, -, hG⟩ := id C
  replace C : sd_C RX12 cX12_ways 3 (some .int) D cy ad A b0 p s m args meth c := C
  replace hl : lv_has ls 3 [(0, .ref (ad 130)), (1, .int x1), (2, .int x2)] := hl
  unfold f_X12_ways at h
  refine lv_aload_n hx hb dX12_ways_0 rfl (lv_at hl 0 rfl) ?_
  refine lv_iconst (v := (0 : Int32)) hx hb dX12_ways_1 (by decide) ?_
  obtain ⟨S_1, eS_1, h⟩ := sd_nm_some h
  refine sd_p12_0 C X (by decide) sd_w9_3 dX12_ways_2 (fun H locs X => ?_)
  rw [← eS_1] at X
  refine lv_aload_n hx hb dX12_ways_5 rfl (lv_at hl 0 rfl) ?_
  refine lv_iload_n hx hb dX12_ways_6 rfl (lv_at hl 1 rfl) ?_
  refine lv_iload_n hx hb dX12_ways_7 rfl (lv_at hl 2 rfl) ?_
  obtain ⟨r_3, S_2, er_3, h⟩ := sd_cl_some h
  refine k_X12_areThere C X hl.1 er_3 sd_w31_11 (by decide) (Nat.le_of_ble_eq_true rfl) dX12_ways_8 (fun H locs X => ?_)
  refine lv_if_ne (tgt := 16) hx hb dX12_ways_11 (by decide) (fun c_4 => ?_) (fun c_4 => ?_)
  · have h := sd_ifn c_4 h
    refine lv_aload_n hx hb dX12_ways_16 rfl (lv_at hl 0 rfl) ?_
    refine lv_iload_n hx hb dX12_ways_17 rfl (lv_at hl 1 rfl) ?_
    obtain ⟨r_6, S_5, er_6, h⟩ := sd_cl_some h
    refine k_X12_find_ C X hl.1 er_6 sd_w31_23 (by decide) (Nat.le_of_ble_eq_true rfl) dX12_ways_18 (fun H locs X => ?_)
    refine lv_aload_n hx hb dX12_ways_21 rfl (lv_at hl 0 rfl) ?_
    refine lv_iload_n hx hb dX12_ways_22 rfl (lv_at hl 2 rfl) ?_
    refine lv_aload_n hx hb dX12_ways_23 rfl (lv_at hl 0 rfl) ?_
    refine lv_iload_n hx hb dX12_ways_24 rfl (lv_at hl 1 rfl) ?_
    obtain ⟨r_8, S_7, er_8, h⟩ := sd_cl_some h
    refine k_X12_beginner C X hl.1 er_8 sd_w32_3 (by decide) (Nat.le_of_ble_eq_true rfl) dX12_ways_25 (fun H locs X => ?_)
    obtain ⟨r_10, S_9, er_10, h⟩ := sd_cl_some h
    refine k_X12_waysOf C X hl.1 er_10 sd_w34_7 (by decide) (Nat.le_of_ble_eq_true rfl) dX12_ways_28 (fun H locs X => ?_)
    refine lv_l2i (v := r_10.toInt32) hx hb dX12_ways_31 rfl ?_
    cases h
    exact sd_iret C X dX12_ways_32
  · have h := sd_ifp c_4 h
    refine lv_iconst (v := (-1 : Int32)) hx hb dX12_ways_14 (by decide) ?_
    cases h
    exact sd_iret C X dX12_ways_15
theorem k_X12_ways (C : sd_C own cc nL rt D cy ad A b0 p s m args meth c) (X : sd_H D cy ad A s S H locs) (hls : ls.size = nL) {x1 : Int32} {x2 : Int32} {S2 : sd_St} {r : Int32} (h : f_X12_ways x1 x2 S = some (r, S2)) (hlink : Cond.methodLink own index yX12_ways ∈ sd_wl) (hR : 20 ≤ R.frames ∧ 782 ≤ R.locals ∧ cells ≤ R.cells ∧ slots ≤ R.slots) (hst : (rest.map fun v => v.category).sum ≤ 8) (hdg : decode cc pc = .ok (.invokevirtual index, 3)) (kk : ∀ (H1 : Heap) (locs1 : List Loc), sd_H D cy ad A s S2 H1 locs1 → W p l e R s m args below meth c H1 locs1 cells slots Q (F0 m (pc + 3) ls (.int r :: rest))) : W p l e R s m args below meth c H locs cells slots Q (F0 m pc ls (.int x2 :: .int x1 :: .ref (ad 130) :: rest)) :=
  sd_goI X (sd_runV C X hls (n := 2) (k := 130) (As := [.int x1, .int x2]) (c_X12_ways (l := l) (b0 := b0) h) (sd_goodV hlink sd_w34_4 sd_w34_5 sd_w1_5 sd_w34_6) (ci := 12) rfl (by rw [(show sd_kd 130 = 12 by decide)]; decide) (sd_c12 (show sd_kd 130 = 12 by decide)) (by decide +kernel) rfl hR rfl hst hdg) kk
end SM79
