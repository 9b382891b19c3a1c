section SM5
variable {p : Program} {l : Launch} {e : Env} {R : Room} {s : State} {m : MethodId} {args : Array Value} {below : List Frame} {meth : Method} {c : Code} {H : Heap} {locs : List Loc} {Q : State → Prop}
variable {cc : ByteArray} {pc nL index cells slots : Nat} {ls : Array Slot} {rest : List Value} {D : va_G} {cy : Nat → ClassId} {ad : Nat → Nat} {A : Nat → Prop} {b0 : Nat} {own : String} {rt : Option FieldType} {S : sd_St}
/-! ===== SecretDaysModel.tells(III)Z ===== -/
def f_X12_tells_b28 (x1 : Int32) (x3 : Int32) (S : sd_St) : Option (Int32 × sd_St) := sd_cl (f_X12_isFree x1 x3 S) (fun r_2 S_1 => (if r_2 = 0 then (some ((0 : Int32), S_1)) else (some ((1 : Int32), S_1))))
set_option maxHeartbeats 4000000 in
set_option maxRecDepth 100000 in
theorem t_X12_tells_b28 (C : sd_C RX12 cX12_tells 4 (some .boolean) D cy ad A b0 p s m args meth c) {r : Int32} {S' : sd_St} : ∀ (x1 : Int32) (x3 : Int32) (S : sd_St) (H : Heap) (locs : List Loc) (ls : Array Slot), f_X12_tells_b28 x1 x3 S = some (r, S') → sd_H D cy ad A s S H locs → lv_has ls 4 [(0, .ref (ad 130)), (1, .int x1), (3, .int x3)] → W p l e (sd_rm 3) s m args below meth c H locs 0 0 (MQ below (sd_Qi D cy ad A r S') args s 0 0 A) (F0 m 28 ls []) := by
  obtain ⟨hx, hb, -, hml, hown, hts, -, hG⟩ := id C
  intro x1 x3 S H locs ls h X hl
  unfold f_X12_tells_b28 at h
  refine lv_aload_n hx hb dX12_tells_28 rfl (lv_at hl 0 rfl) ?_
  refine lv_iload_n hx hb dX12_tells_29 rfl (lv_at hl 1 rfl) ?_
  refine lv_iload_n hx hb dX12_tells_30 rfl (lv_at hl 2 rfl) ?_
  obtain ⟨r_2, S_1, er_2, h⟩ := sd_cl_some h
  refine k_X12_isFree C X hl.1 er_2 sd_w27_5 (by decide) (Nat.le_of_ble_eq_true rfl) dX12_tells_31 (fun H locs X => ?_)
  refine lv_if_eq (tgt := 41) hx hb dX12_tells_34 (by decide) (fun c_3 => ?_) (fun c_3 => ?_)
  · have h := sd_ifp c_3 h
    refine lv_iconst (v := (0 : Int32)) hx hb dX12_tells_41 (by decide) ?_
    cases h
    exact sd_zret C X (by decide) dX12_tells_42
  · have h := sd_ifn c_3 h
    refine lv_iconst (v := (1 : Int32)) hx hb dX12_tells_37 (by decide) ?_
    refine lv_goto (tgt := 42) hx hb dX12_tells_38 (by decide) ?_
    cases h
    exact sd_zret C X (by decide) dX12_tells_42
def f_X12_tells (x1 : Int32) (x2 : Int32) (x3 : Int32) (S : sd_St) : Option (Int32 × sd_St) := (if x1 = x2 then sd_ld S 140 x1 (fun v_7 => (if x3 < v_7 then (some ((0 : Int32), S)) else f_X12_tells_b28 x1 x3 S)) else sd_ld S 140 x1 (fun v_5 => (if x3 ≤ v_5 then (some ((0 : Int32), S)) else f_X12_tells_b28 x1 x3 S)))
set_option maxHeartbeats 4000000 in
set_option maxRecDepth 100000 in
theorem c_X12_tells {x1 : Int32} {x2 : Int32} {x3 : Int32} {S S' : sd_St} {r : Int32} (h : f_X12_tells x1 x2 x3 S = some (r, S')) : Met l yX12_tells (Cond.code yX12_tells cX12_tells 4 (some .boolean) :: sd_wl) (sd_rm 3) (sd_P D cy ad A b0 [.ref (ad 130), .int x1, .int x2, .int x3] S) (sd_Qi D cy ad A r S') 0 0 A := by
  refine sd_met (by decide) (Nat.le_of_ble_eq_true rfl) (fun p e s m args below meth c ls C X hl => ?_)
  obtain ⟨hx, hb, -, hml, hown, hts, -, hG⟩ := id C
  replace C : sd_C RX12 cX12_tells 4 (some .boolean) D cy ad A b0 p s m args meth c := C
  replace hl : lv_has ls 4 [(0, .ref (ad 130)), (1, .int x1), (2, .int x2), (3, .int x3)] := hl
  unfold f_X12_tells at h
  refine lv_iload_n hx hb dX12_tells_0 rfl (lv_at hl 1 rfl) ?_
  refine lv_iload_n hx hb dX12_tells_1 rfl (lv_at hl 2 rfl) ?_
  refine lv_icmp_ne (tgt := 18) hx hb dX12_tells_2 (by decide) (fun c_4 => ?_) (fun c_4 => ?_)
  · have h := sd_ifn c_4 h
    refine lv_aload_n hx hb dX12_tells_18 rfl (lv_at hl 0 rfl) ?_
    refine sd_g12_17 (k := 130) C X (by decide) sd_w8_12 dX12_tells_19 ?_
    refine lv_iload_n hx hb dX12_tells_22 rfl (lv_at hl 1 rfl) ?_
    obtain ⟨b_5, v_5, e_5, h⟩ := sd_ld_some h
    refine sd_iald C X (by decide) b_5 dX12_tells_23 (sd_nmi e_5 ?_)
    refine lv_iload_n hx hb dX12_tells_24 rfl (lv_at hl 3 rfl) ?_
    refine lv_icmp_ge (tgt := 41) hx hb dX12_tells_25 (by decide) (fun c_6 => ?_) (fun c_6 => ?_)
    · have h := sd_ifp c_6 h
      refine lv_iconst (v := (0 : Int32)) hx hb dX12_tells_41 (by decide) ?_
      cases h
      exact sd_zret C X (by decide) dX12_tells_42
    · have h := sd_ifn c_6 h
      exact t_X12_tells_b28 C x1 x3 S _ _ _ h X (lv_sub hl [0, 1, 3] rfl)
  · have h := sd_ifp c_4 h
    refine lv_aload_n hx hb dX12_tells_5 rfl (lv_at hl 0 rfl) ?_
    refine sd_g12_17 (k := 130) C X (by decide) sd_w8_12 dX12_tells_6 ?_
    refine lv_iload_n hx hb dX12_tells_9 rfl (lv_at hl 1 rfl) ?_
    obtain ⟨b_7, v_7, e_7, h⟩ := sd_ld_some h
    refine sd_iald C X (by decide) b_7 dX12_tells_10 (sd_nmi e_7 ?_)
    refine lv_iload_n hx hb dX12_tells_11 rfl (lv_at hl 3 rfl) ?_
    refine lv_icmp_gt (tgt := 41) hx hb dX12_tells_12 (by decide) (fun c_8 => ?_) (fun c_8 => ?_)
    · have h := sd_ifp c_8 h
      refine lv_iconst (v := (0 : Int32)) hx hb dX12_tells_41 (by decide) ?_
      cases h
      exact sd_zret C X (by decide) dX12_tells_42
    · have h := sd_ifn c_8 h
      refine lv_goto (tgt := 28) hx hb dX12_tells_15 (by decide) ?_
      exact t_X12_tells_b28 C x1 x3 S _ _ _ h X (lv_sub hl [0, 1, 3] rfl)
theorem k_X12_tells (C : sd_C own cc nL rt D cy ad A b0 p s m args meth c) (X : sd_H D cy ad A s S H locs) (hls : ls.size = nL) {x1 : Int32} {x2 : Int32} {x3 : Int32} {S2 : sd_St} {r : Int32} (h : f_X12_tells x1 x2 x3 S = some (r, S2)) (hlink : Cond.methodLink own index yX12_tells ∈ sd_wl) (hR : 4 ≤ R.frames ∧ 143 ≤ R.locals ∧ cells ≤ R.cells ∧ slots ≤ R.slots) (hst : (rest.map fun v => v.category).sum ≤ 8) (hdg : decode cc pc = .ok (.invokevirtual index, 3)) (kk : ∀ (H1 : Heap) (locs1 : List Loc), sd_H D cy ad A s S2 H1 locs1 → W p l e R s m args below meth c H1 locs1 cells slots Q (F0 m (pc + 3) ls (.int r :: rest))) : W p l e R s m args below meth c H locs cells slots Q (F0 m pc ls (.int x3 :: .int x2 :: .int x1 :: .ref (ad 130) :: rest)) :=
  sd_goI X (sd_runV C X hls (n := 3) (k := 130) (As := [.int x1, .int x2, .int x3]) (c_X12_tells (l := l) (b0 := b0) h) (sd_goodV hlink sd_w33_1 sd_w33_2 sd_w1_5 sd_w33_3) (ci := 12) rfl (by rw [(show sd_kd 130 = 12 by decide)]; decide) (sd_c12 (show sd_kd 130 = 12 by decide)) (by decide +kernel) rfl hR rfl hst hdg) kk
/-! ===== SecretDaysModel.goes(II)V ===== -/
def f_X12_goes_b27 (q2 : (Int32 → Int32 → Int32 → sd_St → Option (Unit × sd_St))) (x1 : Int32) (x2 : Int32) (x3 : Int32) (w1 : Int32) (w2 : Int32) (S : sd_St) : Option (Unit × sd_St) := sd_st S 140 w1 w2 (fun S_1 => sd_st S_1 141 x3 (-1 : Int32) (fun S_2 => q2 x1 x2 (x3 + (1 : Int32)) S_2))
set_option maxHeartbeats 4000000 in
set_option maxRecDepth 100000 in
theorem t_X12_goes_b27 (C : sd_C RX12 cX12_goes 7 none D cy ad A b0 p s m args meth c) {S' : sd_St} {q2 : (Int32 → Int32 → Int32 → sd_St → Option (Unit × sd_St))} (hq2 : ∀ (x1 : Int32) (x2 : Int32) (x3 : Int32) (S : sd_St) (H : Heap) (locs : List Loc) (ls : Array Slot), q2 x1 x2 x3 S = some ((), S') → sd_H D cy ad A s S H locs → lv_has ls 7 [(0, .ref (ad 130)), (1, .int x1), (2, .int x2), (3, .int x3)] → W p l e (sd_rm 4) s m args below meth c H locs 0 0 (MQ below (sd_Qv D cy ad A S') args s 0 0 A) (F0 m 2 ls [])) : ∀ (x1 : Int32) (x2 : Int32) (x3 : Int32) (w1 : Int32) (w2 : Int32) (S : sd_St) (H : Heap) (locs : List Loc) (ls : Array Slot), f_X12_goes_b27 q2 x1 x2 x3 w1 w2 S = some ((), S') → sd_H D cy ad A s S H locs → lv_has ls 7 [(0, .ref (ad 130)), (1, .int x1), (2, .int x2), (3, .int x3)] → W p l e (sd_rm 4) s m args below meth c H locs 0 0 (MQ below (sd_Qv D cy ad A S') args s 0 0 A) (F0 m 27 ls [.int w2, .int w1, .ref (ad 140)]) := by
  obtain ⟨hx, hb, -, hml, hown, hts, -, hG⟩ := id C
  intro x1 x2 x3 w1 w2 S H locs ls h X hl
  unfold f_X12_goes_b27 at h
  obtain ⟨bS_1, S_1, eS_1, h⟩ := sd_st_some h
  refine sd_iast C X (by decide) bS_1 dX12_goes_27 (fun H locs X => ?_)
  rw [← eS_1] at X
  refine lv_aload_n hx hb dX12_goes_28 rfl (lv_at hl 0 rfl) ?_
  refine sd_g12_18 (k := 130) C X (by decide) sd_w8_13 dX12_goes_29 ?_
  refine lv_iload_n hx hb dX12_goes_32 rfl (lv_at hl 3 rfl) ?_
  refine lv_iconst (v := (-1 : Int32)) hx hb dX12_goes_33 (by decide) ?_
  obtain ⟨bS_2, S_2, eS_2, h⟩ := sd_st_some h
  refine sd_iast C X (by decide) bS_2 dX12_goes_34 (fun H locs X => ?_)
  rw [← eS_2] at X
  refine lv_iinc (v := (x3 + (1 : Int32))) (lv' := [(3, .int (x3 + (1 : Int32))), (0, .ref (ad 130)), (1, .int x1), (2, .int x2)]) hx hb dX12_goes_35 hl (k := 3) rfl rfl (by decide) rfl (fun ls hl => ?_)
  refine lv_goto (tgt := 2) hx hb dX12_goes_38 (by decide) ?_
  exact hq2 x1 x2 (x3 + (1 : Int32)) S_2 _ _ _ h X (lv_sub hl [1, 2, 3, 0] rfl)
def f_X12_goes_b186 (q47 : (Int32 → Int32 → sd_St → Option (Unit × sd_St))) (q85 : (Int32 → Int32 → Int32 → Int32 → sd_St → Option (Unit × sd_St))) (q124 : (Int32 → Int32 → Int32 → Int32 → Int32 → sd_St → Option (Unit × sd_St))) (x1 : Int32) (x3 : Int32) (x4 : Int32) (x5 : Int32) (x6 : Int32) (S : sd_St) : Option (Unit × sd_St) := q124 x1 x3 x4 x5 (x6 + (1 : Int32)) S
set_option maxHeartbeats 4000000 in
set_option maxRecDepth 100000 in
theorem t_X12_goes_b186 (C : sd_C RX12 cX12_goes 7 none D cy ad A b0 p s m args meth c) {S' : sd_St} {q47 : (Int32 → Int32 → sd_St → Option (Unit × sd_St))} {q85 : (Int32 → Int32 → Int32 → Int32 → sd_St → Option (Unit × sd_St))} {q124 : (Int32 → Int32 → Int32 → Int32 → Int32 → sd_St → Option (Unit × sd_St))} (hq47 : ∀ (x1 : Int32) (x3 : Int32) (S : sd_St) (H : Heap) (locs : List Loc) (ls : Array Slot), q47 x1 x3 S = some ((), S') → sd_H D cy ad A s S H locs → lv_has ls 7 [(0, .ref (ad 130)), (1, .int x1), (3, .int x3)] → W p l e (sd_rm 4) s m args below meth c H locs 0 0 (MQ below (sd_Qv D cy ad A S') args s 0 0 A) (F0 m 47 ls [])) (hq85 : ∀ (x1 : Int32) (x3 : Int32) (x4 : Int32) (x5 : Int32) (S : sd_St) (H : Heap) (locs : List Loc) (ls : Array Slot), q85 x1 x3 x4 x5 S = some ((), S') → sd_H D cy ad A s S H locs → lv_has ls 7 [(0, .ref (ad 130)), (1, .int x1), (3, .int x3), (4, .int x4), (5, .int x5)] → W p l e (sd_rm 4) s m args below meth c H locs 0 0 (MQ below (sd_Qv D cy ad A S') args s 0 0 A) (F0 m 85 ls [])) (hq124 : ∀ (x1 : Int32) (x3 : Int32) (x4 : Int32) (x5 : Int32) (x6 : Int32) (S : sd_St) (H : Heap) (locs : List Loc) (ls : Array Slot), q124 x1 x3 x4 x5 x6 S = some ((), S') → sd_H D cy ad A s S H locs → lv_has ls 7 [(0, .ref (ad 130)), (1, .int x1), (3, .int x3), (4, .int x4), (5, .int x5), (6, .int x6)] → W p l e (sd_rm 4) s m args below meth c H locs 0 0 (MQ below (sd_Qv D cy ad A S') args s 0 0 A) (F0 m 124 ls [])) : ∀ (x1 : Int32) (x3 : Int32) (x4 : Int32) (x5 : Int32) (x6 : Int32) (S : sd_St) (H : Heap) (locs : List Loc) (ls : Array Slot), f_X12_goes_b186 q47 q85 q124 x1 x3 x4 x5 x6 S = some ((), S') → sd_H D cy ad A s S H locs → lv_has ls 7 [(0, .ref (ad 130)), (1, .int x1), (3, .int x3), (4, .int x4), (5, .int x5), (6, .int x6)] → W p l e (sd_rm 4) s m args below meth c H locs 0 0 (MQ below (sd_Qv D cy ad A S') args s 0 0 A) (F0 m 186 ls []) := by
  obtain ⟨hx, hb, -, hml, hown, hts, -, hG⟩ := id C
  intro x1 x3 x4 x5 x6 S H locs ls h X hl
  unfold f_X12_goes_b186 at h
  refine lv_iinc (v := (x6 + (1 : Int32))) (lv' := [(6, .int (x6 + (1 : Int32))), (0, .ref (ad 130)), (1, .int x1), (3, .int x3), (4, .int x4), (5, .int x5)]) hx hb dX12_goes_186 hl (k := 5) rfl rfl (by decide) rfl (fun ls hl => ?_)
  refine lv_goto (tgt := 124) hx hb dX12_goes_189 (by decide) ?_
  exact hq124 x1 x3 x4 x5 (x6 + (1 : Int32)) S _ _ _ h X (lv_sub hl [1, 2, 3, 4, 5, 0] rfl)
def f_X12_goes_b192 (q47 : (Int32 → Int32 → sd_St → Option (Unit × sd_St))) (q85 : (Int32 → Int32 → Int32 → Int32 → sd_St → Option (Unit × sd_St))) (x1 : Int32) (x3 : Int32) (x4 : Int32) (x5 : Int32) (S : sd_St) : Option (Unit × sd_St) := q85 x1 x3 x4 (x5 + (1 : Int32)) S
set_option maxHeartbeats 4000000 in
set_option maxRecDepth 100000 in
theorem t_X12_goes_b192 (C : sd_C RX12 cX12_goes 7 none D cy ad A b0 p s m args meth c) {S' : sd_St} {q47 : (Int32 → Int32 → sd_St → Option (Unit × sd_St))} {q85 : (Int32 → Int32 → Int32 → Int32 → sd_St → Option (Unit × sd_St))} (hq47 : ∀ (x1 : Int32) (x3 : Int32) (S : sd_St) (H : Heap) (locs : List Loc) (ls : Array Slot), q47 x1 x3 S = some ((), S') → sd_H D cy ad A s S H locs → lv_has ls 7 [(0, .ref (ad 130)), (1, .int x1), (3, .int x3)] → W p l e (sd_rm 4) s m args below meth c H locs 0 0 (MQ below (sd_Qv D cy ad A S') args s 0 0 A) (F0 m 47 ls [])) (hq85 : ∀ (x1 : Int32) (x3 : Int32) (x4 : Int32) (x5 : Int32) (S : sd_St) (H : Heap) (locs : List Loc) (ls : Array Slot), q85 x1 x3 x4 x5 S = some ((), S') → sd_H D cy ad A s S H locs → lv_has ls 7 [(0, .ref (ad 130)), (1, .int x1), (3, .int x3), (4, .int x4), (5, .int x5)] → W p l e (sd_rm 4) s m args below meth c H locs 0 0 (MQ below (sd_Qv D cy ad A S') args s 0 0 A) (F0 m 85 ls [])) : ∀ (x1 : Int32) (x3 : Int32) (x4 : Int32) (x5 : Int32) (S : sd_St) (H : Heap) (locs : List Loc) (ls : Array Slot), f_X12_goes_b192 q47 q85 x1 x3 x4 x5 S = some ((), S') → sd_H D cy ad A s S H locs → lv_has ls 7 [(0, .ref (ad 130)), (1, .int x1), (3, .int x3), (4, .int x4), (5, .int x5)] → W p l e (sd_rm 4) s m args below meth c H locs 0 0 (MQ below (sd_Qv D cy ad A S') args s 0 0 A) (F0 m 192 ls []) := by
  obtain ⟨hx, hb, -, hml, hown, hts, -, hG⟩ := id C
  intro x1 x3 x4 x5 S H locs ls h X hl
  unfold f_X12_goes_b192 at h
  refine lv_iinc (v := (x5 + (1 : Int32))) (lv' := [(5, .int (x5 + (1 : Int32))), (0, .ref (ad 130)), (1, .int x1), (3, .int x3), (4, .int x4)]) hx hb dX12_goes_192 hl (k := 4) rfl rfl (by decide) rfl (fun ls hl => ?_)
  refine lv_goto (tgt := 85) hx hb dX12_goes_195 (by decide) ?_
  exact hq85 x1 x3 x4 (x5 + (1 : Int32)) S _ _ _ h X (lv_sub hl [1, 2, 3, 4, 0] rfl)
def f_X12_goes_l124 (q47 : (Int32 → Int32 → sd_St → Option (Unit × sd_St))) (q85 : (Int32 → Int32 → Int32 → Int32 → sd_St → Option (Unit × sd_St))) : Nat → Int32 → Int32 → Int32 → Int32 → Int32 → sd_St → Option (Unit × sd_St)
  | 0 => fun _ _ _ _ _ _ => none
  | n + 1 => fun x1 x3 x4 x5 x6 S => sd_cl (f_X12_people S) (fun r_4 S_3 => (if r_4 ≤ x6 then f_X12_goes_b192 q47 q85 x1 x3 x4 x5 S_3 else sd_ld S_3 140 x6 (fun v_6 => (if v_6 = (1000000 : Int32) then sd_cl (f_X12_calls x6 x5 S_3) (fun r_9 S_8 => (if r_9 = 0 then f_X12_goes_b186 q47 q85 (f_X12_goes_l124 q47 q85 n) x1 x3 x4 x5 x6 S_8 else sd_cl (f_X12_isGone x6 x4 S_8) (fun r_12 S_11 => (if r_12 = 0 then sd_st S_11 140 x6 x4 (fun S_14 => sd_st S_14 141 x6 x5 (fun S_15 => f_X12_goes_b186 q47 q85 (f_X12_goes_l124 q47 q85 n) x1 x3 x4 x5 x6 S_15)) else f_X12_goes_b186 q47 q85 (f_X12_goes_l124 q47 q85 n) x1 x3 x4 x5 x6 S_11)))) else f_X12_goes_b186 q47 q85 (f_X12_goes_l124 q47 q85 n) x1 x3 x4 x5 x6 S_3))))
set_option maxHeartbeats 4000000 in
set_option maxRecDepth 100000 in
theorem t_X12_goes_l124 (C : sd_C RX12 cX12_goes 7 none D cy ad A b0 p s m args meth c) {S' : sd_St} {q47 : (Int32 → Int32 → sd_St → Option (Unit × sd_St))} {q85 : (Int32 → Int32 → Int32 → Int32 → sd_St → Option (Unit × sd_St))} (hq47 : ∀ (x1 : Int32) (x3 : Int32) (S : sd_St) (H : Heap) (locs : List Loc) (ls : Array Slot), q47 x1 x3 S = some ((), S') → sd_H D cy ad A s S H locs → lv_has ls 7 [(0, .ref (ad 130)), (1, .int x1), (3, .int x3)] → W p l e (sd_rm 4) s m args below meth c H locs 0 0 (MQ below (sd_Qv D cy ad A S') args s 0 0 A) (F0 m 47 ls [])) (hq85 : ∀ (x1 : Int32) (x3 : Int32) (x4 : Int32) (x5 : Int32) (S : sd_St) (H : Heap) (locs : List Loc) (ls : Array Slot), q85 x1 x3 x4 x5 S = some ((), S') → sd_H D cy ad A s S H locs → lv_has ls 7 [(0, .ref (ad 130)), (1, .int x1), (3, .int x3), (4, .int x4), (5, .int x5)] → W p l e (sd_rm 4) s m args below meth c H locs 0 0 (MQ below (sd_Qv D cy ad A S') args s 0 0 A) (F0 m 85 ls [])) : ∀ (n : Nat) (x1 : Int32) (x3 : Int32) (x4 : Int32) (x5 : Int32) (x6 : Int32) (S : sd_St) (H : Heap) (locs : List Loc) (ls : Array Slot), f_X12_goes_l124 q47 q85 n x1 x3 x4 x5 x6 S = some ((), S') → sd_H D cy ad A s S H locs → lv_has ls 7 [(0, .ref (ad 130)), (1, .int x1), (3, .int x3), (4, .int x4), (5, .int x5), (6, .int x6)] → W p l e (sd_rm 4) s m args below meth c H locs 0 0 (MQ below (sd_Qv D cy ad A S') args s 0 0 A) (F0 m 124 ls []) := by
  obtain ⟨hx, hb, -, hml, hown, hts, -, hG⟩ := id C
  intro n
  induction n with
  | zero => intro x1 x3 x4 x5 x6 S H locs ls h; cases h
  | succ n ih =>
    intro x1 x3 x4 x5 x6 S H locs ls h X hl
    unfold f_X12_goes_l124 at h
    refine lv_iload hx hb dX12_goes_124 (lv_at hl 5 rfl) ?_
    refine lv_aload_n hx hb dX12_goes_126 rfl (lv_at hl 0 rfl) ?_
    obtain ⟨r_4, S_3, er_4, h⟩ := sd_cl_some h
    refine k_X12_people C X hl.1 er_4 sd_w24_18 (by decide) (Nat.le_of_ble_eq_true rfl) dX12_goes_127 (fun H locs X => ?_)
    refine lv_icmp_ge (tgt := 192) hx hb dX12_goes_130 (by decide) (fun c_5 => ?_) (fun c_5 => ?_)
    · have h := sd_ifp c_5 h
      exact t_X12_goes_b192 C hq47 hq85 x1 x3 x4 x5 S_3 _ _ _ h X (lv_sub hl [0, 1, 2, 3, 4] rfl)
    · have h := sd_ifn c_5 h
      refine lv_aload_n hx hb dX12_goes_133 rfl (lv_at hl 0 rfl) ?_
      refine sd_g12_17 (k := 130) C X (by decide) sd_w8_12 dX12_goes_134 ?_
      refine lv_iload hx hb dX12_goes_137 (lv_at hl 5 rfl) ?_
      obtain ⟨b_6, v_6, e_6, h⟩ := sd_ld_some h
      refine sd_iald C X (by decide) b_6 dX12_goes_139 (sd_nmi e_6 ?_)
      refine lv_ldcw (v := (1000000 : Int32)) hx hb hown (hts _ sd_w31_10) dX12_goes_140 ?_
      refine lv_icmp_ne (tgt := 186) hx hb dX12_goes_143 (by decide) (fun c_7 => ?_) (fun c_7 => ?_)
      · have h := sd_ifn c_7 h
        exact t_X12_goes_b186 C hq47 hq85 ih x1 x3 x4 x5 x6 S_3 _ _ _ h X (lv_sub hl [0, 1, 2, 3, 4, 5] rfl)
      · have h := sd_ifp c_7 h
        refine lv_aload_n hx hb dX12_goes_146 rfl (lv_at hl 0 rfl) ?_
        refine lv_iload hx hb dX12_goes_147 (lv_at hl 5 rfl) ?_
        refine lv_iload hx hb dX12_goes_149 (lv_at hl 4 rfl) ?_
        obtain ⟨r_9, S_8, er_9, h⟩ := sd_cl_some h
        refine k_X12_calls C X hl.1 er_9 sd_w25_1 (by decide) (Nat.le_of_ble_eq_true rfl) dX12_goes_151 (fun H locs X => ?_)
        refine lv_if_eq (tgt := 186) hx hb dX12_goes_154 (by decide) (fun c_10 => ?_) (fun c_10 => ?_)
        · have h := sd_ifp c_10 h
          exact t_X12_goes_b186 C hq47 hq85 ih x1 x3 x4 x5 x6 S_8 _ _ _ h X (lv_sub hl [0, 1, 2, 3, 4, 5] rfl)
        · have h := sd_ifn c_10 h
          refine lv_aload_n hx hb dX12_goes_157 rfl (lv_at hl 0 rfl) ?_
          refine lv_iload hx hb dX12_goes_158 (lv_at hl 5 rfl) ?_
          refine lv_iload hx hb dX12_goes_160 (lv_at hl 3 rfl) ?_
          obtain ⟨r_12, S_11, er_12, h⟩ := sd_cl_some h
          refine k_X12_isGone C X hl.1 er_12 sd_w27_17 (by decide) (Nat.le_of_ble_eq_true rfl) dX12_goes_162 (fun H locs X => ?_)
          refine lv_if_ne (tgt := 186) hx hb dX12_goes_165 (by decide) (fun c_13 => ?_) (fun c_13 => ?_)
          · have h := sd_ifn c_13 h
            exact t_X12_goes_b186 C hq47 hq85 ih x1 x3 x4 x5 x6 S_11 _ _ _ h X (lv_sub hl [0, 1, 2, 3, 4, 5] rfl)
          · have h := sd_ifp c_13 h
            refine lv_aload_n hx hb dX12_goes_168 rfl (lv_at hl 0 rfl) ?_
            refine sd_g12_17 (k := 130) C X (by decide) sd_w8_12 dX12_goes_169 ?_
            refine lv_iload hx hb dX12_goes_172 (lv_at hl 5 rfl) ?_
            refine lv_iload hx hb dX12_goes_174 (lv_at hl 3 rfl) ?_
            obtain ⟨bS_14, S_14, eS_14, h⟩ := sd_st_some h
            refine sd_iast C X (by decide) bS_14 dX12_goes_176 (fun H locs X => ?_)
            rw [← eS_14] at X
            refine lv_aload_n hx hb dX12_goes_177 rfl (lv_at hl 0 rfl) ?_
            refine sd_g12_18 (k := 130) C X (by decide) sd_w8_13 dX12_goes_178 ?_
            refine lv_iload hx hb dX12_goes_181 (lv_at hl 5 rfl) ?_
            refine lv_iload hx hb dX12_goes_183 (lv_at hl 4 rfl) ?_
            obtain ⟨bS_15, S_15, eS_15, h⟩ := sd_st_some h
            refine sd_iast C X (by decide) bS_15 dX12_goes_185 (fun H locs X => ?_)
            rw [← eS_15] at X
            exact t_X12_goes_b186 C hq47 hq85 ih x1 x3 x4 x5 x6 S_15 _ _ _ h X (lv_sub hl [0, 1, 2, 3, 4, 5] rfl)
def f_X12_goes_l85 (q47 : (Int32 → Int32 → sd_St → Option (Unit × sd_St))) : Nat → Int32 → Int32 → Int32 → Int32 → sd_St → Option (Unit × sd_St)
  | 0 => fun _ _ _ _ _ => none
  | n + 1 => fun x1 x3 x4 x5 S => sd_cl (f_X12_people S) (fun r_17 S_16 => (if r_17 ≤ x5 then q47 x1 (x3 + (1 : Int32)) S_16 else sd_cl (f_X12_isDayOf x5 (sd_rem x4 (366 : Int32)) S_16) (fun r_20 S_19 => (if r_20 = 0 then f_X12_goes_b192 q47 (f_X12_goes_l85 q47 n) x1 x3 x4 x5 S_19 else sd_cl (f_X12_tells x5 x1 x4 S_19) (fun r_23 S_22 => (if r_23 = 0 then f_X12_goes_b192 q47 (f_X12_goes_l85 q47 n) x1 x3 x4 x5 S_22 else f_X12_goes_l124 q47 (f_X12_goes_l85 q47 n) sd_FU x1 x3 x4 x5 (0 : Int32) S_22))))))
set_option maxHeartbeats 4000000 in
set_option maxRecDepth 100000 in
theorem t_X12_goes_l85 (C : sd_C RX12 cX12_goes 7 none D cy ad A b0 p s m args meth c) {S' : sd_St} {q47 : (Int32 → Int32 → sd_St → Option (Unit × sd_St))} (hq47 : ∀ (x1 : Int32) (x3 : Int32) (S : sd_St) (H : Heap) (locs : List Loc) (ls : Array Slot), q47 x1 x3 S = some ((), S') → sd_H D cy ad A s S H locs → lv_has ls 7 [(0, .ref (ad 130)), (1, .int x1), (3, .int x3)] → W p l e (sd_rm 4) s m args below meth c H locs 0 0 (MQ below (sd_Qv D cy ad A S') args s 0 0 A) (F0 m 47 ls [])) : ∀ (n : Nat) (x1 : Int32) (x3 : Int32) (x4 : Int32) (x5 : Int32) (S : sd_St) (H : Heap) (locs : List Loc) (ls : Array Slot), f_X12_goes_l85 q47 n x1 x3 x4 x5 S = some ((), S') → sd_H D cy ad A s S H locs → lv_has ls 7 [(0, .ref (ad 130)), (1, .int x1), (3, .int x3), (4, .int x4), (5, .int x5)] → W p l e (sd_rm 4) s m args below meth c H locs 0 0 (MQ below (sd_Qv D cy ad A S') args s 0 0 A) (F0 m 85 ls []) := by
  obtain ⟨hx, hb, -, hml, hown, hts, -, hG⟩ := id C
  intro n
  induction n with
  | zero => intro x1 x3 x4 x5 S H locs ls h; cases h
  | succ n ih =>
    intro x1 x3 x4 x5 S H locs ls h X hl
    unfold f_X12_goes_l85 at h
    refine lv_iload hx hb dX12_goes_85 (lv_at hl 4 rfl) ?_
    refine lv_aload_n hx hb dX12_goes_87 rfl (lv_at hl 0 rfl) ?_
    obtain ⟨r_17, S_16, er_17, h⟩ := sd_cl_some h
    refine k_X12_people C X hl.1 er_17 sd_w24_18 (by decide) (Nat.le_of_ble_eq_true rfl) dX12_goes_88 (fun H locs X => ?_)
    refine lv_icmp_ge (tgt := 198) hx hb dX12_goes_91 (by decide) (fun c_18 => ?_) (fun c_18 => ?_)
    · have h := sd_ifp c_18 h
      refine lv_iinc (v := (x3 + (1 : Int32))) (lv' := [(3, .int (x3 + (1 : Int32))), (0, .ref (ad 130)), (1, .int x1), (4, .int x4), (5, .int x5)]) hx hb dX12_goes_198 hl (k := 2) rfl rfl (by decide) rfl (fun ls hl => ?_)
      refine lv_goto (tgt := 47) hx hb dX12_goes_201 (by decide) ?_
      exact hq47 x1 (x3 + (1 : Int32)) S_16 _ _ _ h X (lv_sub hl [1, 2, 0] rfl)
    · have h := sd_ifn c_18 h
      refine lv_aload_n hx hb dX12_goes_94 rfl (lv_at hl 0 rfl) ?_
      refine lv_iload hx hb dX12_goes_95 (lv_at hl 4 rfl) ?_
      refine lv_iload hx hb dX12_goes_97 (lv_at hl 3 rfl) ?_
      refine lv_sipush (v := (366 : Int32)) hx hb dX12_goes_99 (by decide) ?_
      refine lv_irem hx hb dX12_goes_102 (by decide) ?_
      obtain ⟨r_20, S_19, er_20, h⟩ := sd_cl_some h
      refine k_X12_isDayOf C X hl.1 er_20 sd_w27_9 (by decide) (Nat.le_of_ble_eq_true rfl) dX12_goes_103 (fun H locs X => ?_)
      refine lv_if_eq (tgt := 192) hx hb dX12_goes_106 (by decide) (fun c_21 => ?_) (fun c_21 => ?_)
      · have h := sd_ifp c_21 h
        exact t_X12_goes_b192 C hq47 ih x1 x3 x4 x5 S_19 _ _ _ h X (lv_sub hl [0, 1, 2, 3, 4] rfl)
      · have h := sd_ifn c_21 h
        refine lv_aload_n hx hb dX12_goes_109 rfl (lv_at hl 0 rfl) ?_
        refine lv_iload hx hb dX12_goes_110 (lv_at hl 4 rfl) ?_
        refine lv_iload_n hx hb dX12_goes_112 rfl (lv_at hl 1 rfl) ?_
        refine lv_iload hx hb dX12_goes_113 (lv_at hl 3 rfl) ?_
        obtain ⟨r_23, S_22, er_23, h⟩ := sd_cl_some h
        refine k_X12_tells C X hl.1 er_23 sd_w33_0 (by decide) (Nat.le_of_ble_eq_true rfl) dX12_goes_115 (fun H locs X => ?_)
        refine lv_if_eq (tgt := 192) hx hb dX12_goes_118 (by decide) (fun c_24 => ?_) (fun c_24 => ?_)
        · have h := sd_ifp c_24 h
          exact t_X12_goes_b192 C hq47 ih x1 x3 x4 x5 S_22 _ _ _ h X (lv_sub hl [0, 1, 2, 3, 4] rfl)
        · have h := sd_ifn c_24 h
          refine lv_iconst (v := (0 : Int32)) hx hb dX12_goes_121 (by decide) ?_
          refine lv_istore (lv' := [(6, .int (0 : Int32)), (0, .ref (ad 130)), (1, .int x1), (3, .int x3), (4, .int x4), (5, .int x5)]) hx hb dX12_goes_122 hl (by decide) rfl (fun ls hl => ?_)
          exact t_X12_goes_l124 C hq47 ih sd_FU x1 x3 x4 x5 (0 : Int32) S_22 _ _ _ h X (lv_sub hl [1, 2, 3, 4, 5, 0] rfl)
def f_X12_goes_l47 : Nat → Int32 → Int32 → sd_St → Option (Unit × sd_St)
  | 0 => fun _ _ _ => none
  | n + 1 => fun x1 x3 S => (if ((12 : Int32) * (S.1 130 16)) ≤ x3 then (some ((), S)) else sd_nz (S.1 130 16) (sd_nz (S.1 130 16) (sd_ld S 139 (sd_rem x3 (S.1 130 16)) (fun v_28 => sd_nm ((((366 : Int32) * (x3 / (S.1 130 16))) + v_28)) (fun v_29 => f_X12_goes_l85 (f_X12_goes_l47 n) sd_FU x1 x3 v_29 (0 : Int32) S)))))
set_option maxHeartbeats 4000000 in
set_option maxRecDepth 100000 in
theorem t_X12_goes_l47 (C : sd_C RX12 cX12_goes 7 none D cy ad A b0 p s m args meth c) {S' : sd_St} : ∀ (n : Nat) (x1 : Int32) (x3 : Int32) (S : sd_St) (H : Heap) (locs : List Loc) (ls : Array Slot), f_X12_goes_l47 n x1 x3 S = some ((), S') → sd_H D cy ad A s S H locs → lv_has ls 7 [(0, .ref (ad 130)), (1, .int x1), (3, .int x3)] → W p l e (sd_rm 4) s m args below meth c H locs 0 0 (MQ below (sd_Qv D cy ad A S') args s 0 0 A) (F0 m 47 ls []) := by
  obtain ⟨hx, hb, -, hml, hown, hts, -, hG⟩ := id C
  intro n
  induction n with
  | zero => intro x1 x3 S H locs ls h; cases h
  | succ n ih =>
    intro x1 x3 S H locs ls h X hl
    unfold f_X12_goes_l47 at h
    refine lv_iload_n hx hb dX12_goes_47 rfl (lv_at hl 2 rfl) ?_
    refine lv_bipush (v := (12 : Int32)) hx hb dX12_goes_48 (by decide) ?_
    refine lv_aload_n hx hb dX12_goes_50 rfl (lv_at hl 0 rfl) ?_
    refine sd_g12_16 C X (by decide) sd_w32_15 dX12_goes_51 ?_
    refine lv_imul hx hb dX12_goes_54 ?_
    refine lv_icmp_ge (tgt := 204) hx hb dX12_goes_55 (by decide) (fun c_25 => ?_) (fun c_25 => ?_)
    · have h := sd_ifp c_25 h
      cases h
      exact sd_vret C X dX12_goes_204
    · have h := sd_ifn c_25 h
      refine lv_sipush (v := (366 : Int32)) hx hb dX12_goes_58 (by decide) ?_
      refine lv_iload_n hx hb dX12_goes_61 rfl (lv_at hl 2 rfl) ?_
      refine lv_aload_n hx hb dX12_goes_62 rfl (lv_at hl 0 rfl) ?_
      refine sd_g12_16 C X (by decide) sd_w32_15 dX12_goes_63 ?_
      obtain ⟨c_26, h⟩ := sd_nz_some h
      refine lv_idiv hx hb dX12_goes_66 c_26 ?_
      refine lv_imul hx hb dX12_goes_67 ?_
      refine lv_aload_n hx hb dX12_goes_68 rfl (lv_at hl 0 rfl) ?_
      refine sd_g12_15 (k := 130) C X (by decide) sd_w8_11 dX12_goes_69 ?_
      refine lv_iload_n hx hb dX12_goes_72 rfl (lv_at hl 2 rfl) ?_
      refine lv_aload_n hx hb dX12_goes_73 rfl (lv_at hl 0 rfl) ?_
      refine sd_g12_16 C X (by decide) sd_w32_15 dX12_goes_74 ?_
      obtain ⟨c_27, h⟩ := sd_nz_some h
      refine lv_irem hx hb dX12_goes_77 c_27 ?_
      obtain ⟨b_28, v_28, e_28, h⟩ := sd_ld_some h
      refine sd_iald C X (by decide) b_28 dX12_goes_78 (sd_nmi e_28 ?_)
      refine lv_iadd hx hb dX12_goes_79 ?_
      obtain ⟨v_29, e_29, h⟩ := sd_nm_some h
      refine sd_nmi e_29 ?_
      refine lv_istore (lv' := [(4, .int v_29), (0, .ref (ad 130)), (1, .int x1), (3, .int x3)]) hx hb dX12_goes_80 hl (by decide) rfl (fun ls hl => ?_)
      refine lv_iconst (v := (0 : Int32)) hx hb dX12_goes_82 (by decide) ?_
      refine lv_istore (lv' := [(5, .int (0 : Int32)), (4, .int v_29), (0, .ref (ad 130)), (1, .int x1), (3, .int x3)]) hx hb dX12_goes_83 hl (by decide) rfl (fun ls hl => ?_)
      exact t_X12_goes_l85 C ih sd_FU x1 x3 v_29 (0 : Int32) S _ _ _ h X (lv_sub hl [2, 3, 4, 1, 0] rfl)
def f_X12_goes_l2 : Nat → Int32 → Int32 → Int32 → sd_St → Option (Unit × sd_St)
  | 0 => fun _ _ _ _ => none
  | n + 1 => fun x1 x2 x3 S => sd_cl (f_X12_people S) (fun r_31 S_30 => (if r_31 ≤ x3 then sd_cl (f_X12_findDays S_30) (fun _ S_33 => f_X12_goes_l47 sd_FU x1 (0 : Int32) S_33) else (if x3 = x1 then f_X12_goes_b27 (f_X12_goes_l2 n) x1 x2 x3 x3 x2 S_30 else f_X12_goes_b27 (f_X12_goes_l2 n) x1 x2 x3 x3 (1000000 : Int32) S_30)))
set_option maxHeartbeats 4000000 in
set_option maxRecDepth 100000 in
theorem t_X12_goes_l2 (C : sd_C RX12 cX12_goes 7 none D cy ad A b0 p s m args meth c) {S' : sd_St} : ∀ (n : Nat) (x1 : Int32) (x2 : Int32) (x3 : Int32) (S : sd_St) (H : Heap) (locs : List Loc) (ls : Array Slot), f_X12_goes_l2 n x1 x2 x3 S = some ((), S') → sd_H D cy ad A s S H locs → lv_has ls 7 [(0, .ref (ad 130)), (1, .int x1), (2, .int x2), (3, .int x3)] → W p l e (sd_rm 4) s m args below meth c H locs 0 0 (MQ below (sd_Qv D cy ad A S') args s 0 0 A) (F0 m 2 ls []) := by
  obtain ⟨hx, hb, -, hml, hown, hts, -, hG⟩ := id C
  intro n
  induction n with
  | zero => intro x1 x2 x3 S H locs ls h; cases h
  | succ n ih =>
    intro x1 x2 x3 S H locs ls h X hl
    unfold f_X12_goes_l2 at h
    refine lv_iload_n hx hb dX12_goes_2 rfl (lv_at hl 3 rfl) ?_
    refine lv_aload_n hx hb dX12_goes_3 rfl (lv_at hl 0 rfl) ?_
    obtain ⟨r_31, S_30, er_31, h⟩ := sd_cl_some h
    refine k_X12_people C X hl.1 er_31 sd_w24_18 (by decide) (Nat.le_of_ble_eq_true rfl) dX12_goes_4 (fun H locs X => ?_)
    refine lv_icmp_ge (tgt := 41) hx hb dX12_goes_7 (by decide) (fun c_32 => ?_) (fun c_32 => ?_)
    · have h := sd_ifp c_32 h
      refine lv_aload_n hx hb dX12_goes_41 rfl (lv_at hl 0 rfl) ?_
      obtain ⟨r_34, S_33, er_34, h⟩ := sd_cl_some h
      refine k_X12_findDays C X hl.1 er_34 sd_w32_16 (by decide) (Nat.le_of_ble_eq_true rfl) dX12_goes_42 (fun H locs X => ?_)
      refine lv_iconst (v := (0 : Int32)) hx hb dX12_goes_45 (by decide) ?_
      refine lv_istore_n (lv' := [(3, .int (0 : Int32)), (0, .ref (ad 130)), (1, .int x1), (2, .int x2)]) hx hb dX12_goes_46 rfl hl (by decide) rfl (fun ls hl => ?_)
      exact t_X12_goes_l47 C sd_FU x1 (0 : Int32) S_33 _ _ _ h X (lv_sub hl [1, 2, 0] rfl)
    · have h := sd_ifn c_32 h
      refine lv_aload_n hx hb dX12_goes_10 rfl (lv_at hl 0 rfl) ?_
      refine sd_g12_17 (k := 130) C X (by decide) sd_w8_12 dX12_goes_11 ?_
      refine lv_iload_n hx hb dX12_goes_14 rfl (lv_at hl 3 rfl) ?_
      refine lv_iload_n hx hb dX12_goes_15 rfl (lv_at hl 3 rfl) ?_
      refine lv_iload_n hx hb dX12_goes_16 rfl (lv_at hl 1 rfl) ?_
      refine lv_icmp_ne (tgt := 24) hx hb dX12_goes_17 (by decide) (fun c_35 => ?_) (fun c_35 => ?_)
      · have h := sd_ifn c_35 h
        refine lv_ldcw (v := (1000000 : Int32)) hx hb hown (hts _ sd_w31_10) dX12_goes_24 ?_
        exact t_X12_goes_b27 C ih x1 x2 x3 x3 (1000000 : Int32) S_30 _ _ _ h X (lv_sub hl [0, 1, 2, 3] rfl)
      · have h := sd_ifp c_35 h
        refine lv_iload_n hx hb dX12_goes_20 rfl (lv_at hl 2 rfl) ?_
        refine lv_goto (tgt := 27) hx hb dX12_goes_21 (by decide) ?_
        exact t_X12_goes_b27 C ih x1 x2 x3 x3 x2 S_30 _ _ _ h X (lv_sub hl [0, 1, 2, 3] rfl)
def f_X12_goes (x1 : Int32) (x2 : Int32) (S : sd_St) : Option (Unit × sd_St) := f_X12_goes_l2 sd_FU x1 x2 (0 : Int32) S
set_option maxHeartbeats 4000000 in
set_option maxRecDepth 100000 in
theorem c_X12_goes {x1 : Int32} {x2 : Int32} {S S' : sd_St} (h : f_X12_goes x1 x2 S = some ((), S')) : Met l yX12_goes (Cond.code yX12_goes cX12_goes 7 none :: sd_wl) (sd_rm 4) (sd_P D cy ad A b0 [.ref (ad 130), .int x1, .int x2] S) (sd_Qv D cy ad A S') 0 0 A := by
  refine sd_met (by decide) (Nat.le_of_ble_eq_true rfl) (fun p e s m args below meth c ls C X hl => ?_)
  obtain ⟨hx, hb, -, hml, hown, hts, -, hG⟩ := id C
  replace C : sd_C RX12 cX12_goes 7 none D cy ad A b0 p s m args meth c := C
  replace hl : lv_has ls 7 [(0, .ref (ad 130)), (1, .int x1), (2, .int x2)] := hl
  unfold f_X12_goes at h
  refine lv_iconst (v := (0 : Int32)) hx hb dX12_goes_0 (by decide) ?_
  refine lv_istore_n (lv' := [(3, .int (0 : Int32)), (0, .ref (ad 130)), (1, .int x1), (2, .int x2)]) hx hb dX12_goes_1 rfl hl (by decide) rfl (fun ls hl => ?_)
  exact t_X12_goes_l2 C sd_FU x1 x2 (0 : Int32) S _ _ _ h X (lv_sub hl [1, 2, 3, 0] rfl)
theorem k_X12_goes (C : sd_C own cc nL rt D cy ad A b0 p s m args meth c) (X : sd_H D cy ad A s S H locs) (hls : ls.size = nL) {x1 : Int32} {x2 : Int32} {S2 : sd_St} (h : f_X12_goes x1 x2 S = some ((), S2)) (hlink : Cond.methodLink own index yX12_goes ∈ sd_wl) (hR : 5 ≤ R.frames ∧ 186 ≤ R.locals ∧ cells ≤ R.cells ∧ slots ≤ R.slots) (hst : (rest.map fun v => v.category).sum ≤ 8) (hdg : decode cc pc = .ok (.invokevirtual index, 3)) (kk : ∀ (H1 : Heap) (locs1 : List Loc), sd_H D cy ad A s S2 H1 locs1 → W p l e R s m args below meth c H1 locs1 cells slots Q (F0 m (pc + 3) ls rest)) : W p l e R s m args below meth c H locs cells slots Q (F0 m pc ls (.int x2 :: .int x1 :: .ref (ad 130) :: rest)) :=
  sd_goV X (sd_runV C X hls (n := 2) (k := 130) (As := [.int x1, .int x2]) (c_X12_goes (l := l) (b0 := b0) h) (sd_goodV hlink sd_w32_12 sd_w32_13 sd_w1_5 sd_w32_14) (ci := 12) rfl (by rw [(show sd_kd 130 = 12 by decide)]; decide) (sd_c12 (show sd_kd 130 = 12 by decide)) (by decide +kernel) rfl hR rfl hst hdg) kk
/-! ===== SecretDaysModel.beginner(I)I ===== -/
def f_X12_beginner (x1 : Int32) (S : sd_St) : Option (Int32 × sd_St) := sd_ld S 136 ((89 : Int32) + ((2 : Int32) * x1)) (fun v_1 => (some (v_1, S)))
set_option maxHeartbeats 4000000 in
set_option maxRecDepth 100000 in
theorem c_X12_beginner {x1 : Int32} {S S' : sd_St} {r : Int32} (h : f_X12_beginner x1 S = some (r, S')) : Met l yX12_beginner (Cond.code yX12_beginner cX12_beginner 2 (some .int) :: sd_wl) (sd_rm 0) (sd_P D cy ad A b0 [.ref (ad 130), .int x1] S) (sd_Qi D cy ad A r S') 0 0 A := by
  refine sd_met (by decide) (Nat.le_of_ble_eq_true rfl) (fun p e s m args below meth c ls C X hl => ?_)
  obtain ⟨hx, hb, -, hml, hown, hts, -, hG⟩ := id C
  replace C : sd_C RX12 cX12_beginner 2 (some .int) D cy ad A b0 p s m args meth c := C
  replace hl : lv_has ls 2 [(0, .ref (ad 130)), (1, .int x1)] := hl
  unfold f_X12_beginner at h
  refine lv_aload_n hx hb dX12_beginner_0 rfl (lv_at hl 0 rfl) ?_
  refine sd_g12_10 (k := 130) C X (by decide) sd_w8_8 dX12_beginner_1 ?_
  refine lv_bipush (v := (89 : Int32)) hx hb dX12_beginner_4 (by decide) ?_
  refine lv_iconst (v := (2 : Int32)) hx hb dX12_beginner_6 (by decide) ?_
  refine lv_iload_n hx hb dX12_beginner_7 rfl (lv_at hl 1 rfl) ?_
  refine lv_imul hx hb dX12_beginner_8 ?_
  refine lv_iadd hx hb dX12_beginner_9 ?_
  obtain ⟨b_1, v_1, e_1, h⟩ := sd_ld_some h
  refine sd_iald C X (by decide) b_1 dX12_beginner_10 (sd_nmi e_1 ?_)
  cases h
  exact sd_iret C X dX12_beginner_11
theorem k_X12_beginner (C : sd_C own cc nL rt D cy ad A b0 p s m args meth c) (X : sd_H D cy ad A s S H locs) (hls : ls.size = nL) {x1 : Int32} {S2 : sd_St} {r : Int32} (h : f_X12_beginner x1 S = some (r, S2)) (hlink : Cond.methodLink own index yX12_beginner ∈ sd_wl) (hR : 1 ≤ R.frames ∧ 21 ≤ R.locals ∧ cells ≤ R.cells ∧ slots ≤ R.slots) (hst : (rest.map fun v => v.category).sum ≤ 8) (hdg : decode cc pc = .ok (.invokevirtual index, 3)) (kk : ∀ (H1 : Heap) (locs1 : List Loc), sd_H D cy ad A s S2 H1 locs1 → W p l e R s m args below meth c H1 locs1 cells slots Q (F0 m (pc + 3) ls (.int r :: rest))) : W p l e R s m args below meth c H locs cells slots Q (F0 m pc ls (.int x1 :: .ref (ad 130) :: rest)) :=
  sd_goI X (sd_runV C X hls (n := 1) (k := 130) (As := [.int x1]) (c_X12_beginner (l := l) (b0 := b0) h) (sd_goodV hlink sd_w32_4 sd_w32_5 sd_w1_5 sd_w32_6) (ci := 12) rfl (by rw [(show sd_kd 130 = 12 by decide)]; decide) (sd_c12 (show sd_kd 130 = 12 by decide)) (by decide +kernel) rfl hR rfl hst hdg) kk
/-! ===== SecretDaysModel.fromOf(I)I ===== -/
def f_X12_fromOf (x1 : Int32) (S : sd_St) : Option (Int32 × sd_St) := sd_ld S 136 (((89 : Int32) + ((2 : Int32) * x1)) + (1 : Int32)) (fun v_1 => (some (v_1, S)))
set_option maxHeartbeats 4000000 in
set_option maxRecDepth 100000 in
theorem c_X12_fromOf {x1 : Int32} {S S' : sd_St} {r : Int32} (h : f_X12_fromOf x1 S = some (r, S')) : Met l yX12_fromOf (Cond.code yX12_fromOf cX12_fromOf 2 (some .int) :: sd_wl) (sd_rm 0) (sd_P D cy ad A b0 [.ref (ad 130), .int x1] S) (sd_Qi D cy ad A r S') 0 0 A := by
  refine sd_met (by decide) (Nat.le_of_ble_eq_true rfl) (fun p e s m args below meth c ls C X hl => ?_)
  obtain ⟨hx, hb, -, hml, hown, hts, -, hG⟩ := id C
  replace C : sd_C RX12 cX12_fromOf 2 (some .int) D cy ad A b0 p s m args meth c := C
  replace hl : lv_has ls 2 [(0, .ref (ad 130)), (1, .int x1)] := hl
  unfold f_X12_fromOf at h
  refine lv_aload_n hx hb dX12_fromOf_0 rfl (lv_at hl 0 rfl) ?_
  refine sd_g12_10 (k := 130) C X (by decide) sd_w8_8 dX12_fromOf_1 ?_
  refine lv_bipush (v := (89 : Int32)) hx hb dX12_fromOf_4 (by decide) ?_
  refine lv_iconst (v := (2 : Int32)) hx hb dX12_fromOf_6 (by decide) ?_
  refine lv_iload_n hx hb dX12_fromOf_7 rfl (lv_at hl 1 rfl) ?_
  refine lv_imul hx hb dX12_fromOf_8 ?_
  refine lv_iadd hx hb dX12_fromOf_9 ?_
  refine lv_iconst (v := (1 : Int32)) hx hb dX12_fromOf_10 (by decide) ?_
  refine lv_iadd hx hb dX12_fromOf_11 ?_
  obtain ⟨b_1, v_1, e_1, h⟩ := sd_ld_some h
  refine sd_iald C X (by decide) b_1 dX12_fromOf_12 (sd_nmi e_1 ?_)
  cases h
  exact sd_iret C X dX12_fromOf_13
theorem k_X12_fromOf (C : sd_C own cc nL rt D cy ad A b0 p s m args meth c) (X : sd_H D cy ad A s S H locs) (hls : ls.size = nL) {x1 : Int32} {S2 : sd_St} {r : Int32} (h : f_X12_fromOf x1 S = some (r, S2)) (hlink : Cond.methodLink own index yX12_fromOf ∈ sd_wl) (hR : 1 ≤ R.frames ∧ 21 ≤ R.locals ∧ cells ≤ R.cells ∧ slots ≤ R.slots) (hst : (rest.map fun v => v.category).sum ≤ 8) (hdg : decode cc pc = .ok (.invokevirtual index, 3)) (kk : ∀ (H1 : Heap) (locs1 : List Loc), sd_H D cy ad A s S2 H1 locs1 → W p l e R s m args below meth c H1 locs1 cells slots Q (F0 m (pc + 3) ls (.int r :: rest))) : W p l e R s m args below meth c H locs cells slots Q (F0 m pc ls (.int x1 :: .ref (ad 130) :: rest)) :=
  sd_goI X (sd_runV C X hls (n := 1) (k := 130) (As := [.int x1]) (c_X12_fromOf (l := l) (b0 := b0) h) (sd_goodV hlink sd_w32_8 sd_w32_9 sd_w1_5 sd_w32_10) (ci := 12) rfl (by rw [(show sd_kd 130 = 12 by decide)]; decide) (sd_c12 (show sd_kd 130 = 12 by decide)) (by decide +kernel) rfl hR rfl hst hdg) kk
/-! ===== SecretDaysModel.find(I)V ===== -/
def f_X12_find_ (x1 : Int32) (S : sd_St) : Option (Unit × sd_St) := sd_cl (f_X12_beginner x1 S) (fun r_2 S_1 => sd_cl (f_X12_fromOf x1 S_1) (fun r_4 S_3 => sd_cl (f_X12_goes r_2 r_4 S_3) (fun _ S_5 => (some ((), S_5)))))
set_option maxHeartbeats 4000000 in
set_option maxRecDepth 100000 in
theorem c_X12_find_ {x1 : Int32} {S S' : sd_St} (h : f_X12_find_ x1 S = some ((), S')) : Met l yX12_find_ (Cond.code yX12_find_ cX12_find_ 2 none :: sd_wl) (sd_rm 5) (sd_P D cy ad A b0 [.ref (ad 130), .int x1] S) (sd_Qv D cy ad A S') 0 0 A := by
  refine sd_met (by decide) (Nat.le_of_ble_eq_true rfl) (fun p e s m args below meth c ls C X hl => ?_)
  obtain ⟨hx, hb, -, hml, hown, hts, -, hG⟩ := id C
  replace C : sd_C RX12 cX12_find_ 2 none D cy ad A b0 p s m args meth c := C
  replace hl : lv_has ls 2 [(0, .ref (ad 130)), (1, .int x1)] := hl
  unfold f_X12_find_ at h
  refine lv_aload_n hx hb dX12_find__0 rfl (lv_at hl 0 rfl) ?_
  refine lv_aload_n hx hb dX12_find__1 rfl (lv_at hl 0 rfl) ?_
  refine lv_iload_n hx hb dX12_find__2 rfl (lv_at hl 1 rfl) ?_
  obtain ⟨r_2, S_1, er_2, h⟩ := sd_cl_some h
  refine k_X12_beginner C X hl.1 er_2 sd_w32_3 (by decide) (Nat.le_of_ble_eq_true rfl) dX12_find__3 (fun H locs X => ?_)
  refine lv_aload_n hx hb dX12_find__6 rfl (lv_at hl 0 rfl) ?_
  refine lv_iload_n hx hb dX12_find__7 rfl (lv_at hl 1 rfl) ?_
  obtain ⟨r_4, S_3, er_4, h⟩ := sd_cl_some h
  refine k_X12_fromOf C X hl.1 er_4 sd_w32_7 (by decide) (Nat.le_of_ble_eq_true rfl) dX12_find__8 (fun H locs X => ?_)
  obtain ⟨r_6, S_5, er_6, h⟩ := sd_cl_some h
  refine k_X12_goes C X hl.1 er_6 sd_w32_11 (by decide) (Nat.le_of_ble_eq_true rfl) dX12_find__11 (fun H locs X => ?_)
  cases h
  exact sd_vret C X dX12_find__14
theorem k_X12_find_ (C : sd_C own cc nL rt D cy ad A b0 p s m args meth c) (X : sd_H D cy ad A s S H locs) (hls : ls.size = nL) {x1 : Int32} {S2 : sd_St} (h : f_X12_find_ x1 S = some ((), S2)) (hlink : Cond.methodLink own index yX12_find_ ∈ sd_wl) (hR : 6 ≤ R.frames ∧ 221 ≤ R.locals ∧ cells ≤ R.cells ∧ slots ≤ R.slots) (hst : (rest.map fun v => v.category).sum ≤ 8) (hdg : decode cc pc = .ok (.invokevirtual index, 3)) (kk : ∀ (H1 : Heap) (locs1 : List Loc), sd_H D cy ad A s S2 H1 locs1 → W p l e R s m args below meth c H1 locs1 cells slots Q (F0 m (pc + 3) ls rest)) : W p l e R s m args below meth c H locs cells slots Q (F0 m pc ls (.int x1 :: .ref (ad 130) :: rest)) :=
  sd_goV X (sd_runV C X hls (n := 1) (k := 130) (As := [.int x1]) (c_X12_find_ (l := l) (b0 := b0) h) (sd_goodV hlink sd_w32_0 sd_w32_1 sd_w1_5 sd_w32_2) (ci := 12) rfl (by rw [(show sd_kd 130 = 12 by decide)]; decide) (sd_c12 (show sd_kd 130 = 12 by decide)) (by decide +kernel) rfl hR rfl hst hdg) kk
/-! ===== SecretDaysModel.areThere(II)Z ===== -/
def f_X12_areThere (x1 : Int32) (x2 : Int32) (S : sd_St) : Option (Int32 × sd_St) := sd_cl (f_X12_isSecret x1 S) (fun r_2 S_1 => (if r_2 = 0 then (some ((0 : Int32), S_1)) else sd_cl (f_X12_isPerson x2 S_1) (fun r_5 S_4 => (if r_5 = 0 then (some ((0 : Int32), S_4)) else (some ((1 : Int32), S_4))))))
set_option maxHeartbeats 4000000 in
set_option maxRecDepth 100000 in
theorem c_X12_areThere {x1 : Int32} {x2 : Int32} {S S' : sd_St} {r : Int32} (h : f_X12_areThere x1 x2 S = some (r, S')) : Met l yX12_areThere (Cond.code yX12_areThere cX12_areThere 3 (some .boolean) :: sd_wl) (sd_rm 2) (sd_P D cy ad A b0 [.ref (ad 130), .int x1, .int x2] S) (sd_Qi D cy ad A r S') 0 0 A := by
  refine sd_met (by decide) (Nat.le_of_ble_eq_true rfl) (fun p e s m args below meth c ls C X hl => ?_)
  obtain ⟨hx, hb, -, hml, hown, hts, -, hG⟩ := id C
  replace C : sd_C RX12 cX12_areThere 3 (some .boolean) D cy ad A b0 p s m args meth c := C
  replace hl : lv_has ls 3 [(0, .ref (ad 130)), (1, .int x1), (2, .int x2)] := hl
  unfold f_X12_areThere at h
  refine lv_aload_n hx hb dX12_areThere_0 rfl (lv_at hl 0 rfl) ?_
  refine lv_iload_n hx hb dX12_areThere_1 rfl (lv_at hl 1 rfl) ?_
  obtain ⟨r_2, S_1, er_2, h⟩ := sd_cl_some h
  refine k_X12_isSecret C X hl.1 er_2 sd_w31_15 (by decide) (Nat.le_of_ble_eq_true rfl) dX12_areThere_2 (fun H locs X => ?_)
  refine lv_if_eq (tgt := 20) hx hb dX12_areThere_5 (by decide) (fun c_3 => ?_) (fun c_3 => ?_)
  · have h := sd_ifp c_3 h
    refine lv_iconst (v := (0 : Int32)) hx hb dX12_areThere_20 (by decide) ?_
    cases h
    exact sd_zret C X (by decide) dX12_areThere_21
  · have h := sd_ifn c_3 h
    refine lv_aload_n hx hb dX12_areThere_8 rfl (lv_at hl 0 rfl) ?_
    refine lv_iload_n hx hb dX12_areThere_9 rfl (lv_at hl 2 rfl) ?_
    obtain ⟨r_5, S_4, er_5, h⟩ := sd_cl_some h
    refine k_X12_isPerson C X hl.1 er_5 sd_w24_14 (by decide) (Nat.le_of_ble_eq_true rfl) dX12_areThere_10 (fun H locs X => ?_)
    refine lv_if_eq (tgt := 20) hx hb dX12_areThere_13 (by decide) (fun c_6 => ?_) (fun c_6 => ?_)
    · have h := sd_ifp c_6 h
      refine lv_iconst (v := (0 : Int32)) hx hb dX12_areThere_20 (by decide) ?_
      cases h
      exact sd_zret C X (by decide) dX12_areThere_21
    · have h := sd_ifn c_6 h
      refine lv_iconst (v := (1 : Int32)) hx hb dX12_areThere_16 (by decide) ?_
      refine lv_goto (tgt := 21) hx hb dX12_areThere_17 (by decide) ?_
      cases h
      exact sd_zret C X (by decide) dX12_areThere_21
theorem k_X12_areThere (C : sd_C own cc nL rt D cy ad A b0 p s m args meth c) (X : sd_H D cy ad A s S H locs) (hls : ls.size = nL) {x1 : Int32} {x2 : Int32} {S2 : sd_St} {r : Int32} (h : f_X12_areThere x1 x2 S = some (r, S2)) (hlink : Cond.methodLink own index yX12_areThere ∈ sd_wl) (hR : 3 ≤ R.frames ∧ 102 ≤ R.locals ∧ cells ≤ R.cells ∧ slots ≤ R.slots) (hst : (rest.map fun v => v.category).sum ≤ 8) (hdg : decode cc pc = .ok (.invokevirtual index, 3)) (kk : ∀ (H1 : Heap) (locs1 : List Loc), sd_H D cy ad A s S2 H1 locs1 → W p l e R s m args below meth c H1 locs1 cells slots Q (F0 m (pc + 3) ls (.int r :: rest))) : W p l e R s m args below meth c H locs cells slots Q (F0 m pc ls (.int x2 :: .int x1 :: .ref (ad 130) :: rest)) :=
  sd_goI X (sd_runV C X hls (n := 2) (k := 130) (As := [.int x1, .int x2]) (c_X12_areThere (l := l) (b0 := b0) h) (sd_goodV hlink sd_w31_12 sd_w31_13 sd_w1_5 sd_w31_14) (ci := 12) rfl (by rw [(show sd_kd 130 = 12 by decide)]; decide) (sd_c12 (show sd_kd 130 = 12 by decide)) (by decide +kernel) rfl hR rfl hst hdg) kk
/-! ===== SecretDaysModel.soonest(II)I ===== -/
def f_X12_soonest (x1 : Int32) (x2 : Int32) (S : sd_St) : Option (Int32 × sd_St) := sd_nm (sd_I S 130 0 (0 : Int32)) (fun S_1 => sd_cl (f_X12_areThere x1 x2 S_1) (fun r_3 S_2 => (if r_3 = 0 then (some ((-1 : Int32), S_2)) else sd_cl (f_X12_find_ x1 S_2) (fun _ S_5 => sd_ld S_5 140 x2 (fun v_7 => (if v_7 = (1000000 : Int32) then (some ((-1 : Int32), S_5)) else sd_ld S_5 140 x2 (fun v_9 => (some (v_9, S_5)))))))))
set_option maxHeartbeats 4000000 in
set_option maxRecDepth 100000 in
theorem c_X12_soonest {x1 : Int32} {x2 : Int32} {S S' : sd_St} {r : Int32} (h : f_X12_soonest x1 x2 S = some (r, S')) : Met l yX12_soonest (Cond.code yX12_soonest cX12_soonest 3 (some .int) :: sd_wl) (sd_rm 6) (sd_P D cy ad A b0 [.ref (ad 130), .int x1, .int x2] S) (sd_Qi D cy ad A r S') 0 0 A := by
  refine sd_met (by decide) (Nat.le_of_ble_eq_true rfl) (fun p e s m args below meth c ls C X hl => ?_)
  obtain ⟨hx, hb, -, hml, hown, hts, -, hG⟩ := id C
  replace C : sd_C RX12 cX12_soonest 3 (some .int) D cy ad A b0 p s m args meth c := C
  replace hl : lv_has ls 3 [(0, .ref (ad 130)), (1, .int x1), (2, .int x2)] := hl
  unfold f_X12_soonest at h
  refine lv_aload_n hx hb dX12_soonest_0 rfl (lv_at hl 0 rfl) ?_
  refine lv_iconst (v := (0 : Int32)) hx hb dX12_soonest_1 (by decide) ?_
  obtain ⟨S_1, eS_1, h⟩ := sd_nm_some h
  refine sd_p12_0 C X (by decide) sd_w9_3 dX12_soonest_2 (fun H locs X => ?_)
  rw [← eS_1] at X
  refine lv_aload_n hx hb dX12_soonest_5 rfl (lv_at hl 0 rfl) ?_
  refine lv_iload_n hx hb dX12_soonest_6 rfl (lv_at hl 1 rfl) ?_
  refine lv_iload_n hx hb dX12_soonest_7 rfl (lv_at hl 2 rfl) ?_
  obtain ⟨r_3, S_2, er_3, h⟩ := sd_cl_some h
  refine k_X12_areThere C X hl.1 er_3 sd_w31_11 (by decide) (Nat.le_of_ble_eq_true rfl) dX12_soonest_8 (fun H locs X => ?_)
  refine lv_if_ne (tgt := 16) hx hb dX12_soonest_11 (by decide) (fun c_4 => ?_) (fun c_4 => ?_)
  · have h := sd_ifn c_4 h
    refine lv_aload_n hx hb dX12_soonest_16 rfl (lv_at hl 0 rfl) ?_
    refine lv_iload_n hx hb dX12_soonest_17 rfl (lv_at hl 1 rfl) ?_
    obtain ⟨r_6, S_5, er_6, h⟩ := sd_cl_some h
    refine k_X12_find_ C X hl.1 er_6 sd_w31_23 (by decide) (Nat.le_of_ble_eq_true rfl) dX12_soonest_18 (fun H locs X => ?_)
    refine lv_aload_n hx hb dX12_soonest_21 rfl (lv_at hl 0 rfl) ?_
    refine sd_g12_17 (k := 130) C X (by decide) sd_w8_12 dX12_soonest_22 ?_
    refine lv_iload_n hx hb dX12_soonest_25 rfl (lv_at hl 2 rfl) ?_
    obtain ⟨b_7, v_7, e_7, h⟩ := sd_ld_some h
    refine sd_iald C X (by decide) b_7 dX12_soonest_26 (sd_nmi e_7 ?_)
    refine lv_ldcw (v := (1000000 : Int32)) hx hb hown (hts _ sd_w31_10) dX12_soonest_27 ?_
    refine lv_icmp_ne (tgt := 37) hx hb dX12_soonest_30 (by decide) (fun c_8 => ?_) (fun c_8 => ?_)
    · have h := sd_ifn c_8 h
      refine lv_aload_n hx hb dX12_soonest_37 rfl (lv_at hl 0 rfl) ?_
      refine sd_g12_17 (k := 130) C X (by decide) sd_w8_12 dX12_soonest_38 ?_
      refine lv_iload_n hx hb dX12_soonest_41 rfl (lv_at hl 2 rfl) ?_
      obtain ⟨b_9, v_9, e_9, h⟩ := sd_ld_some h
      refine sd_iald C X (by decide) b_9 dX12_soonest_42 (sd_nmi e_9 ?_)
      cases h
      exact sd_iret C X dX12_soonest_43
    · have h := sd_ifp c_8 h
      refine lv_iconst (v := (-1 : Int32)) hx hb dX12_soonest_33 (by decide) ?_
      refine lv_goto (tgt := 43) hx hb dX12_soonest_34 (by decide) ?_
      cases h
      exact sd_iret C X dX12_soonest_43
  · have h := sd_ifp c_4 h
    refine lv_iconst (v := (-1 : Int32)) hx hb dX12_soonest_14 (by decide) ?_
    cases h
    exact sd_iret C X dX12_soonest_15
theorem k_X12_soonest (C : sd_C own cc nL rt D cy ad A b0 p s m args meth c) (X : sd_H D cy ad A s S H locs) (hls : ls.size = nL) {x1 : Int32} {x2 : Int32} {S2 : sd_St} {r : Int32} (h : f_X12_soonest x1 x2 S = some (r, S2)) (hlink : Cond.methodLink own index yX12_soonest ∈ sd_wl) (hR : 7 ≤ R.frames ∧ 262 ≤ R.locals ∧ cells ≤ R.cells ∧ slots ≤ R.slots) (hst : (rest.map fun v => v.category).sum ≤ 8) (hdg : decode cc pc = .ok (.invokevirtual index, 3)) (kk : ∀ (H1 : Heap) (locs1 : List Loc), sd_H D cy ad A s S2 H1 locs1 → W p l e R s m args below meth c H1 locs1 cells slots Q (F0 m (pc + 3) ls (.int r :: rest))) : W p l e R s m args below meth c H locs cells slots Q (F0 m pc ls (.int x2 :: .int x1 :: .ref (ad 130) :: rest)) :=
  sd_goI X (sd_runV C X hls (n := 2) (k := 130) (As := [.int x1, .int x2]) (c_X12_soonest (l := l) (b0 := b0) h) (sd_goodV hlink sd_w31_7 sd_w31_8 sd_w1_5 sd_w31_9) (ci := 12) rfl (by rw [(show sd_kd 130 = 12 by decide)]; decide) (sd_c12 (show sd_kd 130 = 12 by decide)) (by decide +kernel) rfl hR rfl hst hdg) kk
/-! ===== SecretDaysModel.by(II)I ===== -/
def f_X12_by (x1 : Int32) (x2 : Int32) (S : sd_St) : Option (Int32 × sd_St) := sd_nm (sd_I S 130 0 (0 : Int32)) (fun S_1 => sd_cl (f_X12_areThere x1 x2 S_1) (fun r_3 S_2 => (if r_3 = 0 then (some ((-1 : Int32), S_2)) else sd_cl (f_X12_find_ x1 S_2) (fun _ S_5 => sd_ld S_5 141 x2 (fun v_7 => (some (v_7, S_5)))))))
set_option maxHeartbeats 4000000 in
set_option maxRecDepth 100000 in
theorem c_X12_by {x1 : Int32} {x2 : Int32} {S S' : sd_St} {r : Int32} (h : f_X12_by x1 x2 S = some (r, S')) : Met l yX12_by (Cond.code yX12_by cX12_by 3 (some .int) :: sd_wl) (sd_rm 6) (sd_P D cy ad A b0 [.ref (ad 130), .int x1, .int x2] S) (sd_Qi D cy ad A r S') 0 0 A := by
  refine sd_met (by decide) (Nat.le_of_ble_eq_true rfl) (fun p e s m args below meth c ls C X hl => ?_)
  obtain ⟨hx, hb, -, hml, hown, hts, -, hG⟩ := id C
  replace C : sd_C RX12 cX12_by 3 (some .int) D cy ad A b0 p s m args meth c := C
  replace hl : lv_has ls 3 [(0, .ref (ad 130)), (1, .int x1), (2, .int x2)] := hl
  unfold f_X12_by at h
  refine lv_aload_n hx hb dX12_by_0 rfl (lv_at hl 0 rfl) ?_
  refine lv_iconst (v := (0 : Int32)) hx hb dX12_by_1 (by decide) ?_
  obtain ⟨S_1, eS_1, h⟩ := sd_nm_some h
  refine sd_p12_0 C X (by decide) sd_w9_3 dX12_by_2 (fun H locs X => ?_)
  rw [← eS_1] at X
  refine lv_aload_n hx hb dX12_by_5 rfl (lv_at hl 0 rfl) ?_
  refine lv_iload_n hx hb dX12_by_6 rfl (lv_at hl 1 rfl) ?_
  refine lv_iload_n hx hb dX12_by_7 rfl (lv_at hl 2 rfl) ?_
  obtain ⟨r_3, S_2, er_3, h⟩ := sd_cl_some h
  refine k_X12_areThere C X hl.1 er_3 sd_w31_11 (by decide) (Nat.le_of_ble_eq_true rfl) dX12_by_8 (fun H locs X => ?_)
  refine lv_if_ne (tgt := 16) hx hb dX12_by_11 (by decide) (fun c_4 => ?_) (fun c_4 => ?_)
  · have h := sd_ifn c_4 h
    refine lv_aload_n hx hb dX12_by_16 rfl (lv_at hl 0 rfl) ?_
    refine lv_iload_n hx hb dX12_by_17 rfl (lv_at hl 1 rfl) ?_
    obtain ⟨r_6, S_5, er_6, h⟩ := sd_cl_some h
    refine k_X12_find_ C X hl.1 er_6 sd_w31_23 (by decide) (Nat.le_of_ble_eq_true rfl) dX12_by_18 (fun H locs X => ?_)
    refine lv_aload_n hx hb dX12_by_21 rfl (lv_at hl 0 rfl) ?_
    refine sd_g12_18 (k := 130) C X (by decide) sd_w8_13 dX12_by_22 ?_
    refine lv_iload_n hx hb dX12_by_25 rfl (lv_at hl 2 rfl) ?_
    obtain ⟨b_7, v_7, e_7, h⟩ := sd_ld_some h
    refine sd_iald C X (by decide) b_7 dX12_by_26 (sd_nmi e_7 ?_)
    cases h
    exact sd_iret C X dX12_by_27
  · have h := sd_ifp c_4 h
    refine lv_iconst (v := (-1 : Int32)) hx hb dX12_by_14 (by decide) ?_
    cases h
    exact sd_iret C X dX12_by_15
theorem k_X12_by (C : sd_C own cc nL rt D cy ad A b0 p s m args meth c) (X : sd_H D cy ad A s S H locs) (hls : ls.size = nL) {x1 : Int32} {x2 : Int32} {S2 : sd_St} {r : Int32} (h : f_X12_by x1 x2 S = some (r, S2)) (hlink : Cond.methodLink own index yX12_by ∈ sd_wl) (hR : 7 ≤ R.frames ∧ 262 ≤ R.locals ∧ cells ≤ R.cells ∧ slots ≤ R.slots) (hst : (rest.map fun v => v.category).sum ≤ 8) (hdg : decode cc pc = .ok (.invokevirtual index, 3)) (kk : ∀ (H1 : Heap) (locs1 : List Loc), sd_H D cy ad A s S2 H1 locs1 → W p l e R s m args below meth c H1 locs1 cells slots Q (F0 m (pc + 3) ls (.int r :: rest))) : W p l e R s m args below meth c H locs cells slots Q (F0 m pc ls (.int x2 :: .int x1 :: .ref (ad 130) :: rest)) :=
  sd_goI X (sd_runV C X hls (n := 2) (k := 130) (As := [.int x1, .int x2]) (c_X12_by (l := l) (b0 := b0) h) (sd_goodV hlink sd_w33_10 sd_w33_11 sd_w1_5 sd_w33_12) (ci := 12) rfl (by rw [(show sd_kd 130 = 12 by decide)]; decide) (sd_c12 (show sd_kd 130 = 12 by decide)) (by decide +kernel) rfl hR rfl hst hdg) kk
/-! ===== SecretDaysModel.hands(II)I ===== -/
def f_X12_hands_l26 : Nat → Int32 → Int32 → Int32 → sd_St → Option (Int32 × sd_St)
  | 0 => fun _ _ _ _ => none
  | n + 1 => fun x2 x3 x4 S => sd_ld S 141 x4 (fun v_1 => (if v_1 < 0 then sd_ld S 140 x2 (fun v_3 => (if v_3 = (1000000 : Int32) then (some ((-1 : Int32), S)) else (some (x3, S)))) else sd_ld S 141 x4 (fun v_5 => (f_X12_hands_l26 n) x2 (x3 + (1 : Int32)) v_5 S)))
set_option maxHeartbeats 4000000 in
set_option maxRecDepth 100000 in
theorem t_X12_hands_l26 (C : sd_C RX12 cX12_hands 5 (some .int) D cy ad A b0 p s m args meth c) {r : Int32} {S' : sd_St} : ∀ (n : Nat) (x2 : Int32) (x3 : Int32) (x4 : Int32) (S : sd_St) (H : Heap) (locs : List Loc) (ls : Array Slot), f_X12_hands_l26 n x2 x3 x4 S = some (r, S') → sd_H D cy ad A s S H locs → lv_has ls 5 [(0, .ref (ad 130)), (2, .int x2), (3, .int x3), (4, .int x4)] → W p l e (sd_rm 6) s m args below meth c H locs 0 0 (MQ below (sd_Qi D cy ad A r S') args s 0 0 A) (F0 m 26 ls []) := by
  obtain ⟨hx, hb, -, hml, hown, hts, -, hG⟩ := id C
  intro n
  induction n with
  | zero => intro x2 x3 x4 S H locs ls h; cases h
  | succ n ih =>
    intro x2 x3 x4 S H locs ls h X hl
    unfold f_X12_hands_l26 at h
    refine lv_aload_n hx hb dX12_hands_26 rfl (lv_at hl 0 rfl) ?_
    refine sd_g12_18 (k := 130) C X (by decide) sd_w8_13 dX12_hands_27 ?_
    refine lv_iload hx hb dX12_hands_30 (lv_at hl 3 rfl) ?_
    obtain ⟨b_1, v_1, e_1, h⟩ := sd_ld_some h
    refine sd_iald C X (by decide) b_1 dX12_hands_32 (sd_nmi e_1 ?_)
    refine lv_if_lt (tgt := 51) hx hb dX12_hands_33 (by decide) (fun c_2 => ?_) (fun c_2 => ?_)
    · have h := sd_ifp c_2 h
      refine lv_aload_n hx hb dX12_hands_51 rfl (lv_at hl 0 rfl) ?_
      refine sd_g12_17 (k := 130) C X (by decide) sd_w8_12 dX12_hands_52 ?_
      refine lv_iload_n hx hb dX12_hands_55 rfl (lv_at hl 1 rfl) ?_
      obtain ⟨b_3, v_3, e_3, h⟩ := sd_ld_some h
      refine sd_iald C X (by decide) b_3 dX12_hands_56 (sd_nmi e_3 ?_)
      refine lv_ldcw (v := (1000000 : Int32)) hx hb hown (hts _ sd_w31_10) dX12_hands_57 ?_
      refine lv_icmp_ne (tgt := 67) hx hb dX12_hands_60 (by decide) (fun c_4 => ?_) (fun c_4 => ?_)
      · have h := sd_ifn c_4 h
        refine lv_iload_n hx hb dX12_hands_67 rfl (lv_at hl 2 rfl) ?_
        cases h
        exact sd_iret C X dX12_hands_68
      · have h := sd_ifp c_4 h
        refine lv_iconst (v := (-1 : Int32)) hx hb dX12_hands_63 (by decide) ?_
        refine lv_goto (tgt := 68) hx hb dX12_hands_64 (by decide) ?_
        cases h
        exact sd_iret C X dX12_hands_68
    · have h := sd_ifn c_2 h
      refine lv_iinc (v := (x3 + (1 : Int32))) (lv' := [(3, .int (x3 + (1 : Int32))), (0, .ref (ad 130)), (2, .int x2), (4, .int x4)]) hx hb dX12_hands_36 hl (k := 2) rfl rfl (by decide) rfl (fun ls hl => ?_)
      refine lv_aload_n hx hb dX12_hands_39 rfl (lv_at hl 1 rfl) ?_
      refine sd_g12_18 (k := 130) C X (by decide) sd_w8_13 dX12_hands_40 ?_
      refine lv_iload hx hb dX12_hands_43 (lv_at hl 3 rfl) ?_
      obtain ⟨b_5, v_5, e_5, h⟩ := sd_ld_some h
      refine sd_iald C X (by decide) b_5 dX12_hands_45 (sd_nmi e_5 ?_)
      refine lv_istore (lv' := [(4, .int v_5), (3, .int (x3 + (1 : Int32))), (0, .ref (ad 130)), (2, .int x2)]) hx hb dX12_hands_46 hl (by decide) rfl (fun ls hl => ?_)
      refine lv_goto (tgt := 26) hx hb dX12_hands_48 (by decide) ?_
      exact ih x2 (x3 + (1 : Int32)) v_5 S _ _ _ h X (lv_sub hl [2, 3, 1, 0] rfl)
def f_X12_hands (x1 : Int32) (x2 : Int32) (S : sd_St) : Option (Int32 × sd_St) := sd_nm (sd_I S 130 0 (0 : Int32)) (fun S_6 => sd_cl (f_X12_areThere x1 x2 S_6) (fun r_8 S_7 => (if r_8 = 0 then (some ((-1 : Int32), S_7)) else sd_cl (f_X12_find_ x1 S_7) (fun _ S_10 => f_X12_hands_l26 sd_FU x2 (0 : Int32) x2 S_10))))
set_option maxHeartbeats 4000000 in
set_option maxRecDepth 100000 in
theorem c_X12_hands {x1 : Int32} {x2 : Int32} {S S' : sd_St} {r : Int32} (h : f_X12_hands x1 x2 S = some (r, S')) : Met l yX12_hands (Cond.code yX12_hands cX12_hands 5 (some .int) :: sd_wl) (sd_rm 6) (sd_P D cy ad A b0 [.ref (ad 130), .int x1, .int x2] S) (sd_Qi D cy ad A r S') 0 0 A := by
  refine sd_met (by decide) (Nat.le_of_ble_eq_true rfl) (fun p e s m args below meth c ls C X hl => ?_)
  obtain ⟨hx, hb, -, hml, hown, hts, -, hG⟩ := id C
  replace C : sd_C RX12 cX12_hands 5 (some .int) D cy ad A b0 p s m args meth c := C
  replace hl : lv_has ls 5 [(0, .ref (ad 130)), (1, .int x1), (2, .int x2)] := hl
  unfold f_X12_hands at h
  refine lv_aload_n hx hb dX12_hands_0 rfl (lv_at hl 0 rfl) ?_
  refine lv_iconst (v := (0 : Int32)) hx hb dX12_hands_1 (by decide) ?_
  obtain ⟨S_6, eS_6, h⟩ := sd_nm_some h
  refine sd_p12_0 C X (by decide) sd_w9_3 dX12_hands_2 (fun H locs X => ?_)
  rw [← eS_6] at X
  refine lv_aload_n hx hb dX12_hands_5 rfl (lv_at hl 0 rfl) ?_
  refine lv_iload_n hx hb dX12_hands_6 rfl (lv_at hl 1 rfl) ?_
  refine lv_iload_n hx hb dX12_hands_7 rfl (lv_at hl 2 rfl) ?_
  obtain ⟨r_8, S_7, er_8, h⟩ := sd_cl_some h
  refine k_X12_areThere C X hl.1 er_8 sd_w31_11 (by decide) (Nat.le_of_ble_eq_true rfl) dX12_hands_8 (fun H locs X => ?_)
  refine lv_if_ne (tgt := 16) hx hb dX12_hands_11 (by decide) (fun c_9 => ?_) (fun c_9 => ?_)
  · have h := sd_ifn c_9 h
    refine lv_aload_n hx hb dX12_hands_16 rfl (lv_at hl 0 rfl) ?_
    refine lv_iload_n hx hb dX12_hands_17 rfl (lv_at hl 1 rfl) ?_
    obtain ⟨r_11, S_10, er_11, h⟩ := sd_cl_some h
    refine k_X12_find_ C X hl.1 er_11 sd_w31_23 (by decide) (Nat.le_of_ble_eq_true rfl) dX12_hands_18 (fun H locs X => ?_)
    refine lv_iconst (v := (0 : Int32)) hx hb dX12_hands_21 (by decide) ?_
    refine lv_istore_n (lv' := [(3, .int (0 : Int32)), (0, .ref (ad 130)), (1, .int x1), (2, .int x2)]) hx hb dX12_hands_22 rfl hl (by decide) rfl (fun ls hl => ?_)
    refine lv_iload_n hx hb dX12_hands_23 rfl (lv_at hl 3 rfl) ?_
    refine lv_istore (lv' := [(4, .int x2), (3, .int (0 : Int32)), (0, .ref (ad 130)), (1, .int x1), (2, .int x2)]) hx hb dX12_hands_24 hl (by decide) rfl (fun ls hl => ?_)
    exact t_X12_hands_l26 C sd_FU x2 (0 : Int32) x2 S_10 _ _ _ h X (lv_sub hl [2, 4, 1, 0] rfl)
  · have h := sd_ifp c_9 h
    refine lv_iconst (v := (-1 : Int32)) hx hb dX12_hands_14 (by decide) ?_
    cases h
    exact sd_iret C X dX12_hands_15
theorem k_X12_hands (C : sd_C own cc nL rt D cy ad A b0 p s m args meth c) (X : sd_H D cy ad A s S H locs) (hls : ls.size = nL) {x1 : Int32} {x2 : Int32} {S2 : sd_St} {r : Int32} (h : f_X12_hands x1 x2 S = some (r, S2)) (hlink : Cond.methodLink own index yX12_hands ∈ sd_wl) (hR : 7 ≤ R.frames ∧ 264 ≤ R.locals ∧ cells ≤ R.cells ∧ slots ≤ R.slots) (hst : (rest.map fun v => v.category).sum ≤ 8) (hdg : decode cc pc = .ok (.invokevirtual index, 3)) (kk : ∀ (H1 : Heap) (locs1 : List Loc), sd_H D cy ad A s S2 H1 locs1 → W p l e R s m args below meth c H1 locs1 cells slots Q (F0 m (pc + 3) ls (.int r :: rest))) : W p l e R s m args below meth c H locs cells slots Q (F0 m pc ls (.int x2 :: .int x1 :: .ref (ad 130) :: rest)) :=
  sd_goI X (sd_runV C X hls (n := 2) (k := 130) (As := [.int x1, .int x2]) (c_X12_hands (l := l) (b0 := b0) h) (sd_goodV hlink sd_w33_19 sd_w33_20 sd_w1_5 sd_w33_21) (ci := 12) rfl (by rw [(show sd_kd 130 = 12 by decide)]; decide) (sd_c12 (show sd_kd 130 = 12 by decide)) (by decide +kernel) rfl hR rfl hst hdg) kk
/-! ===== SecretDaysModel.knowsBy(II)I ===== -/
def f_X12_knowsBy_b39 (q10 : (Int32 → Int32 → Int32 → sd_St → Option (Int32 × sd_St))) (x2 : Int32) (x4 : Int32) (w0 : Int32) (w1 : Int32) (S : sd_St) : Option (Int32 × sd_St) := sd_nm ((w0 ||| w1)) (fun v_1 => q10 x2 v_1 (x4 + (1 : Int32)) S)
set_option maxHeartbeats 4000000 in
set_option maxRecDepth 100000 in
theorem t_X12_knowsBy_b39 (C : sd_C RX12 cX12_knowsBy 5 (some .int) D cy ad A b0 p s m args meth c) {r : Int32} {S' : sd_St} {q10 : (Int32 → Int32 → Int32 → sd_St → Option (Int32 × sd_St))} (hq10 : ∀ (x2 : Int32) (x3 : Int32) (x4 : Int32) (S : sd_St) (H : Heap) (locs : List Loc) (ls : Array Slot), q10 x2 x3 x4 S = some (r, S') → sd_H D cy ad A s S H locs → lv_has ls 5 [(0, .ref (ad 130)), (2, .int x2), (3, .int x3), (4, .int x4)] → W p l e (sd_rm 6) s m args below meth c H locs 0 0 (MQ below (sd_Qi D cy ad A r S') args s 0 0 A) (F0 m 10 ls [])) : ∀ (x2 : Int32) (x4 : Int32) (w0 : Int32) (w1 : Int32) (S : sd_St) (H : Heap) (locs : List Loc) (ls : Array Slot), f_X12_knowsBy_b39 q10 x2 x4 w0 w1 S = some (r, S') → sd_H D cy ad A s S H locs → lv_has ls 5 [(0, .ref (ad 130)), (2, .int x2), (4, .int x4)] → W p l e (sd_rm 6) s m args below meth c H locs 0 0 (MQ below (sd_Qi D cy ad A r S') args s 0 0 A) (F0 m 39 ls [.int w1, .int w0]) := by
  obtain ⟨hx, hb, -, hml, hown, hts, -, hG⟩ := id C
  intro x2 x4 w0 w1 S H locs ls h X hl
  unfold f_X12_knowsBy_b39 at h
  refine lv_ior hx hb dX12_knowsBy_39 ?_
  obtain ⟨v_1, e_1, h⟩ := sd_nm_some h
  refine sd_nmi e_1 ?_
  refine lv_istore_n (lv' := [(3, .int v_1), (0, .ref (ad 130)), (2, .int x2), (4, .int x4)]) hx hb dX12_knowsBy_40 rfl hl (by decide) rfl (fun ls hl => ?_)
  refine lv_iinc (v := (x4 + (1 : Int32))) (lv' := [(4, .int (x4 + (1 : Int32))), (3, .int v_1), (0, .ref (ad 130)), (2, .int x2)]) hx hb dX12_knowsBy_41 hl (k := 3) rfl rfl (by decide) rfl (fun ls hl => ?_)
  refine lv_goto (tgt := 10) hx hb dX12_knowsBy_44 (by decide) ?_
  exact hq10 x2 v_1 (x4 + (1 : Int32)) S _ _ _ h X (lv_sub hl [2, 3, 1, 0] rfl)
def f_X12_knowsBy_l10 : Nat → Int32 → Int32 → Int32 → sd_St → Option (Int32 × sd_St)
  | 0 => fun _ _ _ _ => none
  | n + 1 => fun x2 x3 x4 S => sd_cl (f_X12_people S) (fun r_3 S_2 => (if r_3 ≤ x4 then (some (x3, S_2)) else sd_ld S_2 140 x4 (fun v_5 => (if x2 < v_5 then f_X12_knowsBy_b39 (f_X12_knowsBy_l10 n) x2 x4 x3 (0 : Int32) S_2 else f_X12_knowsBy_b39 (f_X12_knowsBy_l10 n) x2 x4 x3 ((1 : Int32) <<< (x4 &&& 31)) S_2))))
set_option maxHeartbeats 4000000 in
set_option maxRecDepth 100000 in
theorem t_X12_knowsBy_l10 (C : sd_C RX12 cX12_knowsBy 5 (some .int) D cy ad A b0 p s m args meth c) {r : Int32} {S' : sd_St} : ∀ (n : Nat) (x2 : Int32) (x3 : Int32) (x4 : Int32) (S : sd_St) (H : Heap) (locs : List Loc) (ls : Array Slot), f_X12_knowsBy_l10 n x2 x3 x4 S = some (r, S') → sd_H D cy ad A s S H locs → lv_has ls 5 [(0, .ref (ad 130)), (2, .int x2), (3, .int x3), (4, .int x4)] → W p l e (sd_rm 6) s m args below meth c H locs 0 0 (MQ below (sd_Qi D cy ad A r S') args s 0 0 A) (F0 m 10 ls []) := by
  obtain ⟨hx, hb, -, hml, hown, hts, -, hG⟩ := id C
  intro n
  induction n with
  | zero => intro x2 x3 x4 S H locs ls h; cases h
  | succ n ih =>
    intro x2 x3 x4 S H locs ls h X hl
    unfold f_X12_knowsBy_l10 at h
    refine lv_iload hx hb dX12_knowsBy_10 (lv_at hl 3 rfl) ?_
    refine lv_aload_n hx hb dX12_knowsBy_12 rfl (lv_at hl 0 rfl) ?_
    obtain ⟨r_3, S_2, er_3, h⟩ := sd_cl_some h
    refine k_X12_people C X hl.1 er_3 sd_w24_18 (by decide) (Nat.le_of_ble_eq_true rfl) dX12_knowsBy_13 (fun H locs X => ?_)
    refine lv_icmp_ge (tgt := 47) hx hb dX12_knowsBy_16 (by decide) (fun c_4 => ?_) (fun c_4 => ?_)
    · have h := sd_ifp c_4 h
      refine lv_iload_n hx hb dX12_knowsBy_47 rfl (lv_at hl 2 rfl) ?_
      cases h
      exact sd_iret C X dX12_knowsBy_48
    · have h := sd_ifn c_4 h
      refine lv_iload_n hx hb dX12_knowsBy_19 rfl (lv_at hl 2 rfl) ?_
      refine lv_aload_n hx hb dX12_knowsBy_20 rfl (lv_at hl 0 rfl) ?_
      refine sd_g12_17 (k := 130) C X (by decide) sd_w8_12 dX12_knowsBy_21 ?_
      refine lv_iload hx hb dX12_knowsBy_24 (lv_at hl 3 rfl) ?_
      obtain ⟨b_5, v_5, e_5, h⟩ := sd_ld_some h
      refine sd_iald C X (by decide) b_5 dX12_knowsBy_26 (sd_nmi e_5 ?_)
      refine lv_iload_n hx hb dX12_knowsBy_27 rfl (lv_at hl 1 rfl) ?_
      refine lv_icmp_gt (tgt := 38) hx hb dX12_knowsBy_28 (by decide) (fun c_6 => ?_) (fun c_6 => ?_)
      · have h := sd_ifp c_6 h
        refine lv_iconst (v := (0 : Int32)) hx hb dX12_knowsBy_38 (by decide) ?_
        exact t_X12_knowsBy_b39 C ih x2 x4 x3 (0 : Int32) S_2 _ _ _ h X (lv_sub hl [0, 1, 3] rfl)
      · have h := sd_ifn c_6 h
        refine lv_iconst (v := (1 : Int32)) hx hb dX12_knowsBy_31 (by decide) ?_
        refine lv_iload hx hb dX12_knowsBy_32 (lv_at hl 3 rfl) ?_
        refine lv_ishl hx hb dX12_knowsBy_34 ?_
        refine lv_goto (tgt := 39) hx hb dX12_knowsBy_35 (by decide) ?_
        exact t_X12_knowsBy_b39 C ih x2 x4 x3 ((1 : Int32) <<< (x4 &&& 31)) S_2 _ _ _ h X (lv_sub hl [0, 1, 3] rfl)
def f_X12_knowsBy (x1 : Int32) (x2 : Int32) (S : sd_St) : Option (Int32 × sd_St) := sd_cl (f_X12_find_ x1 S) (fun _ S_7 => f_X12_knowsBy_l10 sd_FU x2 (0 : Int32) (0 : Int32) S_7)
set_option maxHeartbeats 4000000 in
set_option maxRecDepth 100000 in
theorem c_X12_knowsBy {x1 : Int32} {x2 : Int32} {S S' : sd_St} {r : Int32} (h : f_X12_knowsBy x1 x2 S = some (r, S')) : Met l yX12_knowsBy (Cond.code yX12_knowsBy cX12_knowsBy 5 (some .int) :: sd_wl) (sd_rm 6) (sd_P D cy ad A b0 [.ref (ad 130), .int x1, .int x2] S) (sd_Qi D cy ad A r S') 0 0 A := by
  refine sd_met (by decide) (Nat.le_of_ble_eq_true rfl) (fun p e s m args below meth c ls C X hl => ?_)
  obtain ⟨hx, hb, -, hml, hown, hts, -, hG⟩ := id C
  replace C : sd_C RX12 cX12_knowsBy 5 (some .int) D cy ad A b0 p s m args meth c := C
  replace hl : lv_has ls 5 [(0, .ref (ad 130)), (1, .int x1), (2, .int x2)] := hl
  unfold f_X12_knowsBy at h
  refine lv_aload_n hx hb dX12_knowsBy_0 rfl (lv_at hl 0 rfl) ?_
  refine lv_iload_n hx hb dX12_knowsBy_1 rfl (lv_at hl 1 rfl) ?_
  obtain ⟨r_8, S_7, er_8, h⟩ := sd_cl_some h
  refine k_X12_find_ C X hl.1 er_8 sd_w31_23 (by decide) (Nat.le_of_ble_eq_true rfl) dX12_knowsBy_2 (fun H locs X => ?_)
  refine lv_iconst (v := (0 : Int32)) hx hb dX12_knowsBy_5 (by decide) ?_
  refine lv_istore_n (lv' := [(3, .int (0 : Int32)), (0, .ref (ad 130)), (1, .int x1), (2, .int x2)]) hx hb dX12_knowsBy_6 rfl hl (by decide) rfl (fun ls hl => ?_)
  refine lv_iconst (v := (0 : Int32)) hx hb dX12_knowsBy_7 (by decide) ?_
  refine lv_istore (lv' := [(4, .int (0 : Int32)), (3, .int (0 : Int32)), (0, .ref (ad 130)), (1, .int x1), (2, .int x2)]) hx hb dX12_knowsBy_8 hl (by decide) rfl (fun ls hl => ?_)
  exact t_X12_knowsBy_l10 C sd_FU x2 (0 : Int32) (0 : Int32) S_7 _ _ _ h X (lv_sub hl [2, 4, 1, 0] rfl)
theorem k_X12_knowsBy (C : sd_C own cc nL rt D cy ad A b0 p s m args meth c) (X : sd_H D cy ad A s S H locs) (hls : ls.size = nL) {x1 : Int32} {x2 : Int32} {S2 : sd_St} {r : Int32} (h : f_X12_knowsBy x1 x2 S = some (r, S2)) (hlink : Cond.methodLink own index yX12_knowsBy ∈ sd_wl) (hR : 7 ≤ R.frames ∧ 264 ≤ R.locals ∧ cells ≤ R.cells ∧ slots ≤ R.slots) (hst : (rest.map fun v => v.category).sum ≤ 8) (hdg : decode cc pc = .ok (.invokevirtual index, 3)) (kk : ∀ (H1 : Heap) (locs1 : List Loc), sd_H D cy ad A s S2 H1 locs1 → W p l e R s m args below meth c H1 locs1 cells slots Q (F0 m (pc + 3) ls (.int r :: rest))) : W p l e R s m args below meth c H locs cells slots Q (F0 m pc ls (.int x2 :: .int x1 :: .ref (ad 130) :: rest)) :=
  sd_goI X (sd_runV C X hls (n := 2) (k := 130) (As := [.int x1, .int x2]) (c_X12_knowsBy (l := l) (b0 := b0) h) (sd_goodV hlink sd_w35_10 sd_w35_11 sd_w1_5 sd_w35_12) (ci := 12) rfl (by rw [(show sd_kd 130 = 12 by decide)]; decide) (sd_c12 (show sd_kd 130 = 12 by decide)) (by decide +kernel) rfl hR rfl hst hdg) kk
/-! ===== SecretDaysModel.cant(II)I ===== -/
def f_X12_cant (x1 : Int32) (x2 : Int32) (S : sd_St) : Option (Int32 × sd_St) := sd_nm (sd_I S 130 0 (0 : Int32)) (fun S_1 => sd_cl (f_X12_isSecret x1 S_1) (fun r_3 S_2 => (if r_3 = 0 then (some ((-1 : Int32), S_2)) else sd_cl (f_X12_isDate x2 S_2) (fun r_6 S_5 => (if r_6 = 0 then (some ((-1 : Int32), S_5)) else sd_cl (f_X12_people S_5) (fun r_9 S_8 => sd_cl (f_X12_knowsBy x1 x2 S_8) (fun r_11 S_10 => (some (((((1 : Int32) <<< (r_9 &&& 31)) - (1 : Int32)) &&& (r_11 ^^^ (-1 : Int32))), S_10)))))))))
set_option maxHeartbeats 4000000 in
set_option maxRecDepth 100000 in
theorem c_X12_cant {x1 : Int32} {x2 : Int32} {S S' : sd_St} {r : Int32} (h : f_X12_cant x1 x2 S = some (r, S')) : Met l yX12_cant (Cond.code yX12_cant cX12_cant 3 (some .int) :: sd_wl) (sd_rm 7) (sd_P D cy ad A b0 [.ref (ad 130), .int x1, .int x2] S) (sd_Qi D cy ad A r S') 0 0 A := by
  refine sd_met (by decide) (Nat.le_of_ble_eq_true rfl) (fun p e s m args below meth c ls C X hl => ?_)
  obtain ⟨hx, hb, -, hml, hown, hts, -, hG⟩ := id C
  replace C : sd_C RX12 cX12_cant 3 (some .int) D cy ad A b0 p s m args meth c := C
  replace hl : lv_has ls 3 [(0, .ref (ad 130)), (1, .int x1), (2, .int x2)] := hl
  unfold f_X12_cant at h
  refine lv_aload_n hx hb dX12_cant_0 rfl (lv_at hl 0 rfl) ?_
  refine lv_iconst (v := (0 : Int32)) hx hb dX12_cant_1 (by decide) ?_
  obtain ⟨S_1, eS_1, h⟩ := sd_nm_some h
  refine sd_p12_0 C X (by decide) sd_w9_3 dX12_cant_2 (fun H locs X => ?_)
  rw [← eS_1] at X
  refine lv_aload_n hx hb dX12_cant_5 rfl (lv_at hl 0 rfl) ?_
  refine lv_iload_n hx hb dX12_cant_6 rfl (lv_at hl 1 rfl) ?_
  obtain ⟨r_3, S_2, er_3, h⟩ := sd_cl_some h
  refine k_X12_isSecret C X hl.1 er_3 sd_w31_15 (by decide) (Nat.le_of_ble_eq_true rfl) dX12_cant_7 (fun H locs X => ?_)
  refine lv_if_eq (tgt := 40) hx hb dX12_cant_10 (by decide) (fun c_4 => ?_) (fun c_4 => ?_)
  · have h := sd_ifp c_4 h
    refine lv_iconst (v := (-1 : Int32)) hx hb dX12_cant_40 (by decide) ?_
    cases h
    exact sd_iret C X dX12_cant_41
  · have h := sd_ifn c_4 h
    refine lv_iload_n hx hb dX12_cant_13 rfl (lv_at hl 2 rfl) ?_
    obtain ⟨r_6, S_5, er_6, h⟩ := sd_cl_some h
    refine k_X12_isDate C X hl.1 er_6 sd_w26_1 (by decide) (Nat.le_of_ble_eq_true rfl) dX12_cant_14 (fun H locs X => ?_)
    refine lv_if_eq (tgt := 40) hx hb dX12_cant_17 (by decide) (fun c_7 => ?_) (fun c_7 => ?_)
    · have h := sd_ifp c_7 h
      refine lv_iconst (v := (-1 : Int32)) hx hb dX12_cant_40 (by decide) ?_
      cases h
      exact sd_iret C X dX12_cant_41
    · have h := sd_ifn c_7 h
      refine lv_iconst (v := (1 : Int32)) hx hb dX12_cant_20 (by decide) ?_
      refine lv_aload_n hx hb dX12_cant_21 rfl (lv_at hl 0 rfl) ?_
      obtain ⟨r_9, S_8, er_9, h⟩ := sd_cl_some h
      refine k_X12_people C X hl.1 er_9 sd_w24_18 (by decide) (Nat.le_of_ble_eq_true rfl) dX12_cant_22 (fun H locs X => ?_)
      refine lv_ishl hx hb dX12_cant_25 ?_
      refine lv_iconst (v := (1 : Int32)) hx hb dX12_cant_26 (by decide) ?_
      refine lv_isub hx hb dX12_cant_27 ?_
      refine lv_aload_n hx hb dX12_cant_28 rfl (lv_at hl 0 rfl) ?_
      refine lv_iload_n hx hb dX12_cant_29 rfl (lv_at hl 1 rfl) ?_
      refine lv_iload_n hx hb dX12_cant_30 rfl (lv_at hl 2 rfl) ?_
      obtain ⟨r_11, S_10, er_11, h⟩ := sd_cl_some h
      refine k_X12_knowsBy C X hl.1 er_11 sd_w35_9 (by decide) (Nat.le_of_ble_eq_true rfl) dX12_cant_31 (fun H locs X => ?_)
      refine lv_iconst (v := (-1 : Int32)) hx hb dX12_cant_34 (by decide) ?_
      refine lv_ixor hx hb dX12_cant_35 ?_
      refine lv_iand hx hb dX12_cant_36 ?_
      refine lv_goto (tgt := 41) hx hb dX12_cant_37 (by decide) ?_
      cases h
      exact sd_iret C X dX12_cant_41
theorem k_X12_cant (C : sd_C own cc nL rt D cy ad A b0 p s m args meth c) (X : sd_H D cy ad A s S H locs) (hls : ls.size = nL) {x1 : Int32} {x2 : Int32} {S2 : sd_St} {r : Int32} (h : f_X12_cant x1 x2 S = some (r, S2)) (hlink : Cond.methodLink own index yX12_cant ∈ sd_wl) (hR : 8 ≤ R.frames ∧ 302 ≤ R.locals ∧ cells ≤ R.cells ∧ slots ≤ R.slots) (hst : (rest.map fun v => v.category).sum ≤ 8) (hdg : decode cc pc = .ok (.invokevirtual index, 3)) (kk : ∀ (H1 : Heap) (locs1 : List Loc), sd_H D cy ad A s S2 H1 locs1 → W p l e R s m args below meth c H1 locs1 cells slots Q (F0 m (pc + 3) ls (.int r :: rest))) : W p l e R s m args below meth c H locs cells slots Q (F0 m pc ls (.int x2 :: .int x1 :: .ref (ad 130) :: rest)) :=
  sd_goI X (sd_runV C X hls (n := 2) (k := 130) (As := [.int x1, .int x2]) (c_X12_cant (l := l) (b0 := b0) h) (sd_goodV hlink sd_w35_6 sd_w35_7 sd_w1_5 sd_w35_8) (ci := 12) rfl (by rw [(show sd_kd 130 = 12 by decide)]; decide) (sd_c12 (show sd_kd 130 = 12 by decide)) (by decide +kernel) rfl hR rfl hst hdg) kk
/-! ===== SecretDaysModel.knows(II)I ===== -/
def f_X12_knows (x1 : Int32) (x2 : Int32) (S : sd_St) : Option (Int32 × sd_St) := sd_nm (sd_I S 130 0 (0 : Int32)) (fun S_1 => sd_cl (f_X12_isSecret x1 S_1) (fun r_3 S_2 => (if r_3 = 0 then (some ((-1 : Int32), S_2)) else sd_cl (f_X12_isDate x2 S_2) (fun r_6 S_5 => (if r_6 = 0 then (some ((-1 : Int32), S_5)) else sd_cl (f_X12_knowsBy x1 x2 S_5) (fun r_9 S_8 => (some (r_9, S_8))))))))
set_option maxHeartbeats 4000000 in
set_option maxRecDepth 100000 in
theorem c_X12_knows {x1 : Int32} {x2 : Int32} {S S' : sd_St} {r : Int32} (h : f_X12_knows x1 x2 S = some (r, S')) : Met l yX12_knows (Cond.code yX12_knows cX12_knows 3 (some .int) :: sd_wl) (sd_rm 7) (sd_P D cy ad A b0 [.ref (ad 130), .int x1, .int x2] S) (sd_Qi D cy ad A r S') 0 0 A := by
  refine sd_met (by decide) (Nat.le_of_ble_eq_true rfl) (fun p e s m args below meth c ls C X hl => ?_)
  obtain ⟨hx, hb, -, hml, hown, hts, -, hG⟩ := id C
  replace C : sd_C RX12 cX12_knows 3 (some .int) D cy ad A b0 p s m args meth c := C
  replace hl : lv_has ls 3 [(0, .ref (ad 130)), (1, .int x1), (2, .int x2)] := hl
  unfold f_X12_knows at h
  refine lv_aload_n hx hb dX12_knows_0 rfl (lv_at hl 0 rfl) ?_
  refine lv_iconst (v := (0 : Int32)) hx hb dX12_knows_1 (by decide) ?_
  obtain ⟨S_1, eS_1, h⟩ := sd_nm_some h
  refine sd_p12_0 C X (by decide) sd_w9_3 dX12_knows_2 (fun H locs X => ?_)
  rw [← eS_1] at X
  refine lv_aload_n hx hb dX12_knows_5 rfl (lv_at hl 0 rfl) ?_
  refine lv_iload_n hx hb dX12_knows_6 rfl (lv_at hl 1 rfl) ?_
  obtain ⟨r_3, S_2, er_3, h⟩ := sd_cl_some h
  refine k_X12_isSecret C X hl.1 er_3 sd_w31_15 (by decide) (Nat.le_of_ble_eq_true rfl) dX12_knows_7 (fun H locs X => ?_)
  refine lv_if_eq (tgt := 29) hx hb dX12_knows_10 (by decide) (fun c_4 => ?_) (fun c_4 => ?_)
  · have h := sd_ifp c_4 h
    refine lv_iconst (v := (-1 : Int32)) hx hb dX12_knows_29 (by decide) ?_
    cases h
    exact sd_iret C X dX12_knows_30
  · have h := sd_ifn c_4 h
    refine lv_iload_n hx hb dX12_knows_13 rfl (lv_at hl 2 rfl) ?_
    obtain ⟨r_6, S_5, er_6, h⟩ := sd_cl_some h
    refine k_X12_isDate C X hl.1 er_6 sd_w26_1 (by decide) (Nat.le_of_ble_eq_true rfl) dX12_knows_14 (fun H locs X => ?_)
    refine lv_if_eq (tgt := 29) hx hb dX12_knows_17 (by decide) (fun c_7 => ?_) (fun c_7 => ?_)
    · have h := sd_ifp c_7 h
      refine lv_iconst (v := (-1 : Int32)) hx hb dX12_knows_29 (by decide) ?_
      cases h
      exact sd_iret C X dX12_knows_30
    · have h := sd_ifn c_7 h
      refine lv_aload_n hx hb dX12_knows_20 rfl (lv_at hl 0 rfl) ?_
      refine lv_iload_n hx hb dX12_knows_21 rfl (lv_at hl 1 rfl) ?_
      refine lv_iload_n hx hb dX12_knows_22 rfl (lv_at hl 2 rfl) ?_
      obtain ⟨r_9, S_8, er_9, h⟩ := sd_cl_some h
      refine k_X12_knowsBy C X hl.1 er_9 sd_w35_9 (by decide) (Nat.le_of_ble_eq_true rfl) dX12_knows_23 (fun H locs X => ?_)
      refine lv_goto (tgt := 30) hx hb dX12_knows_26 (by decide) ?_
      cases h
      exact sd_iret C X dX12_knows_30
theorem k_X12_knows (C : sd_C own cc nL rt D cy ad A b0 p s m args meth c) (X : sd_H D cy ad A s S H locs) (hls : ls.size = nL) {x1 : Int32} {x2 : Int32} {S2 : sd_St} {r : Int32} (h : f_X12_knows x1 x2 S = some (r, S2)) (hlink : Cond.methodLink own index yX12_knows ∈ sd_wl) (hR : 8 ≤ R.frames ∧ 302 ≤ R.locals ∧ cells ≤ R.cells ∧ slots ≤ R.slots) (hst : (rest.map fun v => v.category).sum ≤ 8) (hdg : decode cc pc = .ok (.invokevirtual index, 3)) (kk : ∀ (H1 : Heap) (locs1 : List Loc), sd_H D cy ad A s S2 H1 locs1 → W p l e R s m args below meth c H1 locs1 cells slots Q (F0 m (pc + 3) ls (.int r :: rest))) : W p l e R s m args below meth c H locs cells slots Q (F0 m pc ls (.int x2 :: .int x1 :: .ref (ad 130) :: rest)) :=
  sd_goI X (sd_runV C X hls (n := 2) (k := 130) (As := [.int x1, .int x2]) (c_X12_knows (l := l) (b0 := b0) h) (sd_goodV hlink sd_w36_6 sd_w36_7 sd_w1_5 sd_w36_8) (ci := 12) rfl (by rw [(show sd_kd 130 = 12 by decide)]; decide) (sd_c12 (show sd_kd 130 = 12 by decide)) (by decide +kernel) rfl hR rfl hst hdg) kk
/-! ===== SecretDaysModel.all(I)I ===== -/
def f_X12_all_b52 (q24 : (Int32 → Int32 → sd_St → Option (Int32 × sd_St))) (x3 : Int32) (w0 : Int32) (S : sd_St) : Option (Int32 × sd_St) := q24 w0 (x3 + (1 : Int32)) S
set_option maxHeartbeats 4000000 in
set_option maxRecDepth 100000 in
theorem t_X12_all_b52 (C : sd_C RX12 cX12_all 4 (some .int) D cy ad A b0 p s m args meth c) {r : Int32} {S' : sd_St} {q24 : (Int32 → Int32 → sd_St → Option (Int32 × sd_St))} (hq24 : ∀ (x2 : Int32) (x3 : Int32) (S : sd_St) (H : Heap) (locs : List Loc) (ls : Array Slot), q24 x2 x3 S = some (r, S') → sd_H D cy ad A s S H locs → lv_has ls 4 [(0, .ref (ad 130)), (2, .int x2), (3, .int x3)] → W p l e (sd_rm 6) s m args below meth c H locs 0 0 (MQ below (sd_Qi D cy ad A r S') args s 0 0 A) (F0 m 24 ls [])) : ∀ (x3 : Int32) (w0 : Int32) (S : sd_St) (H : Heap) (locs : List Loc) (ls : Array Slot), f_X12_all_b52 q24 x3 w0 S = some (r, S') → sd_H D cy ad A s S H locs → lv_has ls 4 [(0, .ref (ad 130)), (3, .int x3)] → W p l e (sd_rm 6) s m args below meth c H locs 0 0 (MQ below (sd_Qi D cy ad A r S') args s 0 0 A) (F0 m 52 ls [.int w0]) := by
  obtain ⟨hx, hb, -, hml, hown, hts, -, hG⟩ := id C
  intro x3 w0 S H locs ls h X hl
  unfold f_X12_all_b52 at h
  refine lv_istore_n (lv' := [(2, .int w0), (0, .ref (ad 130)), (3, .int x3)]) hx hb dX12_all_52 rfl hl (by decide) rfl (fun ls hl => ?_)
  refine lv_iinc (v := (x3 + (1 : Int32))) (lv' := [(3, .int (x3 + (1 : Int32))), (2, .int w0), (0, .ref (ad 130))]) hx hb dX12_all_53 hl (k := 2) rfl rfl (by decide) rfl (fun ls hl => ?_)
  refine lv_goto (tgt := 24) hx hb dX12_all_56 (by decide) ?_
  exact hq24 w0 (x3 + (1 : Int32)) S _ _ _ h X (lv_sub hl [2, 1, 0] rfl)
def f_X12_all_l24 : Nat → Int32 → Int32 → sd_St → Option (Int32 × sd_St)
  | 0 => fun _ _ _ => none
  | n + 1 => fun x2 x3 S => sd_cl (f_X12_people S) (fun r_2 S_1 => (if r_2 ≤ x3 then (if x2 = (1000000 : Int32) then (some ((-1 : Int32), S_1)) else (some (x2, S_1))) else sd_ld S_1 140 x3 (fun v_5 => (if v_5 ≤ x2 then f_X12_all_b52 (f_X12_all_l24 n) x3 x2 S_1 else sd_ld S_1 140 x3 (fun v_7 => f_X12_all_b52 (f_X12_all_l24 n) x3 v_7 S_1)))))
set_option maxHeartbeats 4000000 in
set_option maxRecDepth 100000 in
theorem t_X12_all_l24 (C : sd_C RX12 cX12_all 4 (some .int) D cy ad A b0 p s m args meth c) {r : Int32} {S' : sd_St} : ∀ (n : Nat) (x2 : Int32) (x3 : Int32) (S : sd_St) (H : Heap) (locs : List Loc) (ls : Array Slot), f_X12_all_l24 n x2 x3 S = some (r, S') → sd_H D cy ad A s S H locs → lv_has ls 4 [(0, .ref (ad 130)), (2, .int x2), (3, .int x3)] → W p l e (sd_rm 6) s m args below meth c H locs 0 0 (MQ below (sd_Qi D cy ad A r S') args s 0 0 A) (F0 m 24 ls []) := by
  obtain ⟨hx, hb, -, hml, hown, hts, -, hG⟩ := id C
  intro n
  induction n with
  | zero => intro x2 x3 S H locs ls h; cases h
  | succ n ih =>
    intro x2 x3 S H locs ls h X hl
    unfold f_X12_all_l24 at h
    refine lv_iload_n hx hb dX12_all_24 rfl (lv_at hl 2 rfl) ?_
    refine lv_aload_n hx hb dX12_all_25 rfl (lv_at hl 0 rfl) ?_
    obtain ⟨r_2, S_1, er_2, h⟩ := sd_cl_some h
    refine k_X12_people C X hl.1 er_2 sd_w24_18 (by decide) (Nat.le_of_ble_eq_true rfl) dX12_all_26 (fun H locs X => ?_)
    refine lv_icmp_ge (tgt := 59) hx hb dX12_all_29 (by decide) (fun c_3 => ?_) (fun c_3 => ?_)
    · have h := sd_ifp c_3 h
      refine lv_iload_n hx hb dX12_all_59 rfl (lv_at hl 1 rfl) ?_
      refine lv_ldcw (v := (1000000 : Int32)) hx hb hown (hts _ sd_w31_10) dX12_all_60 ?_
      refine lv_icmp_ne (tgt := 70) hx hb dX12_all_63 (by decide) (fun c_4 => ?_) (fun c_4 => ?_)
      · have h := sd_ifn c_4 h
        refine lv_iload_n hx hb dX12_all_70 rfl (lv_at hl 1 rfl) ?_
        cases h
        exact sd_iret C X dX12_all_71
      · have h := sd_ifp c_4 h
        refine lv_iconst (v := (-1 : Int32)) hx hb dX12_all_66 (by decide) ?_
        refine lv_goto (tgt := 71) hx hb dX12_all_67 (by decide) ?_
        cases h
        exact sd_iret C X dX12_all_71
    · have h := sd_ifn c_3 h
      refine lv_aload_n hx hb dX12_all_32 rfl (lv_at hl 0 rfl) ?_
      refine sd_g12_17 (k := 130) C X (by decide) sd_w8_12 dX12_all_33 ?_
      refine lv_iload_n hx hb dX12_all_36 rfl (lv_at hl 2 rfl) ?_
      obtain ⟨b_5, v_5, e_5, h⟩ := sd_ld_some h
      refine sd_iald C X (by decide) b_5 dX12_all_37 (sd_nmi e_5 ?_)
      refine lv_iload_n hx hb dX12_all_38 rfl (lv_at hl 1 rfl) ?_
      refine lv_icmp_le (tgt := 51) hx hb dX12_all_39 (by decide) (fun c_6 => ?_) (fun c_6 => ?_)
      · have h := sd_ifp c_6 h
        refine lv_iload_n hx hb dX12_all_51 rfl (lv_at hl 1 rfl) ?_
        exact t_X12_all_b52 C ih x3 x2 S_1 _ _ _ h X (lv_sub hl [0, 2] rfl)
      · have h := sd_ifn c_6 h
        refine lv_aload_n hx hb dX12_all_42 rfl (lv_at hl 0 rfl) ?_
        refine sd_g12_17 (k := 130) C X (by decide) sd_w8_12 dX12_all_43 ?_
        refine lv_iload_n hx hb dX12_all_46 rfl (lv_at hl 2 rfl) ?_
        obtain ⟨b_7, v_7, e_7, h⟩ := sd_ld_some h
        refine sd_iald C X (by decide) b_7 dX12_all_47 (sd_nmi e_7 ?_)
        refine lv_goto (tgt := 52) hx hb dX12_all_48 (by decide) ?_
        exact t_X12_all_b52 C ih x3 v_7 S_1 _ _ _ h X (lv_sub hl [0, 2] rfl)
def f_X12_all (x1 : Int32) (S : sd_St) : Option (Int32 × sd_St) := sd_nm (sd_I S 130 0 (0 : Int32)) (fun S_8 => sd_cl (f_X12_isSecret x1 S_8) (fun r_10 S_9 => (if r_10 = 0 then (some ((-1 : Int32), S_9)) else sd_cl (f_X12_find_ x1 S_9) (fun _ S_12 => f_X12_all_l24 sd_FU (-1 : Int32) (0 : Int32) S_12))))
set_option maxHeartbeats 4000000 in
set_option maxRecDepth 100000 in
theorem c_X12_all {x1 : Int32} {S S' : sd_St} {r : Int32} (h : f_X12_all x1 S = some (r, S')) : Met l yX12_all (Cond.code yX12_all cX12_all 4 (some .int) :: sd_wl) (sd_rm 6) (sd_P D cy ad A b0 [.ref (ad 130), .int x1] S) (sd_Qi D cy ad A r S') 0 0 A := by
  refine sd_met (by decide) (Nat.le_of_ble_eq_true rfl) (fun p e s m args below meth c ls C X hl => ?_)
  obtain ⟨hx, hb, -, hml, hown, hts, -, hG⟩ := id C
  replace C : sd_C RX12 cX12_all 4 (some .int) D cy ad A b0 p s m args meth c := C
  replace hl : lv_has ls 4 [(0, .ref (ad 130)), (1, .int x1)] := hl
  unfold f_X12_all at h
  refine lv_aload_n hx hb dX12_all_0 rfl (lv_at hl 0 rfl) ?_
  refine lv_iconst (v := (0 : Int32)) hx hb dX12_all_1 (by decide) ?_
  obtain ⟨S_8, eS_8, h⟩ := sd_nm_some h
  refine sd_p12_0 C X (by decide) sd_w9_3 dX12_all_2 (fun H locs X => ?_)
  rw [← eS_8] at X
  refine lv_aload_n hx hb dX12_all_5 rfl (lv_at hl 0 rfl) ?_
  refine lv_iload_n hx hb dX12_all_6 rfl (lv_at hl 1 rfl) ?_
  obtain ⟨r_10, S_9, er_10, h⟩ := sd_cl_some h
  refine k_X12_isSecret C X hl.1 er_10 sd_w31_15 (by decide) (Nat.le_of_ble_eq_true rfl) dX12_all_7 (fun H locs X => ?_)
  refine lv_if_ne (tgt := 15) hx hb dX12_all_10 (by decide) (fun c_11 => ?_) (fun c_11 => ?_)
  · have h := sd_ifn c_11 h
    refine lv_aload_n hx hb dX12_all_15 rfl (lv_at hl 0 rfl) ?_
    refine lv_iload_n hx hb dX12_all_16 rfl (lv_at hl 1 rfl) ?_
    obtain ⟨r_13, S_12, er_13, h⟩ := sd_cl_some h
    refine k_X12_find_ C X hl.1 er_13 sd_w31_23 (by decide) (Nat.le_of_ble_eq_true rfl) dX12_all_17 (fun H locs X => ?_)
    refine lv_iconst (v := (-1 : Int32)) hx hb dX12_all_20 (by decide) ?_
    refine lv_istore_n (lv' := [(2, .int (-1 : Int32)), (0, .ref (ad 130)), (1, .int x1)]) hx hb dX12_all_21 rfl hl (by decide) rfl (fun ls hl => ?_)
    refine lv_iconst (v := (0 : Int32)) hx hb dX12_all_22 (by decide) ?_
    refine lv_istore_n (lv' := [(3, .int (0 : Int32)), (2, .int (-1 : Int32)), (0, .ref (ad 130)), (1, .int x1)]) hx hb dX12_all_23 rfl hl (by decide) rfl (fun ls hl => ?_)
    exact t_X12_all_l24 C sd_FU (-1 : Int32) (0 : Int32) S_12 _ _ _ h X (lv_sub hl [2, 1, 0] rfl)
  · have h := sd_ifp c_11 h
    refine lv_iconst (v := (-1 : Int32)) hx hb dX12_all_13 (by decide) ?_
    cases h
    exact sd_iret C X dX12_all_14
theorem k_X12_all (C : sd_C own cc nL rt D cy ad A b0 p s m args meth c) (X : sd_H D cy ad A s S H locs) (hls : ls.size = nL) {x1 : Int32} {S2 : sd_St} {r : Int32} (h : f_X12_all x1 S = some (r, S2)) (hlink : Cond.methodLink own index yX12_all ∈ sd_wl) (hR : 7 ≤ R.frames ∧ 263 ≤ R.locals ∧ cells ≤ R.cells ∧ slots ≤ R.slots) (hst : (rest.map fun v => v.category).sum ≤ 8) (hdg : decode cc pc = .ok (.invokevirtual index, 3)) (kk : ∀ (H1 : Heap) (locs1 : List Loc), sd_H D cy ad A s S2 H1 locs1 → W p l e R s m args below meth c H1 locs1 cells slots Q (F0 m (pc + 3) ls (.int r :: rest))) : W p l e R s m args below meth c H locs cells slots Q (F0 m pc ls (.int x1 :: .ref (ad 130) :: rest)) :=
  sd_goI X (sd_runV C X hls (n := 1) (k := 130) (As := [.int x1]) (c_X12_all (l := l) (b0 := b0) h) (sd_goodV hlink sd_w35_22 sd_w35_23 sd_w1_5 sd_w36_0) (ci := 12) rfl (by rw [(show sd_kd 130 = 12 by decide)]; decide) (sd_c12 (show sd_kd 130 = 12 by decide)) (by decide +kernel) rfl hR rfl hst hdg) kk
/-! ===== SecretDaysModel.isSet(II)Z ===== -/
def f_X12_isSet (x0 : Int32) (x1 : Int32) (S : sd_St) : Option (Int32 × sd_St) := (if x0 < 0 then (some ((0 : Int32), S)) else (if ((1 : Int32) <<< (x1 &&& 31)) ≤ x0 then (some ((0 : Int32), S)) else (some ((1 : Int32), S))))
set_option maxHeartbeats 4000000 in
set_option maxRecDepth 100000 in
theorem c_X12_isSet {x0 : Int32} {x1 : Int32} {S S' : sd_St} {r : Int32} (h : f_X12_isSet x0 x1 S = some (r, S')) : Met l yX12_isSet (Cond.code yX12_isSet cX12_isSet 2 (some .boolean) :: sd_wl) (sd_rm 0) (sd_P D cy ad A b0 [.int x0, .int x1] S) (sd_Qi D cy ad A r S') 0 0 A := by
  refine sd_met (by decide) (Nat.le_of_ble_eq_true rfl) (fun p e s m args below meth c ls C X hl => ?_)
  obtain ⟨hx, hb, -, hml, hown, hts, -, hG⟩ := id C
  replace C : sd_C RX12 cX12_isSet 2 (some .boolean) D cy ad A b0 p s m args meth c := C
  replace hl : lv_has ls 2 [(0, .int x0), (1, .int x1)] := hl
  unfold f_X12_isSet at h
  refine lv_iload_n hx hb dX12_isSet_0 rfl (lv_at hl 0 rfl) ?_
  refine lv_if_lt (tgt := 15) hx hb dX12_isSet_1 (by decide) (fun c_1 => ?_) (fun c_1 => ?_)
  · have h := sd_ifp c_1 h
    refine lv_iconst (v := (0 : Int32)) hx hb dX12_isSet_15 (by decide) ?_
    cases h
    exact sd_zret C X (by decide) dX12_isSet_16
  · have h := sd_ifn c_1 h
    refine lv_iload_n hx hb dX12_isSet_4 rfl (lv_at hl 0 rfl) ?_
    refine lv_iconst (v := (1 : Int32)) hx hb dX12_isSet_5 (by decide) ?_
    refine lv_iload_n hx hb dX12_isSet_6 rfl (lv_at hl 1 rfl) ?_
    refine lv_ishl hx hb dX12_isSet_7 ?_
    refine lv_icmp_ge (tgt := 15) hx hb dX12_isSet_8 (by decide) (fun c_2 => ?_) (fun c_2 => ?_)
    · have h := sd_ifp c_2 h
      refine lv_iconst (v := (0 : Int32)) hx hb dX12_isSet_15 (by decide) ?_
      cases h
      exact sd_zret C X (by decide) dX12_isSet_16
    · have h := sd_ifn c_2 h
      refine lv_iconst (v := (1 : Int32)) hx hb dX12_isSet_11 (by decide) ?_
      refine lv_goto (tgt := 16) hx hb dX12_isSet_12 (by decide) ?_
      cases h
      exact sd_zret C X (by decide) dX12_isSet_16
theorem k_X12_isSet (C : sd_C own cc nL rt D cy ad A b0 p s m args meth c) (X : sd_H D cy ad A s S H locs) (hls : ls.size = nL) {x0 : Int32} {x1 : Int32} {S2 : sd_St} {r : Int32} (h : f_X12_isSet x0 x1 S = some (r, S2)) (hlink : Cond.methodLink own index yX12_isSet ∈ sd_wl) (hR : 1 ≤ R.frames ∧ 21 ≤ R.locals ∧ cells ≤ R.cells ∧ slots ≤ R.slots) (hst : (rest.map fun v => v.category).sum ≤ 8) (hdg : decode cc pc = .ok (.invokestatic index, 3)) (kk : ∀ (H1 : Heap) (locs1 : List Loc), sd_H D cy ad A s S2 H1 locs1 → W p l e R s m args below meth c H1 locs1 cells slots Q (F0 m (pc + 3) ls (.int r :: rest))) : W p l e R s m args below meth c H locs cells slots Q (F0 m pc ls (.int x1 :: .int x0 :: rest)) :=
  sd_goI X (sd_runJ C X hls (n := 2) (As := [.int x0, .int x1]) (c_X12_isSet (l := l) (b0 := b0) h) hlink sd_w37_18 sd_w1_5 sd_w37_19 (by decide +kernel) rfl hR rfl hst hdg) kk
/-! ===== SecretDaysModel.earliest(IIIIII)I ===== -/
def f_X12_earliest_b107 (q29 : (Int32 → Int32 → Int32 → Int32 → Int32 → Int32 → sd_St → Option (Int32 × sd_St))) (x2 : Int32) (x3 : Int32) (x5 : Int32) (x6 : Int32) (x7 : Int32) (x8 : Int32) (S : sd_St) : Option (Int32 × sd_St) := q29 x2 x3 x5 x6 x7 (x8 + (1 : Int32)) S
set_option maxHeartbeats 4000000 in
set_option maxRecDepth 100000 in
theorem t_X12_earliest_b107 (C : sd_C RX12 cX12_earliest 10 (some .int) D cy ad A b0 p s m args meth c) {r : Int32} {S' : sd_St} {q29 : (Int32 → Int32 → Int32 → Int32 → Int32 → Int32 → sd_St → Option (Int32 × sd_St))} (hq29 : ∀ (x2 : Int32) (x3 : Int32) (x5 : Int32) (x6 : Int32) (x7 : Int32) (x8 : Int32) (S : sd_St) (H : Heap) (locs : List Loc) (ls : Array Slot), q29 x2 x3 x5 x6 x7 x8 S = some (r, S') → sd_H D cy ad A s S H locs → lv_has ls 10 [(0, .ref (ad 130)), (2, .int x2), (3, .int x3), (5, .int x5), (6, .int x6), (7, .int x7), (8, .int x8)] → W p l e (sd_rm 3) s m args below meth c H locs 0 0 (MQ below (sd_Qi D cy ad A r S') args s 0 0 A) (F0 m 29 ls [])) : ∀ (x2 : Int32) (x3 : Int32) (x5 : Int32) (x6 : Int32) (x7 : Int32) (x8 : Int32) (S : sd_St) (H : Heap) (locs : List Loc) (ls : Array Slot), f_X12_earliest_b107 q29 x2 x3 x5 x6 x7 x8 S = some (r, S') → sd_H D cy ad A s S H locs → lv_has ls 10 [(0, .ref (ad 130)), (2, .int x2), (3, .int x3), (5, .int x5), (6, .int x6), (7, .int x7), (8, .int x8)] → W p l e (sd_rm 3) s m args below meth c H locs 0 0 (MQ below (sd_Qi D cy ad A r S') args s 0 0 A) (F0 m 107 ls []) := by
  obtain ⟨hx, hb, -, hml, hown, hts, -, hG⟩ := id C
  intro x2 x3 x5 x6 x7 x8 S H locs ls h X hl
  unfold f_X12_earliest_b107 at h
  refine lv_iinc (v := (x8 + (1 : Int32))) (lv' := [(8, .int (x8 + (1 : Int32))), (0, .ref (ad 130)), (2, .int x2), (3, .int x3), (5, .int x5), (6, .int x6), (7, .int x7)]) hx hb dX12_earliest_107 hl (k := 6) rfl rfl (by decide) rfl (fun ls hl => ?_)
  refine lv_goto (tgt := 29) hx hb dX12_earliest_110 (by decide) ?_
  exact hq29 x2 x3 x5 x6 x7 (x8 + (1 : Int32)) S _ _ _ h X (lv_sub hl [1, 2, 3, 4, 5, 6, 0] rfl)
def f_X12_earliest_b77 (q29 : (Int32 → Int32 → Int32 → Int32 → Int32 → Int32 → sd_St → Option (Int32 × sd_St))) (x2 : Int32) (x3 : Int32) (x5 : Int32) (x6 : Int32) (x7 : Int32) (x8 : Int32) (w0 : Int32) (S : sd_St) : Option (Int32 × sd_St) := (if w0 = 0 then f_X12_earliest_b107 q29 x2 x3 x5 x6 x7 x8 S else sd_cl (f_X12_isFree x2 x8 S) (fun r_3 S_2 => (if r_3 = 0 then f_X12_earliest_b107 q29 x2 x3 x5 x6 x7 x8 S_2 else sd_cl (f_X12_isGone x3 x8 S_2) (fun r_6 S_5 => (if r_6 = 0 then (some (x8, S_5)) else f_X12_earliest_b107 q29 x2 x3 x5 x6 x7 x8 S_5)))))
set_option maxHeartbeats 4000000 in
set_option maxRecDepth 100000 in
theorem t_X12_earliest_b77 (C : sd_C RX12 cX12_earliest 10 (some .int) D cy ad A b0 p s m args meth c) {r : Int32} {S' : sd_St} {q29 : (Int32 → Int32 → Int32 → Int32 → Int32 → Int32 → sd_St → Option (Int32 × sd_St))} (hq29 : ∀ (x2 : Int32) (x3 : Int32) (x5 : Int32) (x6 : Int32) (x7 : Int32) (x8 : Int32) (S : sd_St) (H : Heap) (locs : List Loc) (ls : Array Slot), q29 x2 x3 x5 x6 x7 x8 S = some (r, S') → sd_H D cy ad A s S H locs → lv_has ls 10 [(0, .ref (ad 130)), (2, .int x2), (3, .int x3), (5, .int x5), (6, .int x6), (7, .int x7), (8, .int x8)] → W p l e (sd_rm 3) s m args below meth c H locs 0 0 (MQ below (sd_Qi D cy ad A r S') args s 0 0 A) (F0 m 29 ls [])) : ∀ (x2 : Int32) (x3 : Int32) (x5 : Int32) (x6 : Int32) (x7 : Int32) (x8 : Int32) (w0 : Int32) (S : sd_St) (H : Heap) (locs : List Loc) (ls : Array Slot), f_X12_earliest_b77 q29 x2 x3 x5 x6 x7 x8 w0 S = some (r, S') → sd_H D cy ad A s S H locs → lv_has ls 10 [(0, .ref (ad 130)), (2, .int x2), (3, .int x3), (5, .int x5), (6, .int x6), (7, .int x7), (8, .int x8)] → W p l e (sd_rm 3) s m args below meth c H locs 0 0 (MQ below (sd_Qi D cy ad A r S') args s 0 0 A) (F0 m 77 ls [.int w0]) := by
  obtain ⟨hx, hb, -, hml, hown, hts, -, hG⟩ := id C
  intro x2 x3 x5 x6 x7 x8 w0 S H locs ls h X hl
  unfold f_X12_earliest_b77 at h
  refine lv_istore (lv' := [(9, .int w0), (0, .ref (ad 130)), (2, .int x2), (3, .int x3), (5, .int x5), (6, .int x6), (7, .int x7), (8, .int x8)]) hx hb dX12_earliest_77 hl (by decide) rfl (fun ls hl => ?_)
  refine lv_iload hx hb dX12_earliest_79 (lv_at hl 0 rfl) ?_
  refine lv_if_eq (tgt := 107) hx hb dX12_earliest_81 (by decide) (fun c_1 => ?_) (fun c_1 => ?_)
  · have h := sd_ifp c_1 h
    exact t_X12_earliest_b107 C hq29 x2 x3 x5 x6 x7 x8 S _ _ _ h X (lv_sub hl [1, 2, 3, 4, 5, 6, 7] rfl)
  · have h := sd_ifn c_1 h
    refine lv_aload_n hx hb dX12_earliest_84 rfl (lv_at hl 1 rfl) ?_
    refine lv_iload_n hx hb dX12_earliest_85 rfl (lv_at hl 2 rfl) ?_
    refine lv_iload hx hb dX12_earliest_86 (lv_at hl 7 rfl) ?_
    obtain ⟨r_3, S_2, er_3, h⟩ := sd_cl_some h
    refine k_X12_isFree C X hl.1 er_3 sd_w27_5 (by decide) (Nat.le_of_ble_eq_true rfl) dX12_earliest_88 (fun H locs X => ?_)
    refine lv_if_eq (tgt := 107) hx hb dX12_earliest_91 (by decide) (fun c_4 => ?_) (fun c_4 => ?_)
    · have h := sd_ifp c_4 h
      exact t_X12_earliest_b107 C hq29 x2 x3 x5 x6 x7 x8 S_2 _ _ _ h X (lv_sub hl [1, 2, 3, 4, 5, 6, 7] rfl)
    · have h := sd_ifn c_4 h
      refine lv_aload_n hx hb dX12_earliest_94 rfl (lv_at hl 1 rfl) ?_
      refine lv_iload_n hx hb dX12_earliest_95 rfl (lv_at hl 3 rfl) ?_
      refine lv_iload hx hb dX12_earliest_96 (lv_at hl 7 rfl) ?_
      obtain ⟨r_6, S_5, er_6, h⟩ := sd_cl_some h
      refine k_X12_isGone C X hl.1 er_6 sd_w27_17 (by decide) (Nat.le_of_ble_eq_true rfl) dX12_earliest_98 (fun H locs X => ?_)
      refine lv_if_ne (tgt := 107) hx hb dX12_earliest_101 (by decide) (fun c_7 => ?_) (fun c_7 => ?_)
      · have h := sd_ifn c_7 h
        exact t_X12_earliest_b107 C hq29 x2 x3 x5 x6 x7 x8 S_5 _ _ _ h X (lv_sub hl [1, 2, 3, 4, 5, 6, 7] rfl)
      · have h := sd_ifp c_7 h
        refine lv_iload hx hb dX12_earliest_104 (lv_at hl 7 rfl) ?_
        cases h
        exact sd_iret C X dX12_earliest_106
def f_X12_earliest_l29 : Nat → Int32 → Int32 → Int32 → Int32 → Int32 → Int32 → sd_St → Option (Int32 × sd_St)
  | 0 => fun _ _ _ _ _ _ _ => none
  | n + 1 => fun x2 x3 x5 x6 x7 x8 S => (if x5 < x8 then (some ((1000000 : Int32), S)) else (if (1000000 : Int32) ≤ x7 then (some ((1000000 : Int32), S)) else (if x2 = x6 then (if x8 < x7 then f_X12_earliest_b77 (f_X12_earliest_l29 n) x2 x3 x5 x6 x7 x8 (0 : Int32) S else f_X12_earliest_b77 (f_X12_earliest_l29 n) x2 x3 x5 x6 x7 x8 (1 : Int32) S) else (if x8 ≤ x7 then f_X12_earliest_b77 (f_X12_earliest_l29 n) x2 x3 x5 x6 x7 x8 (0 : Int32) S else f_X12_earliest_b77 (f_X12_earliest_l29 n) x2 x3 x5 x6 x7 x8 (1 : Int32) S))))
set_option maxHeartbeats 4000000 in
set_option maxRecDepth 100000 in
theorem t_X12_earliest_l29 (C : sd_C RX12 cX12_earliest 10 (some .int) D cy ad A b0 p s m args meth c) {r : Int32} {S' : sd_St} : ∀ (n : Nat) (x2 : Int32) (x3 : Int32) (x5 : Int32) (x6 : Int32) (x7 : Int32) (x8 : Int32) (S : sd_St) (H : Heap) (locs : List Loc) (ls : Array Slot), f_X12_earliest_l29 n x2 x3 x5 x6 x7 x8 S = some (r, S') → sd_H D cy ad A s S H locs → lv_has ls 10 [(0, .ref (ad 130)), (2, .int x2), (3, .int x3), (5, .int x5), (6, .int x6), (7, .int x7), (8, .int x8)] → W p l e (sd_rm 3) s m args below meth c H locs 0 0 (MQ below (sd_Qi D cy ad A r S') args s 0 0 A) (F0 m 29 ls []) := by
  obtain ⟨hx, hb, -, hml, hown, hts, -, hG⟩ := id C
  intro n
  induction n with
  | zero => intro x2 x3 x5 x6 x7 x8 S H locs ls h; cases h
  | succ n ih =>
    intro x2 x3 x5 x6 x7 x8 S H locs ls h X hl
    unfold f_X12_earliest_l29 at h
    refine lv_iload hx hb dX12_earliest_29 (lv_at hl 6 rfl) ?_
    refine lv_iload hx hb dX12_earliest_31 (lv_at hl 3 rfl) ?_
    refine lv_icmp_gt (tgt := 113) hx hb dX12_earliest_33 (by decide) (fun c_8 => ?_) (fun c_8 => ?_)
    · have h := sd_ifp c_8 h
      refine lv_ldcw (v := (1000000 : Int32)) hx hb hown (hts _ sd_w31_10) dX12_earliest_113 ?_
      cases h
      exact sd_iret C X dX12_earliest_116
    · have h := sd_ifn c_8 h
      refine lv_iload hx hb dX12_earliest_36 (lv_at hl 5 rfl) ?_
      refine lv_ldcw (v := (1000000 : Int32)) hx hb hown (hts _ sd_w31_10) dX12_earliest_38 ?_
      refine lv_icmp_ge (tgt := 113) hx hb dX12_earliest_41 (by decide) (fun c_9 => ?_) (fun c_9 => ?_)
      · have h := sd_ifp c_9 h
        refine lv_ldcw (v := (1000000 : Int32)) hx hb hown (hts _ sd_w31_10) dX12_earliest_113 ?_
        cases h
        exact sd_iret C X dX12_earliest_116
      · have h := sd_ifn c_9 h
        refine lv_iload_n hx hb dX12_earliest_44 rfl (lv_at hl 1 rfl) ?_
        refine lv_iload hx hb dX12_earliest_45 (lv_at hl 4 rfl) ?_
        refine lv_icmp_ne (tgt := 65) hx hb dX12_earliest_47 (by decide) (fun c_10 => ?_) (fun c_10 => ?_)
        · have h := sd_ifn c_10 h
          refine lv_iload hx hb dX12_earliest_65 (lv_at hl 5 rfl) ?_
          refine lv_iload hx hb dX12_earliest_67 (lv_at hl 6 rfl) ?_
          refine lv_icmp_ge (tgt := 76) hx hb dX12_earliest_69 (by decide) (fun c_11 => ?_) (fun c_11 => ?_)
          · have h := sd_ifp c_11 h
            refine lv_iconst (v := (0 : Int32)) hx hb dX12_earliest_76 (by decide) ?_
            exact t_X12_earliest_b77 C ih x2 x3 x5 x6 x7 x8 (0 : Int32) S _ _ _ h X (lv_sub hl [0, 1, 2, 3, 4, 5, 6] rfl)
          · have h := sd_ifn c_11 h
            refine lv_iconst (v := (1 : Int32)) hx hb dX12_earliest_72 (by decide) ?_
            refine lv_goto (tgt := 77) hx hb dX12_earliest_73 (by decide) ?_
            exact t_X12_earliest_b77 C ih x2 x3 x5 x6 x7 x8 (1 : Int32) S _ _ _ h X (lv_sub hl [0, 1, 2, 3, 4, 5, 6] rfl)
        · have h := sd_ifp c_10 h
          refine lv_iload hx hb dX12_earliest_50 (lv_at hl 5 rfl) ?_
          refine lv_iload hx hb dX12_earliest_52 (lv_at hl 6 rfl) ?_
          refine lv_icmp_gt (tgt := 61) hx hb dX12_earliest_54 (by decide) (fun c_12 => ?_) (fun c_12 => ?_)
          · have h := sd_ifp c_12 h
            refine lv_iconst (v := (0 : Int32)) hx hb dX12_earliest_61 (by decide) ?_
            refine lv_goto (tgt := 77) hx hb dX12_earliest_62 (by decide) ?_
            exact t_X12_earliest_b77 C ih x2 x3 x5 x6 x7 x8 (0 : Int32) S _ _ _ h X (lv_sub hl [0, 1, 2, 3, 4, 5, 6] rfl)
          · have h := sd_ifn c_12 h
            refine lv_iconst (v := (1 : Int32)) hx hb dX12_earliest_57 (by decide) ?_
            refine lv_goto (tgt := 77) hx hb dX12_earliest_58 (by decide) ?_
            exact t_X12_earliest_b77 C ih x2 x3 x5 x6 x7 x8 (1 : Int32) S _ _ _ h X (lv_sub hl [0, 1, 2, 3, 4, 5, 6] rfl)
def f_X12_earliest_b27 (x2 : Int32) (x3 : Int32) (x5 : Int32) (x6 : Int32) (x7 : Int32) (w0 : Int32) (S : sd_St) : Option (Int32 × sd_St) := f_X12_earliest_l29 sd_FU x2 x3 x5 x6 x7 w0 S
set_option maxHeartbeats 4000000 in
set_option maxRecDepth 100000 in
theorem t_X12_earliest_b27 (C : sd_C RX12 cX12_earliest 10 (some .int) D cy ad A b0 p s m args meth c) {r : Int32} {S' : sd_St} : ∀ (x2 : Int32) (x3 : Int32) (x5 : Int32) (x6 : Int32) (x7 : Int32) (w0 : Int32) (S : sd_St) (H : Heap) (locs : List Loc) (ls : Array Slot), f_X12_earliest_b27 x2 x3 x5 x6 x7 w0 S = some (r, S') → sd_H D cy ad A s S H locs → lv_has ls 10 [(0, .ref (ad 130)), (2, .int x2), (3, .int x3), (5, .int x5), (6, .int x6), (7, .int x7)] → W p l e (sd_rm 3) s m args below meth c H locs 0 0 (MQ below (sd_Qi D cy ad A r S') args s 0 0 A) (F0 m 27 ls [.int w0]) := by
  obtain ⟨hx, hb, -, hml, hown, hts, -, hG⟩ := id C
  intro x2 x3 x5 x6 x7 w0 S H locs ls h X hl
  unfold f_X12_earliest_b27 at h
  refine lv_istore (lv' := [(8, .int w0), (0, .ref (ad 130)), (2, .int x2), (3, .int x3), (5, .int x5), (6, .int x6), (7, .int x7)]) hx hb dX12_earliest_27 hl (by decide) rfl (fun ls hl => ?_)
  exact t_X12_earliest_l29 C sd_FU x2 x3 x5 x6 x7 w0 S _ _ _ h X (lv_sub hl [1, 2, 3, 4, 5, 6, 0] rfl)
def f_X12_earliest (x1 : Int32) (x2 : Int32) (x3 : Int32) (x4 : Int32) (x5 : Int32) (x6 : Int32) (S : sd_St) : Option (Int32 × sd_St) := sd_ld S 142 (((12 : Int32) * x1) + x2) (fun v_13 => (if x4 ≤ v_13 then f_X12_earliest_b27 x2 x3 x5 x6 v_13 v_13 S else f_X12_earliest_b27 x2 x3 x5 x6 v_13 x4 S))
set_option maxHeartbeats 4000000 in
set_option maxRecDepth 100000 in
theorem c_X12_earliest {x1 : Int32} {x2 : Int32} {x3 : Int32} {x4 : Int32} {x5 : Int32} {x6 : Int32} {S S' : sd_St} {r : Int32} (h : f_X12_earliest x1 x2 x3 x4 x5 x6 S = some (r, S')) : Met l yX12_earliest (Cond.code yX12_earliest cX12_earliest 10 (some .int) :: sd_wl) (sd_rm 3) (sd_P D cy ad A b0 [.ref (ad 130), .int x1, .int x2, .int x3, .int x4, .int x5, .int x6] S) (sd_Qi D cy ad A r S') 0 0 A := by
  refine sd_met (by decide) (Nat.le_of_ble_eq_true rfl) (fun p e s m args below meth c ls C X hl => ?_)
  obtain ⟨hx, hb, -, hml, hown, hts, -, hG⟩ := id C
  replace C : sd_C RX12 cX12_earliest 10 (some .int) D cy ad A b0 p s m args meth c := C
  replace hl : lv_has ls 10 [(0, .ref (ad 130)), (1, .int x1), (2, .int x2), (3, .int x3), (4, .int x4), (5, .int x5), (6, .int x6)] := hl
  unfold f_X12_earliest at h
  refine lv_aload_n hx hb dX12_earliest_0 rfl (lv_at hl 0 rfl) ?_
  refine sd_g12_19 (k := 130) C X (by decide) sd_w8_14 dX12_earliest_1 ?_
  refine lv_bipush (v := (12 : Int32)) hx hb dX12_earliest_4 (by decide) ?_
  refine lv_iload_n hx hb dX12_earliest_6 rfl (lv_at hl 1 rfl) ?_
  refine lv_imul hx hb dX12_earliest_7 ?_
  refine lv_iload_n hx hb dX12_earliest_8 rfl (lv_at hl 2 rfl) ?_
  refine lv_iadd hx hb dX12_earliest_9 ?_
  obtain ⟨b_13, v_13, e_13, h⟩ := sd_ld_some h
  refine sd_iald C X (by decide) b_13 dX12_earliest_10 (sd_nmi e_13 ?_)
  refine lv_istore (lv' := [(7, .int v_13), (0, .ref (ad 130)), (1, .int x1), (2, .int x2), (3, .int x3), (4, .int x4), (5, .int x5), (6, .int x6)]) hx hb dX12_earliest_11 hl (by decide) rfl (fun ls hl => ?_)
  refine lv_iload hx hb dX12_earliest_13 (lv_at hl 0 rfl) ?_
  refine lv_iload hx hb dX12_earliest_15 (lv_at hl 5 rfl) ?_
  refine lv_icmp_ge (tgt := 25) hx hb dX12_earliest_17 (by decide) (fun c_14 => ?_) (fun c_14 => ?_)
  · have h := sd_ifp c_14 h
    refine lv_iload hx hb dX12_earliest_25 (lv_at hl 0 rfl) ?_
    exact t_X12_earliest_b27 C x2 x3 x5 x6 v_13 v_13 S _ _ _ h X (lv_sub hl [1, 3, 4, 6, 7, 0] rfl)
  · have h := sd_ifn c_14 h
    refine lv_iload hx hb dX12_earliest_20 (lv_at hl 5 rfl) ?_
    refine lv_goto (tgt := 27) hx hb dX12_earliest_22 (by decide) ?_
    exact t_X12_earliest_b27 C x2 x3 x5 x6 v_13 x4 S _ _ _ h X (lv_sub hl [1, 3, 4, 6, 7, 0] rfl)
theorem k_X12_earliest (C : sd_C own cc nL rt D cy ad A b0 p s m args meth c) (X : sd_H D cy ad A s S H locs) (hls : ls.size = nL) {x1 : Int32} {x2 : Int32} {x3 : Int32} {x4 : Int32} {x5 : Int32} {x6 : Int32} {S2 : sd_St} {r : Int32} (h : f_X12_earliest x1 x2 x3 x4 x5 x6 S = some (r, S2)) (hlink : Cond.methodLink own index yX12_earliest ∈ sd_wl) (hR : 4 ≤ R.frames ∧ 149 ≤ R.locals ∧ cells ≤ R.cells ∧ slots ≤ R.slots) (hst : (rest.map fun v => v.category).sum ≤ 8) (hdg : decode cc pc = .ok (.invokevirtual index, 3)) (kk : ∀ (H1 : Heap) (locs1 : List Loc), sd_H D cy ad A s S2 H1 locs1 → W p l e R s m args below meth c H1 locs1 cells slots Q (F0 m (pc + 3) ls (.int r :: rest))) : W p l e R s m args below meth c H locs cells slots Q (F0 m pc ls (.int x6 :: .int x5 :: .int x4 :: .int x3 :: .int x2 :: .int x1 :: .ref (ad 130) :: rest)) :=
  sd_goI X (sd_runV C X hls (n := 6) (k := 130) (As := [.int x1, .int x2, .int x3, .int x4, .int x5, .int x6]) (c_X12_earliest (l := l) (b0 := b0) h) (sd_goodV hlink sd_w37_21 sd_w37_22 sd_w1_5 sd_w37_23) (ci := 12) rfl (by rw [(show sd_kd 130 = 12 by decide)]; decide) (sd_c12 (show sd_kd 130 = 12 by decide)) (by decide +kernel) rfl hR rfl hst hdg) kk
/-! ===== SecretDaysModel.letIn(IIIII)I ===== -/
def f_X12_letIn_b128 (q81 : (Int32 → Int32 → Int32 → Int32 → Int32 → Int32 → Int32 → Int32 → sd_St → Option (Int32 × sd_St))) (x1 : Int32) (x2 : Int32) (x3 : Int32) (x4 : Int32) (x5 : Int32) (x6 : Int32) (x7 : Int32) (x8 : Int32) (w1 : Int32) (w2 : Int32) (S : sd_St) : Option (Int32 × sd_St) := sd_st S 142 w1 w2 (fun S_1 => q81 x1 x2 x3 x4 x5 x6 x7 (x8 + (1 : Int32)) S_1)
set_option maxHeartbeats 4000000 in
set_option maxRecDepth 100000 in
theorem t_X12_letIn_b128 (C : sd_C RX12 cX12_letIn 14 (some .int) D cy ad A b0 p s m args meth c) {r : Int32} {S' : sd_St} {q81 : (Int32 → Int32 → Int32 → Int32 → Int32 → Int32 → Int32 → Int32 → sd_St → Option (Int32 × sd_St))} (hq81 : ∀ (x1 : Int32) (x2 : Int32) (x3 : Int32) (x4 : Int32) (x5 : Int32) (x6 : Int32) (x7 : Int32) (x8 : Int32) (S : sd_St) (H : Heap) (locs : List Loc) (ls : Array Slot), q81 x1 x2 x3 x4 x5 x6 x7 x8 S = some (r, S') → sd_H D cy ad A s S H locs → lv_has ls 14 [(0, .ref (ad 130)), (1, .int x1), (2, .int x2), (3, .int x3), (4, .int x4), (5, .int x5), (6, .int x6), (7, .int x7), (8, .int x8)] → W p l e (sd_rm 4) s m args below meth c H locs 0 0 (MQ below (sd_Qi D cy ad A r S') args s 0 0 A) (F0 m 81 ls [])) : ∀ (x1 : Int32) (x2 : Int32) (x3 : Int32) (x4 : Int32) (x5 : Int32) (x6 : Int32) (x7 : Int32) (x8 : Int32) (w1 : Int32) (w2 : Int32) (S : sd_St) (H : Heap) (locs : List Loc) (ls : Array Slot), f_X12_letIn_b128 q81 x1 x2 x3 x4 x5 x6 x7 x8 w1 w2 S = some (r, S') → sd_H D cy ad A s S H locs → lv_has ls 14 [(0, .ref (ad 130)), (1, .int x1), (2, .int x2), (3, .int x3), (4, .int x4), (5, .int x5), (6, .int x6), (7, .int x7), (8, .int x8)] → W p l e (sd_rm 4) s m args below meth c H locs 0 0 (MQ below (sd_Qi D cy ad A r S') args s 0 0 A) (F0 m 128 ls [.int w2, .int w1, .ref (ad 142)]) := by
  obtain ⟨hx, hb, -, hml, hown, hts, -, hG⟩ := id C
  intro x1 x2 x3 x4 x5 x6 x7 x8 w1 w2 S H locs ls h X hl
  unfold f_X12_letIn_b128 at h
  obtain ⟨bS_1, S_1, eS_1, h⟩ := sd_st_some h
  refine sd_iast C X (by decide) bS_1 dX12_letIn_128 (fun H locs X => ?_)
  rw [← eS_1] at X
  refine lv_iinc (v := (x8 + (1 : Int32))) (lv' := [(8, .int (x8 + (1 : Int32))), (0, .ref (ad 130)), (1, .int x1), (2, .int x2), (3, .int x3), (4, .int x4), (5, .int x5), (6, .int x6), (7, .int x7)]) hx hb dX12_letIn_129 hl (k := 8) rfl rfl (by decide) rfl (fun ls hl => ?_)
  refine lv_goto (tgt := 81) hx hb dX12_letIn_132 (by decide) ?_
  exact hq81 x1 x2 x3 x4 x5 x6 x7 (x8 + (1 : Int32)) S_1 _ _ _ h X (lv_sub hl [1, 2, 3, 4, 5, 6, 7, 8, 0] rfl)
def f_X12_letIn_b125 (q81 : (Int32 → Int32 → Int32 → Int32 → Int32 → Int32 → Int32 → Int32 → sd_St → Option (Int32 × sd_St))) (x1 : Int32) (x2 : Int32) (x3 : Int32) (x4 : Int32) (x5 : Int32) (x6 : Int32) (x7 : Int32) (x8 : Int32) (w1 : Int32) (S : sd_St) : Option (Int32 × sd_St) := f_X12_letIn_b128 q81 x1 x2 x3 x4 x5 x6 x7 x8 w1 (1000000 : Int32) S
set_option maxHeartbeats 4000000 in
set_option maxRecDepth 100000 in
theorem t_X12_letIn_b125 (C : sd_C RX12 cX12_letIn 14 (some .int) D cy ad A b0 p s m args meth c) {r : Int32} {S' : sd_St} {q81 : (Int32 → Int32 → Int32 → Int32 → Int32 → Int32 → Int32 → Int32 → sd_St → Option (Int32 × sd_St))} (hq81 : ∀ (x1 : Int32) (x2 : Int32) (x3 : Int32) (x4 : Int32) (x5 : Int32) (x6 : Int32) (x7 : Int32) (x8 : Int32) (S : sd_St) (H : Heap) (locs : List Loc) (ls : Array Slot), q81 x1 x2 x3 x4 x5 x6 x7 x8 S = some (r, S') → sd_H D cy ad A s S H locs → lv_has ls 14 [(0, .ref (ad 130)), (1, .int x1), (2, .int x2), (3, .int x3), (4, .int x4), (5, .int x5), (6, .int x6), (7, .int x7), (8, .int x8)] → W p l e (sd_rm 4) s m args below meth c H locs 0 0 (MQ below (sd_Qi D cy ad A r S') args s 0 0 A) (F0 m 81 ls [])) : ∀ (x1 : Int32) (x2 : Int32) (x3 : Int32) (x4 : Int32) (x5 : Int32) (x6 : Int32) (x7 : Int32) (x8 : Int32) (w1 : Int32) (S : sd_St) (H : Heap) (locs : List Loc) (ls : Array Slot), f_X12_letIn_b125 q81 x1 x2 x3 x4 x5 x6 x7 x8 w1 S = some (r, S') → sd_H D cy ad A s S H locs → lv_has ls 14 [(0, .ref (ad 130)), (1, .int x1), (2, .int x2), (3, .int x3), (4, .int x4), (5, .int x5), (6, .int x6), (7, .int x7), (8, .int x8)] → W p l e (sd_rm 4) s m args below meth c H locs 0 0 (MQ below (sd_Qi D cy ad A r S') args s 0 0 A) (F0 m 125 ls [.int w1, .ref (ad 142)]) := by
  obtain ⟨hx, hb, -, hml, hown, hts, -, hG⟩ := id C
  intro x1 x2 x3 x4 x5 x6 x7 x8 w1 S H locs ls h X hl
  unfold f_X12_letIn_b125 at h
  refine lv_ldcw (v := (1000000 : Int32)) hx hb hown (hts _ sd_w31_10) dX12_letIn_125 ?_
  exact t_X12_letIn_b128 C hq81 x1 x2 x3 x4 x5 x6 x7 x8 w1 (1000000 : Int32) S _ _ _ h X (lv_sub hl [0, 1, 2, 3, 4, 5, 6, 7, 8] rfl)
def f_X12_letIn_b282 (q138 : (Int32 → Int32 → Int32 → Int32 → Int32 → Int32 → sd_St → Option (Int32 × sd_St))) (q173 : (Int32 → Int32 → Int32 → Int32 → Int32 → Int32 → Int32 → sd_St → Option (Int32 × sd_St))) (q218 : (Int32 → Int32 → Int32 → Int32 → Int32 → Int32 → Int32 → Int32 → Int32 → Int32 → sd_St → Option (Int32 × sd_St))) (x2 : Int32) (x3 : Int32) (x4 : Int32) (x5 : Int32) (x6 : Int32) (x8 : Int32) (x9 : Int32) (x11 : Int32) (x12 : Int32) (w0 : Int32) (S : sd_St) : Option (Int32 × sd_St) := q218 x2 x3 x4 x5 x6 x8 x9 w0 x11 (x12 + (1 : Int32)) S
set_option maxHeartbeats 4000000 in
set_option maxRecDepth 100000 in
theorem t_X12_letIn_b282 (C : sd_C RX12 cX12_letIn 14 (some .int) D cy ad A b0 p s m args meth c) {r : Int32} {S' : sd_St} {q138 : (Int32 → Int32 → Int32 → Int32 → Int32 → Int32 → sd_St → Option (Int32 × sd_St))} {q173 : (Int32 → Int32 → Int32 → Int32 → Int32 → Int32 → Int32 → sd_St → Option (Int32 × sd_St))} {q218 : (Int32 → Int32 → Int32 → Int32 → Int32 → Int32 → Int32 → Int32 → Int32 → Int32 → sd_St → Option (Int32 × sd_St))} (hq138 : ∀ (x2 : Int32) (x3 : Int32) (x4 : Int32) (x5 : Int32) (x6 : Int32) (x8 : Int32) (S : sd_St) (H : Heap) (locs : List Loc) (ls : Array Slot), q138 x2 x3 x4 x5 x6 x8 S = some (r, S') → sd_H D cy ad A s S H locs → lv_has ls 14 [(0, .ref (ad 130)), (2, .int x2), (3, .int x3), (4, .int x4), (5, .int x5), (6, .int x6), (8, .int x8)] → W p l e (sd_rm 4) s m args below meth c H locs 0 0 (MQ below (sd_Qi D cy ad A r S') args s 0 0 A) (F0 m 138 ls [])) (hq173 : ∀ (x2 : Int32) (x3 : Int32) (x4 : Int32) (x5 : Int32) (x6 : Int32) (x8 : Int32) (x9 : Int32) (S : sd_St) (H : Heap) (locs : List Loc) (ls : Array Slot), q173 x2 x3 x4 x5 x6 x8 x9 S = some (r, S') → sd_H D cy ad A s S H locs → lv_has ls 14 [(0, .ref (ad 130)), (2, .int x2), (3, .int x3), (4, .int x4), (5, .int x5), (6, .int x6), (8, .int x8), (9, .int x9)] → W p l e (sd_rm 4) s m args below meth c H locs 0 0 (MQ below (sd_Qi D cy ad A r S') args s 0 0 A) (F0 m 173 ls [])) (hq218 : ∀ (x2 : Int32) (x3 : Int32) (x4 : Int32) (x5 : Int32) (x6 : Int32) (x8 : Int32) (x9 : Int32) (x10 : Int32) (x11 : Int32) (x12 : Int32) (S : sd_St) (H : Heap) (locs : List Loc) (ls : Array Slot), q218 x2 x3 x4 x5 x6 x8 x9 x10 x11 x12 S = some (r, S') → sd_H D cy ad A s S H locs → lv_has ls 14 [(0, .ref (ad 130)), (2, .int x2), (3, .int x3), (4, .int x4), (5, .int x5), (6, .int x6), (8, .int x8), (9, .int x9), (10, .int x10), (11, .int x11), (12, .int x12)] → W p l e (sd_rm 4) s m args below meth c H locs 0 0 (MQ below (sd_Qi D cy ad A r S') args s 0 0 A) (F0 m 218 ls [])) : ∀ (x2 : Int32) (x3 : Int32) (x4 : Int32) (x5 : Int32) (x6 : Int32) (x8 : Int32) (x9 : Int32) (x11 : Int32) (x12 : Int32) (w0 : Int32) (S : sd_St) (H : Heap) (locs : List Loc) (ls : Array Slot), f_X12_letIn_b282 q138 q173 q218 x2 x3 x4 x5 x6 x8 x9 x11 x12 w0 S = some (r, S') → sd_H D cy ad A s S H locs → lv_has ls 14 [(0, .ref (ad 130)), (2, .int x2), (3, .int x3), (4, .int x4), (5, .int x5), (6, .int x6), (8, .int x8), (9, .int x9), (11, .int x11), (12, .int x12)] → W p l e (sd_rm 4) s m args below meth c H locs 0 0 (MQ below (sd_Qi D cy ad A r S') args s 0 0 A) (F0 m 282 ls [.int w0]) := by
  obtain ⟨hx, hb, -, hml, hown, hts, -, hG⟩ := id C
  intro x2 x3 x4 x5 x6 x8 x9 x11 x12 w0 S H locs ls h X hl
  unfold f_X12_letIn_b282 at h
  refine lv_istore (lv' := [(10, .int w0), (0, .ref (ad 130)), (2, .int x2), (3, .int x3), (4, .int x4), (5, .int x5), (6, .int x6), (8, .int x8), (9, .int x9), (11, .int x11), (12, .int x12)]) hx hb dX12_letIn_282 hl (by decide) rfl (fun ls hl => ?_)
  refine lv_iinc (v := (x12 + (1 : Int32))) (lv' := [(12, .int (x12 + (1 : Int32))), (10, .int w0), (0, .ref (ad 130)), (2, .int x2), (3, .int x3), (4, .int x4), (5, .int x5), (6, .int x6), (8, .int x8), (9, .int x9), (11, .int x11)]) hx hb dX12_letIn_284 hl (k := 10) rfl rfl (by decide) rfl (fun ls hl => ?_)
  refine lv_goto (tgt := 218) hx hb dX12_letIn_287 (by decide) ?_
  exact hq218 x2 x3 x4 x5 x6 x8 x9 w0 x11 (x12 + (1 : Int32)) S _ _ _ h X (lv_sub hl [2, 3, 4, 5, 6, 7, 8, 9, 1, 10, 0] rfl)
def f_X12_letIn_b266 (q138 : (Int32 → Int32 → Int32 → Int32 → Int32 → Int32 → sd_St → Option (Int32 × sd_St))) (q173 : (Int32 → Int32 → Int32 → Int32 → Int32 → Int32 → Int32 → sd_St → Option (Int32 × sd_St))) (q218 : (Int32 → Int32 → Int32 → Int32 → Int32 → Int32 → Int32 → Int32 → Int32 → Int32 → sd_St → Option (Int32 × sd_St))) (x2 : Int32) (x3 : Int32) (x4 : Int32) (x5 : Int32) (x6 : Int32) (x8 : Int32) (x9 : Int32) (x10 : Int32) (x11 : Int32) (x12 : Int32) (w0 : Int32) (S : sd_St) : Option (Int32 × sd_St) := (if x10 ≤ w0 then f_X12_letIn_b282 q138 q173 q218 x2 x3 x4 x5 x6 x8 x9 x11 x12 x10 S else f_X12_letIn_b282 q138 q173 q218 x2 x3 x4 x5 x6 x8 x9 x11 x12 w0 S)
set_option maxHeartbeats 4000000 in
set_option maxRecDepth 100000 in
theorem t_X12_letIn_b266 (C : sd_C RX12 cX12_letIn 14 (some .int) D cy ad A b0 p s m args meth c) {r : Int32} {S' : sd_St} {q138 : (Int32 → Int32 → Int32 → Int32 → Int32 → Int32 → sd_St → Option (Int32 × sd_St))} {q173 : (Int32 → Int32 → Int32 → Int32 → Int32 → Int32 → Int32 → sd_St → Option (Int32 × sd_St))} {q218 : (Int32 → Int32 → Int32 → Int32 → Int32 → Int32 → Int32 → Int32 → Int32 → Int32 → sd_St → Option (Int32 × sd_St))} (hq138 : ∀ (x2 : Int32) (x3 : Int32) (x4 : Int32) (x5 : Int32) (x6 : Int32) (x8 : Int32) (S : sd_St) (H : Heap) (locs : List Loc) (ls : Array Slot), q138 x2 x3 x4 x5 x6 x8 S = some (r, S') → sd_H D cy ad A s S H locs → lv_has ls 14 [(0, .ref (ad 130)), (2, .int x2), (3, .int x3), (4, .int x4), (5, .int x5), (6, .int x6), (8, .int x8)] → W p l e (sd_rm 4) s m args below meth c H locs 0 0 (MQ below (sd_Qi D cy ad A r S') args s 0 0 A) (F0 m 138 ls [])) (hq173 : ∀ (x2 : Int32) (x3 : Int32) (x4 : Int32) (x5 : Int32) (x6 : Int32) (x8 : Int32) (x9 : Int32) (S : sd_St) (H : Heap) (locs : List Loc) (ls : Array Slot), q173 x2 x3 x4 x5 x6 x8 x9 S = some (r, S') → sd_H D cy ad A s S H locs → lv_has ls 14 [(0, .ref (ad 130)), (2, .int x2), (3, .int x3), (4, .int x4), (5, .int x5), (6, .int x6), (8, .int x8), (9, .int x9)] → W p l e (sd_rm 4) s m args below meth c H locs 0 0 (MQ below (sd_Qi D cy ad A r S') args s 0 0 A) (F0 m 173 ls [])) (hq218 : ∀ (x2 : Int32) (x3 : Int32) (x4 : Int32) (x5 : Int32) (x6 : Int32) (x8 : Int32) (x9 : Int32) (x10 : Int32) (x11 : Int32) (x12 : Int32) (S : sd_St) (H : Heap) (locs : List Loc) (ls : Array Slot), q218 x2 x3 x4 x5 x6 x8 x9 x10 x11 x12 S = some (r, S') → sd_H D cy ad A s S H locs → lv_has ls 14 [(0, .ref (ad 130)), (2, .int x2), (3, .int x3), (4, .int x4), (5, .int x5), (6, .int x6), (8, .int x8), (9, .int x9), (10, .int x10), (11, .int x11), (12, .int x12)] → W p l e (sd_rm 4) s m args below meth c H locs 0 0 (MQ below (sd_Qi D cy ad A r S') args s 0 0 A) (F0 m 218 ls [])) : ∀ (x2 : Int32) (x3 : Int32) (x4 : Int32) (x5 : Int32) (x6 : Int32) (x8 : Int32) (x9 : Int32) (x10 : Int32) (x11 : Int32) (x12 : Int32) (w0 : Int32) (S : sd_St) (H : Heap) (locs : List Loc) (ls : Array Slot), f_X12_letIn_b266 q138 q173 q218 x2 x3 x4 x5 x6 x8 x9 x10 x11 x12 w0 S = some (r, S') → sd_H D cy ad A s S H locs → lv_has ls 14 [(0, .ref (ad 130)), (2, .int x2), (3, .int x3), (4, .int x4), (5, .int x5), (6, .int x6), (8, .int x8), (9, .int x9), (10, .int x10), (11, .int x11), (12, .int x12)] → W p l e (sd_rm 4) s m args below meth c H locs 0 0 (MQ below (sd_Qi D cy ad A r S') args s 0 0 A) (F0 m 266 ls [.int w0]) := by
  obtain ⟨hx, hb, -, hml, hown, hts, -, hG⟩ := id C
  intro x2 x3 x4 x5 x6 x8 x9 x10 x11 x12 w0 S H locs ls h X hl
  unfold f_X12_letIn_b266 at h
  refine lv_istore (lv' := [(13, .int w0), (0, .ref (ad 130)), (2, .int x2), (3, .int x3), (4, .int x4), (5, .int x5), (6, .int x6), (8, .int x8), (9, .int x9), (10, .int x10), (11, .int x11), (12, .int x12)]) hx hb dX12_letIn_266 hl (by decide) rfl (fun ls hl => ?_)
  refine lv_iload hx hb dX12_letIn_268 (lv_at hl 0 rfl) ?_
  refine lv_iload hx hb dX12_letIn_270 (lv_at hl 9 rfl) ?_
  refine lv_icmp_ge (tgt := 280) hx hb dX12_letIn_272 (by decide) (fun c_2 => ?_) (fun c_2 => ?_)
  · have h := sd_ifp c_2 h
    refine lv_iload hx hb dX12_letIn_280 (lv_at hl 9 rfl) ?_
    exact t_X12_letIn_b282 C hq138 hq173 hq218 x2 x3 x4 x5 x6 x8 x9 x11 x12 x10 S _ _ _ h X (lv_sub hl [1, 2, 3, 4, 5, 6, 7, 8, 10, 11] rfl)
  · have h := sd_ifn c_2 h
    refine lv_iload hx hb dX12_letIn_275 (lv_at hl 0 rfl) ?_
    refine lv_goto (tgt := 282) hx hb dX12_letIn_277 (by decide) ?_
    exact t_X12_letIn_b282 C hq138 hq173 hq218 x2 x3 x4 x5 x6 x8 x9 x11 x12 w0 S _ _ _ h X (lv_sub hl [1, 2, 3, 4, 5, 6, 7, 8, 10, 11] rfl)
def f_X12_letIn_b263 (q138 : (Int32 → Int32 → Int32 → Int32 → Int32 → Int32 → sd_St → Option (Int32 × sd_St))) (q173 : (Int32 → Int32 → Int32 → Int32 → Int32 → Int32 → Int32 → sd_St → Option (Int32 × sd_St))) (q218 : (Int32 → Int32 → Int32 → Int32 → Int32 → Int32 → Int32 → Int32 → Int32 → Int32 → sd_St → Option (Int32 × sd_St))) (x2 : Int32) (x3 : Int32) (x4 : Int32) (x5 : Int32) (x6 : Int32) (x8 : Int32) (x9 : Int32) (x10 : Int32) (x11 : Int32) (x12 : Int32) (S : sd_St) : Option (Int32 × sd_St) := f_X12_letIn_b266 q138 q173 q218 x2 x3 x4 x5 x6 x8 x9 x10 x11 x12 (1000000 : Int32) S
set_option maxHeartbeats 4000000 in
set_option maxRecDepth 100000 in
theorem t_X12_letIn_b263 (C : sd_C RX12 cX12_letIn 14 (some .int) D cy ad A b0 p s m args meth c) {r : Int32} {S' : sd_St} {q138 : (Int32 → Int32 → Int32 → Int32 → Int32 → Int32 → sd_St → Option (Int32 × sd_St))} {q173 : (Int32 → Int32 → Int32 → Int32 → Int32 → Int32 → Int32 → sd_St → Option (Int32 × sd_St))} {q218 : (Int32 → Int32 → Int32 → Int32 → Int32 → Int32 → Int32 → Int32 → Int32 → Int32 → sd_St → Option (Int32 × sd_St))} (hq138 : ∀ (x2 : Int32) (x3 : Int32) (x4 : Int32) (x5 : Int32) (x6 : Int32) (x8 : Int32) (S : sd_St) (H : Heap) (locs : List Loc) (ls : Array Slot), q138 x2 x3 x4 x5 x6 x8 S = some (r, S') → sd_H D cy ad A s S H locs → lv_has ls 14 [(0, .ref (ad 130)), (2, .int x2), (3, .int x3), (4, .int x4), (5, .int x5), (6, .int x6), (8, .int x8)] → W p l e (sd_rm 4) s m args below meth c H locs 0 0 (MQ below (sd_Qi D cy ad A r S') args s 0 0 A) (F0 m 138 ls [])) (hq173 : ∀ (x2 : Int32) (x3 : Int32) (x4 : Int32) (x5 : Int32) (x6 : Int32) (x8 : Int32) (x9 : Int32) (S : sd_St) (H : Heap) (locs : List Loc) (ls : Array Slot), q173 x2 x3 x4 x5 x6 x8 x9 S = some (r, S') → sd_H D cy ad A s S H locs → lv_has ls 14 [(0, .ref (ad 130)), (2, .int x2), (3, .int x3), (4, .int x4), (5, .int x5), (6, .int x6), (8, .int x8), (9, .int x9)] → W p l e (sd_rm 4) s m args below meth c H locs 0 0 (MQ below (sd_Qi D cy ad A r S') args s 0 0 A) (F0 m 173 ls [])) (hq218 : ∀ (x2 : Int32) (x3 : Int32) (x4 : Int32) (x5 : Int32) (x6 : Int32) (x8 : Int32) (x9 : Int32) (x10 : Int32) (x11 : Int32) (x12 : Int32) (S : sd_St) (H : Heap) (locs : List Loc) (ls : Array Slot), q218 x2 x3 x4 x5 x6 x8 x9 x10 x11 x12 S = some (r, S') → sd_H D cy ad A s S H locs → lv_has ls 14 [(0, .ref (ad 130)), (2, .int x2), (3, .int x3), (4, .int x4), (5, .int x5), (6, .int x6), (8, .int x8), (9, .int x9), (10, .int x10), (11, .int x11), (12, .int x12)] → W p l e (sd_rm 4) s m args below meth c H locs 0 0 (MQ below (sd_Qi D cy ad A r S') args s 0 0 A) (F0 m 218 ls [])) : ∀ (x2 : Int32) (x3 : Int32) (x4 : Int32) (x5 : Int32) (x6 : Int32) (x8 : Int32) (x9 : Int32) (x10 : Int32) (x11 : Int32) (x12 : Int32) (S : sd_St) (H : Heap) (locs : List Loc) (ls : Array Slot), f_X12_letIn_b263 q138 q173 q218 x2 x3 x4 x5 x6 x8 x9 x10 x11 x12 S = some (r, S') → sd_H D cy ad A s S H locs → lv_has ls 14 [(0, .ref (ad 130)), (2, .int x2), (3, .int x3), (4, .int x4), (5, .int x5), (6, .int x6), (8, .int x8), (9, .int x9), (10, .int x10), (11, .int x11), (12, .int x12)] → W p l e (sd_rm 4) s m args below meth c H locs 0 0 (MQ below (sd_Qi D cy ad A r S') args s 0 0 A) (F0 m 263 ls []) := by
  obtain ⟨hx, hb, -, hml, hown, hts, -, hG⟩ := id C
  intro x2 x3 x4 x5 x6 x8 x9 x10 x11 x12 S H locs ls h X hl
  unfold f_X12_letIn_b263 at h
  refine lv_ldcw (v := (1000000 : Int32)) hx hb hown (hts _ sd_w31_10) dX12_letIn_263 ?_
  exact t_X12_letIn_b266 C hq138 hq173 hq218 x2 x3 x4 x5 x6 x8 x9 x10 x11 x12 (1000000 : Int32) S _ _ _ h X (lv_sub hl [0, 1, 2, 3, 4, 5, 6, 7, 8, 9, 10] rfl)
def f_X12_letIn_l218 (q138 : (Int32 → Int32 → Int32 → Int32 → Int32 → Int32 → sd_St → Option (Int32 × sd_St))) (q173 : (Int32 → Int32 → Int32 → Int32 → Int32 → Int32 → Int32 → sd_St → Option (Int32 × sd_St))) : Nat → Int32 → Int32 → Int32 → Int32 → Int32 → Int32 → Int32 → Int32 → Int32 → Int32 → sd_St → Option (Int32 × sd_St)
  | 0 => fun _ _ _ _ _ _ _ _ _ _ _ => none
  | n + 1 => fun x2 x3 x4 x5 x6 x8 x9 x10 x11 x12 S => sd_cl (f_X12_people S) (fun r_4 S_3 => (if r_4 ≤ x12 then sd_st S_3 142 (((12 : Int32) * (x8 + (1 : Int32))) + x9) x10 (fun S_6 => q173 x2 x3 x4 x5 x6 x8 (x9 + (1 : Int32)) S_6) else (if x9 = x6 then f_X12_letIn_b263 q138 q173 (f_X12_letIn_l218 q138 q173 n) x2 x3 x4 x5 x6 x8 x9 x10 x11 x12 S_3 else sd_cl (f_X12_calls x9 x12 S_3) (fun r_9 S_8 => (if r_9 = 0 then f_X12_letIn_b263 q138 q173 (f_X12_letIn_l218 q138 q173 n) x2 x3 x4 x5 x6 x8 x9 x10 x11 x12 S_8 else sd_cl (f_X12_earliest x8 x12 x9 x11 x3 x6 S_8) (fun r_12 S_11 => f_X12_letIn_b266 q138 q173 (f_X12_letIn_l218 q138 q173 n) x2 x3 x4 x5 x6 x8 x9 x10 x11 x12 r_12 S_11))))))
set_option maxHeartbeats 4000000 in
set_option maxRecDepth 100000 in
theorem t_X12_letIn_l218 (C : sd_C RX12 cX12_letIn 14 (some .int) D cy ad A b0 p s m args meth c) {r : Int32} {S' : sd_St} {q138 : (Int32 → Int32 → Int32 → Int32 → Int32 → Int32 → sd_St → Option (Int32 × sd_St))} {q173 : (Int32 → Int32 → Int32 → Int32 → Int32 → Int32 → Int32 → sd_St → Option (Int32 × sd_St))} (hq138 : ∀ (x2 : Int32) (x3 : Int32) (x4 : Int32) (x5 : Int32) (x6 : Int32) (x8 : Int32) (S : sd_St) (H : Heap) (locs : List Loc) (ls : Array Slot), q138 x2 x3 x4 x5 x6 x8 S = some (r, S') → sd_H D cy ad A s S H locs → lv_has ls 14 [(0, .ref (ad 130)), (2, .int x2), (3, .int x3), (4, .int x4), (5, .int x5), (6, .int x6), (8, .int x8)] → W p l e (sd_rm 4) s m args below meth c H locs 0 0 (MQ below (sd_Qi D cy ad A r S') args s 0 0 A) (F0 m 138 ls [])) (hq173 : ∀ (x2 : Int32) (x3 : Int32) (x4 : Int32) (x5 : Int32) (x6 : Int32) (x8 : Int32) (x9 : Int32) (S : sd_St) (H : Heap) (locs : List Loc) (ls : Array Slot), q173 x2 x3 x4 x5 x6 x8 x9 S = some (r, S') → sd_H D cy ad A s S H locs → lv_has ls 14 [(0, .ref (ad 130)), (2, .int x2), (3, .int x3), (4, .int x4), (5, .int x5), (6, .int x6), (8, .int x8), (9, .int x9)] → W p l e (sd_rm 4) s m args below meth c H locs 0 0 (MQ below (sd_Qi D cy ad A r S') args s 0 0 A) (F0 m 173 ls [])) : ∀ (n : Nat) (x2 : Int32) (x3 : Int32) (x4 : Int32) (x5 : Int32) (x6 : Int32) (x8 : Int32) (x9 : Int32) (x10 : Int32) (x11 : Int32) (x12 : Int32) (S : sd_St) (H : Heap) (locs : List Loc) (ls : Array Slot), f_X12_letIn_l218 q138 q173 n x2 x3 x4 x5 x6 x8 x9 x10 x11 x12 S = some (r, S') → sd_H D cy ad A s S H locs → lv_has ls 14 [(0, .ref (ad 130)), (2, .int x2), (3, .int x3), (4, .int x4), (5, .int x5), (6, .int x6), (8, .int x8), (9, .int x9), (10, .int x10), (11, .int x11), (12, .int x12)] → W p l e (sd_rm 4) s m args below meth c H locs 0 0 (MQ below (sd_Qi D cy ad A r S') args s 0 0 A) (F0 m 218 ls []) := by
  obtain ⟨hx, hb, -, hml, hown, hts, -, hG⟩ := id C
  intro n
  induction n with
  | zero => intro x2 x3 x4 x5 x6 x8 x9 x10 x11 x12 S H locs ls h; cases h
  | succ n ih =>
    intro x2 x3 x4 x5 x6 x8 x9 x10 x11 x12 S H locs ls h X hl
    unfold f_X12_letIn_l218 at h
    refine lv_iload hx hb dX12_letIn_218 (lv_at hl 10 rfl) ?_
    refine lv_aload_n hx hb dX12_letIn_220 rfl (lv_at hl 0 rfl) ?_
    obtain ⟨r_4, S_3, er_4, h⟩ := sd_cl_some h
    refine k_X12_people C X hl.1 er_4 sd_w24_18 (by decide) (Nat.le_of_ble_eq_true rfl) dX12_letIn_221 (fun H locs X => ?_)
    refine lv_icmp_ge (tgt := 290) hx hb dX12_letIn_224 (by decide) (fun c_5 => ?_) (fun c_5 => ?_)
    · have h := sd_ifp c_5 h
      refine lv_aload_n hx hb dX12_letIn_290 rfl (lv_at hl 0 rfl) ?_
      refine sd_g12_19 (k := 130) C X (by decide) sd_w8_14 dX12_letIn_291 ?_
      refine lv_bipush (v := (12 : Int32)) hx hb dX12_letIn_294 (by decide) ?_
      refine lv_iload hx hb dX12_letIn_296 (lv_at hl 6 rfl) ?_
      refine lv_iconst (v := (1 : Int32)) hx hb dX12_letIn_298 (by decide) ?_
      refine lv_iadd hx hb dX12_letIn_299 ?_
      refine lv_imul hx hb dX12_letIn_300 ?_
      refine lv_iload hx hb dX12_letIn_301 (lv_at hl 7 rfl) ?_
      refine lv_iadd hx hb dX12_letIn_303 ?_
      refine lv_iload hx hb dX12_letIn_304 (lv_at hl 8 rfl) ?_
      obtain ⟨bS_6, S_6, eS_6, h⟩ := sd_st_some h
      refine sd_iast C X (by decide) bS_6 dX12_letIn_306 (fun H locs X => ?_)
      rw [← eS_6] at X
      refine lv_iinc (v := (x9 + (1 : Int32))) (lv' := [(9, .int (x9 + (1 : Int32))), (0, .ref (ad 130)), (2, .int x2), (3, .int x3), (4, .int x4), (5, .int x5), (6, .int x6), (8, .int x8), (10, .int x10), (11, .int x11), (12, .int x12)]) hx hb dX12_letIn_307 hl (k := 7) rfl rfl (by decide) rfl (fun ls hl => ?_)
      refine lv_goto (tgt := 173) hx hb dX12_letIn_310 (by decide) ?_
      exact hq173 x2 x3 x4 x5 x6 x8 (x9 + (1 : Int32)) S_6 _ _ _ h X (lv_sub hl [1, 2, 3, 4, 5, 6, 7, 0] rfl)
    · have h := sd_ifn c_5 h
      refine lv_iload hx hb dX12_letIn_227 (lv_at hl 7 rfl) ?_
      refine lv_iload hx hb dX12_letIn_229 (lv_at hl 5 rfl) ?_
      refine lv_icmp_eq (tgt := 263) hx hb dX12_letIn_231 (by decide) (fun c_7 => ?_) (fun c_7 => ?_)
      · have h := sd_ifp c_7 h
        exact t_X12_letIn_b263 C hq138 hq173 ih x2 x3 x4 x5 x6 x8 x9 x10 x11 x12 S_3 _ _ _ h X (lv_sub hl [0, 1, 2, 3, 4, 5, 6, 7, 8, 9, 10] rfl)
      · have h := sd_ifn c_7 h
        refine lv_aload_n hx hb dX12_letIn_234 rfl (lv_at hl 0 rfl) ?_
        refine lv_iload hx hb dX12_letIn_235 (lv_at hl 7 rfl) ?_
        refine lv_iload hx hb dX12_letIn_237 (lv_at hl 10 rfl) ?_
        obtain ⟨r_9, S_8, er_9, h⟩ := sd_cl_some h
        refine k_X12_calls C X hl.1 er_9 sd_w25_1 (by decide) (Nat.le_of_ble_eq_true rfl) dX12_letIn_239 (fun H locs X => ?_)
        refine lv_if_eq (tgt := 263) hx hb dX12_letIn_242 (by decide) (fun c_10 => ?_) (fun c_10 => ?_)
        · have h := sd_ifp c_10 h
          exact t_X12_letIn_b263 C hq138 hq173 ih x2 x3 x4 x5 x6 x8 x9 x10 x11 x12 S_8 _ _ _ h X (lv_sub hl [0, 1, 2, 3, 4, 5, 6, 7, 8, 9, 10] rfl)
        · have h := sd_ifn c_10 h
          refine lv_aload_n hx hb dX12_letIn_245 rfl (lv_at hl 0 rfl) ?_
          refine lv_iload hx hb dX12_letIn_246 (lv_at hl 6 rfl) ?_
          refine lv_iload hx hb dX12_letIn_248 (lv_at hl 10 rfl) ?_
          refine lv_iload hx hb dX12_letIn_250 (lv_at hl 7 rfl) ?_
          refine lv_iload hx hb dX12_letIn_252 (lv_at hl 9 rfl) ?_
          refine lv_iload_n hx hb dX12_letIn_254 rfl (lv_at hl 2 rfl) ?_
          refine lv_iload hx hb dX12_letIn_255 (lv_at hl 5 rfl) ?_
          obtain ⟨r_12, S_11, er_12, h⟩ := sd_cl_some h
          refine k_X12_earliest C X hl.1 er_12 sd_w37_20 (by decide) (Nat.le_of_ble_eq_true rfl) dX12_letIn_257 (fun H locs X => ?_)
          refine lv_goto (tgt := 266) hx hb dX12_letIn_260 (by decide) ?_
          exact t_X12_letIn_b266 C hq138 hq173 ih x2 x3 x4 x5 x6 x8 x9 x10 x11 x12 r_12 S_11 _ _ _ h X (lv_sub hl [0, 1, 2, 3, 4, 5, 6, 7, 8, 9, 10] rfl)
def f_X12_letIn_b213 (q138 : (Int32 → Int32 → Int32 → Int32 → Int32 → Int32 → sd_St → Option (Int32 × sd_St))) (q173 : (Int32 → Int32 → Int32 → Int32 → Int32 → Int32 → Int32 → sd_St → Option (Int32 × sd_St))) (x2 : Int32) (x3 : Int32) (x4 : Int32) (x5 : Int32) (x6 : Int32) (x8 : Int32) (x9 : Int32) (x10 : Int32) (w0 : Int32) (S : sd_St) : Option (Int32 × sd_St) := f_X12_letIn_l218 q138 q173 sd_FU x2 x3 x4 x5 x6 x8 x9 x10 w0 (0 : Int32) S
set_option maxHeartbeats 4000000 in
set_option maxRecDepth 100000 in
theorem t_X12_letIn_b213 (C : sd_C RX12 cX12_letIn 14 (some .int) D cy ad A b0 p s m args meth c) {r : Int32} {S' : sd_St} {q138 : (Int32 → Int32 → Int32 → Int32 → Int32 → Int32 → sd_St → Option (Int32 × sd_St))} {q173 : (Int32 → Int32 → Int32 → Int32 → Int32 → Int32 → Int32 → sd_St → Option (Int32 × sd_St))} (hq138 : ∀ (x2 : Int32) (x3 : Int32) (x4 : Int32) (x5 : Int32) (x6 : Int32) (x8 : Int32) (S : sd_St) (H : Heap) (locs : List Loc) (ls : Array Slot), q138 x2 x3 x4 x5 x6 x8 S = some (r, S') → sd_H D cy ad A s S H locs → lv_has ls 14 [(0, .ref (ad 130)), (2, .int x2), (3, .int x3), (4, .int x4), (5, .int x5), (6, .int x6), (8, .int x8)] → W p l e (sd_rm 4) s m args below meth c H locs 0 0 (MQ below (sd_Qi D cy ad A r S') args s 0 0 A) (F0 m 138 ls [])) (hq173 : ∀ (x2 : Int32) (x3 : Int32) (x4 : Int32) (x5 : Int32) (x6 : Int32) (x8 : Int32) (x9 : Int32) (S : sd_St) (H : Heap) (locs : List Loc) (ls : Array Slot), q173 x2 x3 x4 x5 x6 x8 x9 S = some (r, S') → sd_H D cy ad A s S H locs → lv_has ls 14 [(0, .ref (ad 130)), (2, .int x2), (3, .int x3), (4, .int x4), (5, .int x5), (6, .int x6), (8, .int x8), (9, .int x9)] → W p l e (sd_rm 4) s m args below meth c H locs 0 0 (MQ below (sd_Qi D cy ad A r S') args s 0 0 A) (F0 m 173 ls [])) : ∀ (x2 : Int32) (x3 : Int32) (x4 : Int32) (x5 : Int32) (x6 : Int32) (x8 : Int32) (x9 : Int32) (x10 : Int32) (w0 : Int32) (S : sd_St) (H : Heap) (locs : List Loc) (ls : Array Slot), f_X12_letIn_b213 q138 q173 x2 x3 x4 x5 x6 x8 x9 x10 w0 S = some (r, S') → sd_H D cy ad A s S H locs → lv_has ls 14 [(0, .ref (ad 130)), (2, .int x2), (3, .int x3), (4, .int x4), (5, .int x5), (6, .int x6), (8, .int x8), (9, .int x9), (10, .int x10)] → W p l e (sd_rm 4) s m args below meth c H locs 0 0 (MQ below (sd_Qi D cy ad A r S') args s 0 0 A) (F0 m 213 ls [.int w0]) := by
  obtain ⟨hx, hb, -, hml, hown, hts, -, hG⟩ := id C
  intro x2 x3 x4 x5 x6 x8 x9 x10 w0 S H locs ls h X hl
  unfold f_X12_letIn_b213 at h
  refine lv_istore (lv' := [(11, .int w0), (0, .ref (ad 130)), (2, .int x2), (3, .int x3), (4, .int x4), (5, .int x5), (6, .int x6), (8, .int x8), (9, .int x9), (10, .int x10)]) hx hb dX12_letIn_213 hl (by decide) rfl (fun ls hl => ?_)
  refine lv_iconst (v := (0 : Int32)) hx hb dX12_letIn_215 (by decide) ?_
  refine lv_istore (lv' := [(12, .int (0 : Int32)), (11, .int w0), (0, .ref (ad 130)), (2, .int x2), (3, .int x3), (4, .int x4), (5, .int x5), (6, .int x6), (8, .int x8), (9, .int x9), (10, .int x10)]) hx hb dX12_letIn_216 hl (by decide) rfl (fun ls hl => ?_)
  exact t_X12_letIn_l218 C hq138 hq173 sd_FU x2 x3 x4 x5 x6 x8 x9 x10 w0 (0 : Int32) S _ _ _ h X (lv_sub hl [2, 3, 4, 5, 6, 7, 8, 9, 10, 1, 0] rfl)
def f_X12_letIn_b313 (q138 : (Int32 → Int32 → Int32 → Int32 → Int32 → Int32 → sd_St → Option (Int32 × sd_St))) (x2 : Int32) (x3 : Int32) (x4 : Int32) (x5 : Int32) (x6 : Int32) (x8 : Int32) (S : sd_St) : Option (Int32 × sd_St) := q138 x2 x3 x4 x5 x6 (x8 + (1 : Int32)) S
set_option maxHeartbeats 4000000 in
set_option maxRecDepth 100000 in
theorem t_X12_letIn_b313 (C : sd_C RX12 cX12_letIn 14 (some .int) D cy ad A b0 p s m args meth c) {r : Int32} {S' : sd_St} {q138 : (Int32 → Int32 → Int32 → Int32 → Int32 → Int32 → sd_St → Option (Int32 × sd_St))} (hq138 : ∀ (x2 : Int32) (x3 : Int32) (x4 : Int32) (x5 : Int32) (x6 : Int32) (x8 : Int32) (S : sd_St) (H : Heap) (locs : List Loc) (ls : Array Slot), q138 x2 x3 x4 x5 x6 x8 S = some (r, S') → sd_H D cy ad A s S H locs → lv_has ls 14 [(0, .ref (ad 130)), (2, .int x2), (3, .int x3), (4, .int x4), (5, .int x5), (6, .int x6), (8, .int x8)] → W p l e (sd_rm 4) s m args below meth c H locs 0 0 (MQ below (sd_Qi D cy ad A r S') args s 0 0 A) (F0 m 138 ls [])) : ∀ (x2 : Int32) (x3 : Int32) (x4 : Int32) (x5 : Int32) (x6 : Int32) (x8 : Int32) (S : sd_St) (H : Heap) (locs : List Loc) (ls : Array Slot), f_X12_letIn_b313 q138 x2 x3 x4 x5 x6 x8 S = some (r, S') → sd_H D cy ad A s S H locs → lv_has ls 14 [(0, .ref (ad 130)), (2, .int x2), (3, .int x3), (4, .int x4), (5, .int x5), (6, .int x6), (8, .int x8)] → W p l e (sd_rm 4) s m args below meth c H locs 0 0 (MQ below (sd_Qi D cy ad A r S') args s 0 0 A) (F0 m 313 ls []) := by
  obtain ⟨hx, hb, -, hml, hown, hts, -, hG⟩ := id C
  intro x2 x3 x4 x5 x6 x8 S H locs ls h X hl
  unfold f_X12_letIn_b313 at h
  refine lv_iinc (v := (x8 + (1 : Int32))) (lv' := [(8, .int (x8 + (1 : Int32))), (0, .ref (ad 130)), (2, .int x2), (3, .int x3), (4, .int x4), (5, .int x5), (6, .int x6)]) hx hb dX12_letIn_313 hl (k := 6) rfl rfl (by decide) rfl (fun ls hl => ?_)
  refine lv_goto (tgt := 138) hx hb dX12_letIn_316 (by decide) ?_
  exact hq138 x2 x3 x4 x5 x6 (x8 + (1 : Int32)) S _ _ _ h X (lv_sub hl [1, 2, 3, 4, 5, 6, 0] rfl)
def f_X12_letIn_l173 (q138 : (Int32 → Int32 → Int32 → Int32 → Int32 → Int32 → sd_St → Option (Int32 × sd_St))) : Nat → Int32 → Int32 → Int32 → Int32 → Int32 → Int32 → Int32 → sd_St → Option (Int32 × sd_St)
  | 0 => fun _ _ _ _ _ _ _ _ => none
  | n + 1 => fun x2 x3 x4 x5 x6 x8 x9 S => sd_cl (f_X12_people S) (fun r_14 S_13 => (if r_14 ≤ x9 then f_X12_letIn_b313 q138 x2 x3 x4 x5 x6 x8 S_13 else (if (12 : Int32) ≤ (x8 + (1 : Int32)) then f_X12_letIn_b313 q138 x2 x3 x4 x5 x6 x8 S_13 else (if ((x4 >>> (x9 &&& 31)) &&& (1 : Int32)) = (1 : Int32) then f_X12_letIn_b213 q138 (f_X12_letIn_l173 q138 n) x2 x3 x4 x5 x6 x8 x9 (1000000 : Int32) x5 S_13 else f_X12_letIn_b213 q138 (f_X12_letIn_l173 q138 n) x2 x3 x4 x5 x6 x8 x9 (1000000 : Int32) (0 : Int32) S_13))))
set_option maxHeartbeats 4000000 in
set_option maxRecDepth 100000 in
theorem t_X12_letIn_l173 (C : sd_C RX12 cX12_letIn 14 (some .int) D cy ad A b0 p s m args meth c) {r : Int32} {S' : sd_St} {q138 : (Int32 → Int32 → Int32 → Int32 → Int32 → Int32 → sd_St → Option (Int32 × sd_St))} (hq138 : ∀ (x2 : Int32) (x3 : Int32) (x4 : Int32) (x5 : Int32) (x6 : Int32) (x8 : Int32) (S : sd_St) (H : Heap) (locs : List Loc) (ls : Array Slot), q138 x2 x3 x4 x5 x6 x8 S = some (r, S') → sd_H D cy ad A s S H locs → lv_has ls 14 [(0, .ref (ad 130)), (2, .int x2), (3, .int x3), (4, .int x4), (5, .int x5), (6, .int x6), (8, .int x8)] → W p l e (sd_rm 4) s m args below meth c H locs 0 0 (MQ below (sd_Qi D cy ad A r S') args s 0 0 A) (F0 m 138 ls [])) : ∀ (n : Nat) (x2 : Int32) (x3 : Int32) (x4 : Int32) (x5 : Int32) (x6 : Int32) (x8 : Int32) (x9 : Int32) (S : sd_St) (H : Heap) (locs : List Loc) (ls : Array Slot), f_X12_letIn_l173 q138 n x2 x3 x4 x5 x6 x8 x9 S = some (r, S') → sd_H D cy ad A s S H locs → lv_has ls 14 [(0, .ref (ad 130)), (2, .int x2), (3, .int x3), (4, .int x4), (5, .int x5), (6, .int x6), (8, .int x8), (9, .int x9)] → W p l e (sd_rm 4) s m args below meth c H locs 0 0 (MQ below (sd_Qi D cy ad A r S') args s 0 0 A) (F0 m 173 ls []) := by
  obtain ⟨hx, hb, -, hml, hown, hts, -, hG⟩ := id C
  intro n
  induction n with
  | zero => intro x2 x3 x4 x5 x6 x8 x9 S H locs ls h; cases h
  | succ n ih =>
    intro x2 x3 x4 x5 x6 x8 x9 S H locs ls h X hl
    unfold f_X12_letIn_l173 at h
    refine lv_iload hx hb dX12_letIn_173 (lv_at hl 7 rfl) ?_
    refine lv_aload_n hx hb dX12_letIn_175 rfl (lv_at hl 0 rfl) ?_
    obtain ⟨r_14, S_13, er_14, h⟩ := sd_cl_some h
    refine k_X12_people C X hl.1 er_14 sd_w24_18 (by decide) (Nat.le_of_ble_eq_true rfl) dX12_letIn_176 (fun H locs X => ?_)
    refine lv_icmp_ge (tgt := 313) hx hb dX12_letIn_179 (by decide) (fun c_15 => ?_) (fun c_15 => ?_)
    · have h := sd_ifp c_15 h
      exact t_X12_letIn_b313 C hq138 x2 x3 x4 x5 x6 x8 S_13 _ _ _ h X (lv_sub hl [0, 1, 2, 3, 4, 5, 6] rfl)
    · have h := sd_ifn c_15 h
      refine lv_iload hx hb dX12_letIn_182 (lv_at hl 6 rfl) ?_
      refine lv_iconst (v := (1 : Int32)) hx hb dX12_letIn_184 (by decide) ?_
      refine lv_iadd hx hb dX12_letIn_185 ?_
      refine lv_bipush (v := (12 : Int32)) hx hb dX12_letIn_186 (by decide) ?_
      refine lv_icmp_ge (tgt := 313) hx hb dX12_letIn_188 (by decide) (fun c_16 => ?_) (fun c_16 => ?_)
      · have h := sd_ifp c_16 h
        exact t_X12_letIn_b313 C hq138 x2 x3 x4 x5 x6 x8 S_13 _ _ _ h X (lv_sub hl [0, 1, 2, 3, 4, 5, 6] rfl)
      · have h := sd_ifn c_16 h
        refine lv_ldcw (v := (1000000 : Int32)) hx hb hown (hts _ sd_w31_10) dX12_letIn_191 ?_
        refine lv_istore (lv' := [(10, .int (1000000 : Int32)), (0, .ref (ad 130)), (2, .int x2), (3, .int x3), (4, .int x4), (5, .int x5), (6, .int x6), (8, .int x8), (9, .int x9)]) hx hb dX12_letIn_194 hl (by decide) rfl (fun ls hl => ?_)
        refine lv_iload hx hb dX12_letIn_196 (lv_at hl 4 rfl) ?_
        refine lv_iload hx hb dX12_letIn_198 (lv_at hl 8 rfl) ?_
        refine lv_ishr hx hb dX12_letIn_200 ?_
        refine lv_iconst (v := (1 : Int32)) hx hb dX12_letIn_201 (by decide) ?_
        refine lv_iand hx hb dX12_letIn_202 ?_
        refine lv_iconst (v := (1 : Int32)) hx hb dX12_letIn_203 (by decide) ?_
        refine lv_icmp_ne (tgt := 212) hx hb dX12_letIn_204 (by decide) (fun c_17 => ?_) (fun c_17 => ?_)
        · have h := sd_ifn c_17 h
          refine lv_iconst (v := (0 : Int32)) hx hb dX12_letIn_212 (by decide) ?_
          exact t_X12_letIn_b213 C hq138 ih x2 x3 x4 x5 x6 x8 x9 (1000000 : Int32) (0 : Int32) S_13 _ _ _ h X (lv_sub hl [1, 2, 3, 4, 5, 6, 7, 8, 0] rfl)
        · have h := sd_ifp c_17 h
          refine lv_iload hx hb dX12_letIn_207 (lv_at hl 5 rfl) ?_
          refine lv_goto (tgt := 213) hx hb dX12_letIn_209 (by decide) ?_
          exact t_X12_letIn_b213 C hq138 ih x2 x3 x4 x5 x6 x8 x9 (1000000 : Int32) x5 S_13 _ _ _ h X (lv_sub hl [1, 2, 3, 4, 5, 6, 7, 8, 0] rfl)
def f_X12_letIn_l138 : Nat → Int32 → Int32 → Int32 → Int32 → Int32 → Int32 → sd_St → Option (Int32 × sd_St)
  | 0 => fun _ _ _ _ _ _ _ => none
  | n + 1 => fun x2 x3 x4 x5 x6 x8 S => sd_cl (f_X12_people S) (fun r_19 S_18 => (if r_19 ≤ x8 then (some ((-1 : Int32), S_18)) else sd_ld S_18 142 (((12 : Int32) * x8) + x2) (fun v_21 => (if (1000000 : Int32) ≤ v_21 then f_X12_letIn_l173 (f_X12_letIn_l138 n) sd_FU x2 x3 x4 x5 x6 x8 (0 : Int32) S_18 else (some ((x8 + (1 : Int32)), S_18))))))
set_option maxHeartbeats 4000000 in
set_option maxRecDepth 100000 in
theorem t_X12_letIn_l138 (C : sd_C RX12 cX12_letIn 14 (some .int) D cy ad A b0 p s m args meth c) {r : Int32} {S' : sd_St} : ∀ (n : Nat) (x2 : Int32) (x3 : Int32) (x4 : Int32) (x5 : Int32) (x6 : Int32) (x8 : Int32) (S : sd_St) (H : Heap) (locs : List Loc) (ls : Array Slot), f_X12_letIn_l138 n x2 x3 x4 x5 x6 x8 S = some (r, S') → sd_H D cy ad A s S H locs → lv_has ls 14 [(0, .ref (ad 130)), (2, .int x2), (3, .int x3), (4, .int x4), (5, .int x5), (6, .int x6), (8, .int x8)] → W p l e (sd_rm 4) s m args below meth c H locs 0 0 (MQ below (sd_Qi D cy ad A r S') args s 0 0 A) (F0 m 138 ls []) := by
  obtain ⟨hx, hb, -, hml, hown, hts, -, hG⟩ := id C
  intro n
  induction n with
  | zero => intro x2 x3 x4 x5 x6 x8 S H locs ls h; cases h
  | succ n ih =>
    intro x2 x3 x4 x5 x6 x8 S H locs ls h X hl
    unfold f_X12_letIn_l138 at h
    refine lv_iload hx hb dX12_letIn_138 (lv_at hl 6 rfl) ?_
    refine lv_aload_n hx hb dX12_letIn_140 rfl (lv_at hl 0 rfl) ?_
    obtain ⟨r_19, S_18, er_19, h⟩ := sd_cl_some h
    refine k_X12_people C X hl.1 er_19 sd_w24_18 (by decide) (Nat.le_of_ble_eq_true rfl) dX12_letIn_141 (fun H locs X => ?_)
    refine lv_icmp_ge (tgt := 319) hx hb dX12_letIn_144 (by decide) (fun c_20 => ?_) (fun c_20 => ?_)
    · have h := sd_ifp c_20 h
      refine lv_iconst (v := (-1 : Int32)) hx hb dX12_letIn_319 (by decide) ?_
      cases h
      exact sd_iret C X dX12_letIn_320
    · have h := sd_ifn c_20 h
      refine lv_aload_n hx hb dX12_letIn_147 rfl (lv_at hl 0 rfl) ?_
      refine sd_g12_19 (k := 130) C X (by decide) sd_w8_14 dX12_letIn_148 ?_
      refine lv_bipush (v := (12 : Int32)) hx hb dX12_letIn_151 (by decide) ?_
      refine lv_iload hx hb dX12_letIn_153 (lv_at hl 6 rfl) ?_
      refine lv_imul hx hb dX12_letIn_155 ?_
      refine lv_iload_n hx hb dX12_letIn_156 rfl (lv_at hl 1 rfl) ?_
      refine lv_iadd hx hb dX12_letIn_157 ?_
      obtain ⟨b_21, v_21, e_21, h⟩ := sd_ld_some h
      refine sd_iald C X (by decide) b_21 dX12_letIn_158 (sd_nmi e_21 ?_)
      refine lv_ldcw (v := (1000000 : Int32)) hx hb hown (hts _ sd_w31_10) dX12_letIn_159 ?_
      refine lv_icmp_ge (tgt := 170) hx hb dX12_letIn_162 (by decide) (fun c_22 => ?_) (fun c_22 => ?_)
      · have h := sd_ifp c_22 h
        refine lv_iconst (v := (0 : Int32)) hx hb dX12_letIn_170 (by decide) ?_
        refine lv_istore (lv' := [(9, .int (0 : Int32)), (0, .ref (ad 130)), (2, .int x2), (3, .int x3), (4, .int x4), (5, .int x5), (6, .int x6), (8, .int x8)]) hx hb dX12_letIn_171 hl (by decide) rfl (fun ls hl => ?_)
        exact t_X12_letIn_l173 C ih sd_FU x2 x3 x4 x5 x6 x8 (0 : Int32) S_18 _ _ _ h X (lv_sub hl [1, 2, 3, 4, 5, 6, 7, 0] rfl)
      · have h := sd_ifn c_22 h
        refine lv_iload hx hb dX12_letIn_165 (lv_at hl 6 rfl) ?_
        refine lv_iconst (v := (1 : Int32)) hx hb dX12_letIn_167 (by decide) ?_
        refine lv_iadd hx hb dX12_letIn_168 ?_
        cases h
        exact sd_iret C X dX12_letIn_169
def f_X12_letIn_l81 : Nat → Int32 → Int32 → Int32 → Int32 → Int32 → Int32 → Int32 → Int32 → sd_St → Option (Int32 × sd_St)
  | 0 => fun _ _ _ _ _ _ _ _ _ => none
  | n + 1 => fun x1 x2 x3 x4 x5 x6 x7 x8 S => sd_cl (f_X12_people S) (fun r_24 S_23 => (if r_24 ≤ x8 then f_X12_letIn_l138 sd_FU x2 x3 x4 x5 x6 (0 : Int32) S_23 else (if x8 = x6 then (if x7 = 0 then sd_cl (f_X12_fromOf x1 S_23) (fun r_29 S_28 => (if x3 < r_29 then f_X12_letIn_b125 (f_X12_letIn_l81 n) x1 x2 x3 x4 x5 x6 x7 x8 x8 S_28 else sd_cl (f_X12_fromOf x1 S_28) (fun r_32 S_31 => f_X12_letIn_b128 (f_X12_letIn_l81 n) x1 x2 x3 x4 x5 x6 x7 x8 x8 r_32 S_31))) else f_X12_letIn_b125 (f_X12_letIn_l81 n) x1 x2 x3 x4 x5 x6 x7 x8 x8 S_23) else f_X12_letIn_b125 (f_X12_letIn_l81 n) x1 x2 x3 x4 x5 x6 x7 x8 x8 S_23)))
set_option maxHeartbeats 4000000 in
set_option maxRecDepth 100000 in
theorem t_X12_letIn_l81 (C : sd_C RX12 cX12_letIn 14 (some .int) D cy ad A b0 p s m args meth c) {r : Int32} {S' : sd_St} : ∀ (n : Nat) (x1 : Int32) (x2 : Int32) (x3 : Int32) (x4 : Int32) (x5 : Int32) (x6 : Int32) (x7 : Int32) (x8 : Int32) (S : sd_St) (H : Heap) (locs : List Loc) (ls : Array Slot), f_X12_letIn_l81 n x1 x2 x3 x4 x5 x6 x7 x8 S = some (r, S') → sd_H D cy ad A s S H locs → lv_has ls 14 [(0, .ref (ad 130)), (1, .int x1), (2, .int x2), (3, .int x3), (4, .int x4), (5, .int x5), (6, .int x6), (7, .int x7), (8, .int x8)] → W p l e (sd_rm 4) s m args below meth c H locs 0 0 (MQ below (sd_Qi D cy ad A r S') args s 0 0 A) (F0 m 81 ls []) := by
  obtain ⟨hx, hb, -, hml, hown, hts, -, hG⟩ := id C
  intro n
  induction n with
  | zero => intro x1 x2 x3 x4 x5 x6 x7 x8 S H locs ls h; cases h
  | succ n ih =>
    intro x1 x2 x3 x4 x5 x6 x7 x8 S H locs ls h X hl
    unfold f_X12_letIn_l81 at h
    refine lv_iload hx hb dX12_letIn_81 (lv_at hl 8 rfl) ?_
    refine lv_aload_n hx hb dX12_letIn_83 rfl (lv_at hl 0 rfl) ?_
    obtain ⟨r_24, S_23, er_24, h⟩ := sd_cl_some h
    refine k_X12_people C X hl.1 er_24 sd_w24_18 (by decide) (Nat.le_of_ble_eq_true rfl) dX12_letIn_84 (fun H locs X => ?_)
    refine lv_icmp_ge (tgt := 135) hx hb dX12_letIn_87 (by decide) (fun c_25 => ?_) (fun c_25 => ?_)
    · have h := sd_ifp c_25 h
      refine lv_iconst (v := (0 : Int32)) hx hb dX12_letIn_135 (by decide) ?_
      refine lv_istore (lv' := [(8, .int (0 : Int32)), (0, .ref (ad 130)), (1, .int x1), (2, .int x2), (3, .int x3), (4, .int x4), (5, .int x5), (6, .int x6), (7, .int x7)]) hx hb dX12_letIn_136 hl (by decide) rfl (fun ls hl => ?_)
      exact t_X12_letIn_l138 C sd_FU x2 x3 x4 x5 x6 (0 : Int32) S_23 _ _ _ h X (lv_sub hl [1, 3, 4, 5, 6, 7, 0] rfl)
    · have h := sd_ifn c_25 h
      refine lv_aload_n hx hb dX12_letIn_90 rfl (lv_at hl 0 rfl) ?_
      refine sd_g12_19 (k := 130) C X (by decide) sd_w8_14 dX12_letIn_91 ?_
      refine lv_iload hx hb dX12_letIn_94 (lv_at hl 8 rfl) ?_
      refine lv_iload hx hb dX12_letIn_96 (lv_at hl 8 rfl) ?_
      refine lv_iload hx hb dX12_letIn_98 (lv_at hl 6 rfl) ?_
      refine lv_icmp_ne (tgt := 125) hx hb dX12_letIn_100 (by decide) (fun c_26 => ?_) (fun c_26 => ?_)
      · have h := sd_ifn c_26 h
        exact t_X12_letIn_b125 C ih x1 x2 x3 x4 x5 x6 x7 x8 x8 S_23 _ _ _ h X (lv_sub hl [0, 1, 2, 3, 4, 5, 6, 7, 8] rfl)
      · have h := sd_ifp c_26 h
        refine lv_iload hx hb dX12_letIn_103 (lv_at hl 7 rfl) ?_
        refine lv_if_ne (tgt := 125) hx hb dX12_letIn_105 (by decide) (fun c_27 => ?_) (fun c_27 => ?_)
        · have h := sd_ifn c_27 h
          exact t_X12_letIn_b125 C ih x1 x2 x3 x4 x5 x6 x7 x8 x8 S_23 _ _ _ h X (lv_sub hl [0, 1, 2, 3, 4, 5, 6, 7, 8] rfl)
        · have h := sd_ifp c_27 h
          refine lv_aload_n hx hb dX12_letIn_108 rfl (lv_at hl 0 rfl) ?_
          refine lv_iload_n hx hb dX12_letIn_109 rfl (lv_at hl 1 rfl) ?_
          obtain ⟨r_29, S_28, er_29, h⟩ := sd_cl_some h
          refine k_X12_fromOf C X hl.1 er_29 sd_w32_7 (by decide) (Nat.le_of_ble_eq_true rfl) dX12_letIn_110 (fun H locs X => ?_)
          refine lv_iload_n hx hb dX12_letIn_113 rfl (lv_at hl 3 rfl) ?_
          refine lv_icmp_gt (tgt := 125) hx hb dX12_letIn_114 (by decide) (fun c_30 => ?_) (fun c_30 => ?_)
          · have h := sd_ifp c_30 h
            exact t_X12_letIn_b125 C ih x1 x2 x3 x4 x5 x6 x7 x8 x8 S_28 _ _ _ h X (lv_sub hl [0, 1, 2, 3, 4, 5, 6, 7, 8] rfl)
          · have h := sd_ifn c_30 h
            refine lv_aload_n hx hb dX12_letIn_117 rfl (lv_at hl 0 rfl) ?_
            refine lv_iload_n hx hb dX12_letIn_118 rfl (lv_at hl 1 rfl) ?_
            obtain ⟨r_32, S_31, er_32, h⟩ := sd_cl_some h
            refine k_X12_fromOf C X hl.1 er_32 sd_w32_7 (by decide) (Nat.le_of_ble_eq_true rfl) dX12_letIn_119 (fun H locs X => ?_)
            refine lv_goto (tgt := 128) hx hb dX12_letIn_122 (by decide) ?_
            exact t_X12_letIn_b128 C ih x1 x2 x3 x4 x5 x6 x7 x8 x8 r_32 S_31 _ _ _ h X (lv_sub hl [0, 1, 2, 3, 4, 5, 6, 7, 8] rfl)
def f_X12_letIn_b76 (x1 : Int32) (x2 : Int32) (x3 : Int32) (x4 : Int32) (x5 : Int32) (x6 : Int32) (w0 : Int32) (S : sd_St) : Option (Int32 × sd_St) := f_X12_letIn_l81 sd_FU x1 x2 x3 x4 x5 x6 w0 (0 : Int32) S
set_option maxHeartbeats 4000000 in
set_option maxRecDepth 100000 in
theorem t_X12_letIn_b76 (C : sd_C RX12 cX12_letIn 14 (some .int) D cy ad A b0 p s m args meth c) {r : Int32} {S' : sd_St} : ∀ (x1 : Int32) (x2 : Int32) (x3 : Int32) (x4 : Int32) (x5 : Int32) (x6 : Int32) (w0 : Int32) (S : sd_St) (H : Heap) (locs : List Loc) (ls : Array Slot), f_X12_letIn_b76 x1 x2 x3 x4 x5 x6 w0 S = some (r, S') → sd_H D cy ad A s S H locs → lv_has ls 14 [(0, .ref (ad 130)), (1, .int x1), (2, .int x2), (3, .int x3), (4, .int x4), (5, .int x5), (6, .int x6)] → W p l e (sd_rm 4) s m args below meth c H locs 0 0 (MQ below (sd_Qi D cy ad A r S') args s 0 0 A) (F0 m 76 ls [.int w0]) := by
  obtain ⟨hx, hb, -, hml, hown, hts, -, hG⟩ := id C
  intro x1 x2 x3 x4 x5 x6 w0 S H locs ls h X hl
  unfold f_X12_letIn_b76 at h
  refine lv_istore (lv' := [(7, .int w0), (0, .ref (ad 130)), (1, .int x1), (2, .int x2), (3, .int x3), (4, .int x4), (5, .int x5), (6, .int x6)]) hx hb dX12_letIn_76 hl (by decide) rfl (fun ls hl => ?_)
  refine lv_iconst (v := (0 : Int32)) hx hb dX12_letIn_78 (by decide) ?_
  refine lv_istore (lv' := [(8, .int (0 : Int32)), (7, .int w0), (0, .ref (ad 130)), (1, .int x1), (2, .int x2), (3, .int x3), (4, .int x4), (5, .int x5), (6, .int x6)]) hx hb dX12_letIn_79 hl (by decide) rfl (fun ls hl => ?_)
  exact t_X12_letIn_l81 C sd_FU x1 x2 x3 x4 x5 x6 w0 (0 : Int32) S _ _ _ h X (lv_sub hl [2, 3, 4, 5, 6, 7, 8, 1, 0] rfl)
def f_X12_letIn_b75 (x1 : Int32) (x2 : Int32) (x3 : Int32) (x4 : Int32) (x5 : Int32) (x6 : Int32) (S : sd_St) : Option (Int32 × sd_St) := f_X12_letIn_b76 x1 x2 x3 x4 x5 x6 (0 : Int32) S
set_option maxHeartbeats 4000000 in
set_option maxRecDepth 100000 in
theorem t_X12_letIn_b75 (C : sd_C RX12 cX12_letIn 14 (some .int) D cy ad A b0 p s m args meth c) {r : Int32} {S' : sd_St} : ∀ (x1 : Int32) (x2 : Int32) (x3 : Int32) (x4 : Int32) (x5 : Int32) (x6 : Int32) (S : sd_St) (H : Heap) (locs : List Loc) (ls : Array Slot), f_X12_letIn_b75 x1 x2 x3 x4 x5 x6 S = some (r, S') → sd_H D cy ad A s S H locs → lv_has ls 14 [(0, .ref (ad 130)), (1, .int x1), (2, .int x2), (3, .int x3), (4, .int x4), (5, .int x5), (6, .int x6)] → W p l e (sd_rm 4) s m args below meth c H locs 0 0 (MQ below (sd_Qi D cy ad A r S') args s 0 0 A) (F0 m 75 ls []) := by
  obtain ⟨hx, hb, -, hml, hown, hts, -, hG⟩ := id C
  intro x1 x2 x3 x4 x5 x6 S H locs ls h X hl
  unfold f_X12_letIn_b75 at h
  refine lv_iconst (v := (0 : Int32)) hx hb dX12_letIn_75 (by decide) ?_
  exact t_X12_letIn_b76 C x1 x2 x3 x4 x5 x6 (0 : Int32) S _ _ _ h X (lv_sub hl [0, 1, 2, 3, 4, 5, 6] rfl)
def f_X12_letIn (x1 : Int32) (x2 : Int32) (x3 : Int32) (x4 : Int32) (x5 : Int32) (S : sd_St) : Option (Int32 × sd_St) := sd_nm (sd_I S 130 0 (0 : Int32)) (fun S_33 => sd_cl (f_X12_areThere x1 x2 S_33) (fun r_35 S_34 => (if r_35 = 0 then (some ((-1 : Int32), S_34)) else sd_cl (f_X12_isDate x3 S_34) (fun r_38 S_37 => (if r_38 = 0 then (some ((-1 : Int32), S_37)) else sd_cl (f_X12_isDate x5 S_37) (fun r_41 S_40 => (if r_41 = 0 then (some ((-1 : Int32), S_40)) else sd_cl (f_X12_people S_40) (fun r_44 S_43 => sd_cl (f_X12_isSet x4 r_44 S_43) (fun r_46 S_45 => (if r_46 = 0 then (some ((-1 : Int32), S_45)) else sd_cl (f_X12_beginner x1 S_45) (fun r_49 S_48 => (if ((x4 >>> (r_49 &&& 31)) &&& (1 : Int32)) = (1 : Int32) then sd_cl (f_X12_fromOf x1 S_48) (fun r_52 S_51 => (if x5 ≤ r_52 then f_X12_letIn_b75 x1 x2 x3 x4 x5 r_49 S_51 else f_X12_letIn_b76 x1 x2 x3 x4 x5 r_49 (1 : Int32) S_51)) else f_X12_letIn_b75 x1 x2 x3 x4 x5 r_49 S_48))))))))))))
set_option maxHeartbeats 4000000 in
set_option maxRecDepth 100000 in
theorem c_X12_letIn {x1 : Int32} {x2 : Int32} {x3 : Int32} {x4 : Int32} {x5 : Int32} {S S' : sd_St} {r : Int32} (h : f_X12_letIn x1 x2 x3 x4 x5 S = some (r, S')) : Met l yX12_letIn (Cond.code yX12_letIn cX12_letIn 14 (some .int) :: sd_wl) (sd_rm 4) (sd_P D cy ad A b0 [.ref (ad 130), .int x1, .int x2, .int x3, .int x4, .int x5] S) (sd_Qi D cy ad A r S') 0 0 A := by
  refine sd_met (by decide) (Nat.le_of_ble_eq_true rfl) (fun p e s m args below meth c ls C X hl => ?_)
  obtain ⟨hx, hb, -, hml, hown, hts, -, hG⟩ := id C
  replace C : sd_C RX12 cX12_letIn 14 (some .int) D cy ad A b0 p s m args meth c := C
  replace hl : lv_has ls 14 [(0, .ref (ad 130)), (1, .int x1), (2, .int x2), (3, .int x3), (4, .int x4), (5, .int x5)] := hl
  unfold f_X12_letIn at h
  refine lv_aload_n hx hb dX12_letIn_0 rfl (lv_at hl 0 rfl) ?_
  refine lv_iconst (v := (0 : Int32)) hx hb dX12_letIn_1 (by decide) ?_
  obtain ⟨S_33, eS_33, h⟩ := sd_nm_some h
  refine sd_p12_0 C X (by decide) sd_w9_3 dX12_letIn_2 (fun H locs X => ?_)
  rw [← eS_33] at X
  refine lv_aload_n hx hb dX12_letIn_5 rfl (lv_at hl 0 rfl) ?_
  refine lv_iload_n hx hb dX12_letIn_6 rfl (lv_at hl 1 rfl) ?_
  refine lv_iload_n hx hb dX12_letIn_7 rfl (lv_at hl 2 rfl) ?_
  obtain ⟨r_35, S_34, er_35, h⟩ := sd_cl_some h
  refine k_X12_areThere C X hl.1 er_35 sd_w31_11 (by decide) (Nat.le_of_ble_eq_true rfl) dX12_letIn_8 (fun H locs X => ?_)
  refine lv_if_eq (tgt := 41) hx hb dX12_letIn_11 (by decide) (fun c_36 => ?_) (fun c_36 => ?_)
  · have h := sd_ifp c_36 h
    refine lv_iconst (v := (-1 : Int32)) hx hb dX12_letIn_41 (by decide) ?_
    cases h
    exact sd_iret C X dX12_letIn_42
  · have h := sd_ifn c_36 h
    refine lv_iload_n hx hb dX12_letIn_14 rfl (lv_at hl 3 rfl) ?_
    obtain ⟨r_38, S_37, er_38, h⟩ := sd_cl_some h
    refine k_X12_isDate C X hl.1 er_38 sd_w26_1 (by decide) (Nat.le_of_ble_eq_true rfl) dX12_letIn_15 (fun H locs X => ?_)
    refine lv_if_eq (tgt := 41) hx hb dX12_letIn_18 (by decide) (fun c_39 => ?_) (fun c_39 => ?_)
    · have h := sd_ifp c_39 h
      refine lv_iconst (v := (-1 : Int32)) hx hb dX12_letIn_41 (by decide) ?_
      cases h
      exact sd_iret C X dX12_letIn_42
    · have h := sd_ifn c_39 h
      refine lv_iload hx hb dX12_letIn_21 (lv_at hl 5 rfl) ?_
      obtain ⟨r_41, S_40, er_41, h⟩ := sd_cl_some h
      refine k_X12_isDate C X hl.1 er_41 sd_w26_1 (by decide) (Nat.le_of_ble_eq_true rfl) dX12_letIn_23 (fun H locs X => ?_)
      refine lv_if_eq (tgt := 41) hx hb dX12_letIn_26 (by decide) (fun c_42 => ?_) (fun c_42 => ?_)
      · have h := sd_ifp c_42 h
        refine lv_iconst (v := (-1 : Int32)) hx hb dX12_letIn_41 (by decide) ?_
        cases h
        exact sd_iret C X dX12_letIn_42
      · have h := sd_ifn c_42 h
        refine lv_iload hx hb dX12_letIn_29 (lv_at hl 4 rfl) ?_
        refine lv_aload_n hx hb dX12_letIn_31 rfl (lv_at hl 0 rfl) ?_
        obtain ⟨r_44, S_43, er_44, h⟩ := sd_cl_some h
        refine k_X12_people C X hl.1 er_44 sd_w24_18 (by decide) (Nat.le_of_ble_eq_true rfl) dX12_letIn_32 (fun H locs X => ?_)
        obtain ⟨r_46, S_45, er_46, h⟩ := sd_cl_some h
        refine k_X12_isSet C X hl.1 er_46 sd_w37_17 (by decide) (Nat.le_of_ble_eq_true rfl) dX12_letIn_35 (fun H locs X => ?_)
        refine lv_if_ne (tgt := 43) hx hb dX12_letIn_38 (by decide) (fun c_47 => ?_) (fun c_47 => ?_)
        · have h := sd_ifn c_47 h
          refine lv_aload_n hx hb dX12_letIn_43 rfl (lv_at hl 0 rfl) ?_
          refine lv_iload_n hx hb dX12_letIn_44 rfl (lv_at hl 1 rfl) ?_
          obtain ⟨r_49, S_48, er_49, h⟩ := sd_cl_some h
          refine k_X12_beginner C X hl.1 er_49 sd_w32_3 (by decide) (Nat.le_of_ble_eq_true rfl) dX12_letIn_45 (fun H locs X => ?_)
          refine lv_istore (lv' := [(6, .int r_49), (0, .ref (ad 130)), (1, .int x1), (2, .int x2), (3, .int x3), (4, .int x4), (5, .int x5)]) hx hb dX12_letIn_48 hl (by decide) rfl (fun ls hl => ?_)
          refine lv_iload hx hb dX12_letIn_50 (lv_at hl 5 rfl) ?_
          refine lv_iload hx hb dX12_letIn_52 (lv_at hl 0 rfl) ?_
          refine lv_ishr hx hb dX12_letIn_54 ?_
          refine lv_iconst (v := (1 : Int32)) hx hb dX12_letIn_55 (by decide) ?_
          refine lv_iand hx hb dX12_letIn_56 ?_
          refine lv_iconst (v := (1 : Int32)) hx hb dX12_letIn_57 (by decide) ?_
          refine lv_icmp_ne (tgt := 75) hx hb dX12_letIn_58 (by decide) (fun c_50 => ?_) (fun c_50 => ?_)
          · have h := sd_ifn c_50 h
            exact t_X12_letIn_b75 C x1 x2 x3 x4 x5 r_49 S_48 _ _ _ h X (lv_sub hl [1, 2, 3, 4, 5, 6, 0] rfl)
          · have h := sd_ifp c_50 h
            refine lv_aload_n hx hb dX12_letIn_61 rfl (lv_at hl 1 rfl) ?_
            refine lv_iload_n hx hb dX12_letIn_62 rfl (lv_at hl 2 rfl) ?_
            obtain ⟨r_52, S_51, er_52, h⟩ := sd_cl_some h
            refine k_X12_fromOf C X hl.1 er_52 sd_w32_7 (by decide) (Nat.le_of_ble_eq_true rfl) dX12_letIn_63 (fun H locs X => ?_)
            refine lv_iload hx hb dX12_letIn_66 (lv_at hl 6 rfl) ?_
            refine lv_icmp_ge (tgt := 75) hx hb dX12_letIn_68 (by decide) (fun c_53 => ?_) (fun c_53 => ?_)
            · have h := sd_ifp c_53 h
              exact t_X12_letIn_b75 C x1 x2 x3 x4 x5 r_49 S_51 _ _ _ h X (lv_sub hl [1, 2, 3, 4, 5, 6, 0] rfl)
            · have h := sd_ifn c_53 h
              refine lv_iconst (v := (1 : Int32)) hx hb dX12_letIn_71 (by decide) ?_
              refine lv_goto (tgt := 76) hx hb dX12_letIn_72 (by decide) ?_
              exact t_X12_letIn_b76 C x1 x2 x3 x4 x5 r_49 (1 : Int32) S_51 _ _ _ h X (lv_sub hl [1, 2, 3, 4, 5, 6, 0] rfl)
        · have h := sd_ifp c_47 h
          refine lv_iconst (v := (-1 : Int32)) hx hb dX12_letIn_41 (by decide) ?_
          cases h
          exact sd_iret C X dX12_letIn_42
theorem k_X12_letIn (C : sd_C own cc nL rt D cy ad A b0 p s m args meth c) (X : sd_H D cy ad A s S H locs) (hls : ls.size = nL) {x1 : Int32} {x2 : Int32} {x3 : Int32} {x4 : Int32} {x5 : Int32} {S2 : sd_St} {r : Int32} (h : f_X12_letIn x1 x2 x3 x4 x5 S = some (r, S2)) (hlink : Cond.methodLink own index yX12_letIn ∈ sd_wl) (hR : 5 ≤ R.frames ∧ 193 ≤ R.locals ∧ cells ≤ R.cells ∧ slots ≤ R.slots) (hst : (rest.map fun v => v.category).sum ≤ 8) (hdg : decode cc pc = .ok (.invokevirtual index, 3)) (kk : ∀ (H1 : Heap) (locs1 : List Loc), sd_H D cy ad A s S2 H1 locs1 → W p l e R s m args below meth c H1 locs1 cells slots Q (F0 m (pc + 3) ls (.int r :: rest))) : W p l e R s m args below meth c H locs cells slots Q (F0 m pc ls (.int x5 :: .int x4 :: .int x3 :: .int x2 :: .int x1 :: .ref (ad 130) :: rest)) :=
  sd_goI X (sd_runV C X hls (n := 5) (k := 130) (As := [.int x1, .int x2, .int x3, .int x4, .int x5]) (c_X12_letIn (l := l) (b0 := b0) h) (sd_goodV hlink sd_w37_14 sd_w37_15 sd_w1_5 sd_w37_16) (ci := 12) rfl (by rw [(show sd_kd 130 = 12 by decide)]; decide) (sd_c12 (show sd_kd 130 = 12 by decide)) (by decide +kernel) rfl hR rfl hst hdg) kk
/-! ===== SecretDaysModel.findEvents(I)V ===== -/
def f_X12_findEvents_b103 (q11 : (Int32 → Int32 → sd_St → Option (Unit × sd_St))) (q48 : (Int32 → Int32 → Int32 → Int32 → sd_St → Option (Unit × sd_St))) (x1 : Int32) (x2 : Int32) (x3 : Int32) (x4 : Int32) (S : sd_St) : Option (Unit × sd_St) := q48 x1 x2 x3 (x4 + (1 : Int32)) S
set_option maxHeartbeats 4000000 in
set_option maxRecDepth 100000 in
theorem t_X12_findEvents_b103 (C : sd_C RX12 cX12_findEvents 5 none D cy ad A b0 p s m args meth c) {S' : sd_St} {q11 : (Int32 → Int32 → sd_St → Option (Unit × sd_St))} {q48 : (Int32 → Int32 → Int32 → Int32 → sd_St → Option (Unit × sd_St))} (hq11 : ∀ (x1 : Int32) (x2 : Int32) (S : sd_St) (H : Heap) (locs : List Loc) (ls : Array Slot), q11 x1 x2 S = some ((), S') → sd_H D cy ad A s S H locs → lv_has ls 5 [(0, .ref (ad 130)), (1, .int x1), (2, .int x2)] → W p l e (sd_rm 3) s m args below meth c H locs 0 0 (MQ below (sd_Qv D cy ad A S') args s 0 0 A) (F0 m 11 ls [])) (hq48 : ∀ (x1 : Int32) (x2 : Int32) (x3 : Int32) (x4 : Int32) (S : sd_St) (H : Heap) (locs : List Loc) (ls : Array Slot), q48 x1 x2 x3 x4 S = some ((), S') → sd_H D cy ad A s S H locs → lv_has ls 5 [(0, .ref (ad 130)), (1, .int x1), (2, .int x2), (3, .int x3), (4, .int x4)] → W p l e (sd_rm 3) s m args below meth c H locs 0 0 (MQ below (sd_Qv D cy ad A S') args s 0 0 A) (F0 m 48 ls [])) : ∀ (x1 : Int32) (x2 : Int32) (x3 : Int32) (x4 : Int32) (S : sd_St) (H : Heap) (locs : List Loc) (ls : Array Slot), f_X12_findEvents_b103 q11 q48 x1 x2 x3 x4 S = some ((), S') → sd_H D cy ad A s S H locs → lv_has ls 5 [(0, .ref (ad 130)), (1, .int x1), (2, .int x2), (3, .int x3), (4, .int x4)] → W p l e (sd_rm 3) s m args below meth c H locs 0 0 (MQ below (sd_Qv D cy ad A S') args s 0 0 A) (F0 m 103 ls []) := by
  obtain ⟨hx, hb, -, hml, hown, hts, -, hG⟩ := id C
  intro x1 x2 x3 x4 S H locs ls h X hl
  unfold f_X12_findEvents_b103 at h
  refine lv_iinc (v := (x4 + (1 : Int32))) (lv' := [(4, .int (x4 + (1 : Int32))), (0, .ref (ad 130)), (1, .int x1), (2, .int x2), (3, .int x3)]) hx hb dX12_findEvents_103 hl (k := 4) rfl rfl (by decide) rfl (fun ls hl => ?_)
  refine lv_goto (tgt := 48) hx hb dX12_findEvents_106 (by decide) ?_
  exact hq48 x1 x2 x3 (x4 + (1 : Int32)) S _ _ _ h X (lv_sub hl [1, 2, 3, 4, 0] rfl)
def f_X12_findEvents_b109 (q11 : (Int32 → Int32 → sd_St → Option (Unit × sd_St))) (x1 : Int32) (x2 : Int32) (S : sd_St) : Option (Unit × sd_St) := q11 x1 (x2 + (1 : Int32)) S
set_option maxHeartbeats 4000000 in
set_option maxRecDepth 100000 in
theorem t_X12_findEvents_b109 (C : sd_C RX12 cX12_findEvents 5 none D cy ad A b0 p s m args meth c) {S' : sd_St} {q11 : (Int32 → Int32 → sd_St → Option (Unit × sd_St))} (hq11 : ∀ (x1 : Int32) (x2 : Int32) (S : sd_St) (H : Heap) (locs : List Loc) (ls : Array Slot), q11 x1 x2 S = some ((), S') → sd_H D cy ad A s S H locs → lv_has ls 5 [(0, .ref (ad 130)), (1, .int x1), (2, .int x2)] → W p l e (sd_rm 3) s m args below meth c H locs 0 0 (MQ below (sd_Qv D cy ad A S') args s 0 0 A) (F0 m 11 ls [])) : ∀ (x1 : Int32) (x2 : Int32) (S : sd_St) (H : Heap) (locs : List Loc) (ls : Array Slot), f_X12_findEvents_b109 q11 x1 x2 S = some ((), S') → sd_H D cy ad A s S H locs → lv_has ls 5 [(0, .ref (ad 130)), (1, .int x1), (2, .int x2)] → W p l e (sd_rm 3) s m args below meth c H locs 0 0 (MQ below (sd_Qv D cy ad A S') args s 0 0 A) (F0 m 109 ls []) := by
  obtain ⟨hx, hb, -, hml, hown, hts, -, hG⟩ := id C
  intro x1 x2 S H locs ls h X hl
  unfold f_X12_findEvents_b109 at h
  refine lv_iinc (v := (x2 + (1 : Int32))) (lv' := [(2, .int (x2 + (1 : Int32))), (0, .ref (ad 130)), (1, .int x1)]) hx hb dX12_findEvents_109 hl (k := 2) rfl rfl (by decide) rfl (fun ls hl => ?_)
  refine lv_goto (tgt := 11) hx hb dX12_findEvents_112 (by decide) ?_
  exact hq11 x1 (x2 + (1 : Int32)) S _ _ _ h X (lv_sub hl [1, 2, 0] rfl)
def f_X12_findEvents_l48 (q11 : (Int32 → Int32 → sd_St → Option (Unit × sd_St))) : Nat → Int32 → Int32 → Int32 → Int32 → sd_St → Option (Unit × sd_St)
  | 0 => fun _ _ _ _ _ => none
  | n + 1 => fun x1 x2 x3 x4 S => sd_cl (f_X12_people S) (fun r_2 S_1 => (if r_2 ≤ x4 then f_X12_findEvents_b109 q11 x1 x2 S_1 else (if x1 < x3 then f_X12_findEvents_b109 q11 x1 x2 S_1 else sd_cl (f_X12_isFree x4 x3 S_1) (fun r_6 S_5 => (if r_6 = 0 then f_X12_findEvents_b103 q11 (f_X12_findEvents_l48 q11 n) x1 x2 x3 x4 S_5 else sd_st S_5 143 (S_5.1 130 20) x4 (fun S_8 => sd_st S_8 144 (S_8.1 130 20) x3 (fun S_9 => sd_nm (sd_I S_9 130 20 ((S_9.1 130 20) + (1 : Int32))) (fun S_10 => f_X12_findEvents_b103 q11 (f_X12_findEvents_l48 q11 n) x1 x2 x3 x4 S_10))))))))
set_option maxHeartbeats 4000000 in
set_option maxRecDepth 100000 in
theorem t_X12_findEvents_l48 (C : sd_C RX12 cX12_findEvents 5 none D cy ad A b0 p s m args meth c) {S' : sd_St} {q11 : (Int32 → Int32 → sd_St → Option (Unit × sd_St))} (hq11 : ∀ (x1 : Int32) (x2 : Int32) (S : sd_St) (H : Heap) (locs : List Loc) (ls : Array Slot), q11 x1 x2 S = some ((), S') → sd_H D cy ad A s S H locs → lv_has ls 5 [(0, .ref (ad 130)), (1, .int x1), (2, .int x2)] → W p l e (sd_rm 3) s m args below meth c H locs 0 0 (MQ below (sd_Qv D cy ad A S') args s 0 0 A) (F0 m 11 ls [])) : ∀ (n : Nat) (x1 : Int32) (x2 : Int32) (x3 : Int32) (x4 : Int32) (S : sd_St) (H : Heap) (locs : List Loc) (ls : Array Slot), f_X12_findEvents_l48 q11 n x1 x2 x3 x4 S = some ((), S') → sd_H D cy ad A s S H locs → lv_has ls 5 [(0, .ref (ad 130)), (1, .int x1), (2, .int x2), (3, .int x3), (4, .int x4)] → W p l e (sd_rm 3) s m args below meth c H locs 0 0 (MQ below (sd_Qv D cy ad A S') args s 0 0 A) (F0 m 48 ls []) := by
  obtain ⟨hx, hb, -, hml, hown, hts, -, hG⟩ := id C
  intro n
  induction n with
  | zero => intro x1 x2 x3 x4 S H locs ls h; cases h
  | succ n ih =>
    intro x1 x2 x3 x4 S H locs ls h X hl
    unfold f_X12_findEvents_l48 at h
    refine lv_iload hx hb dX12_findEvents_48 (lv_at hl 4 rfl) ?_
    refine lv_aload_n hx hb dX12_findEvents_50 rfl (lv_at hl 0 rfl) ?_
    obtain ⟨r_2, S_1, er_2, h⟩ := sd_cl_some h
    refine k_X12_people C X hl.1 er_2 sd_w24_18 (by decide) (Nat.le_of_ble_eq_true rfl) dX12_findEvents_51 (fun H locs X => ?_)
    refine lv_icmp_ge (tgt := 109) hx hb dX12_findEvents_54 (by decide) (fun c_3 => ?_) (fun c_3 => ?_)
    · have h := sd_ifp c_3 h
      exact t_X12_findEvents_b109 C hq11 x1 x2 S_1 _ _ _ h X (lv_sub hl [0, 1, 2] rfl)
    · have h := sd_ifn c_3 h
      refine lv_iload_n hx hb dX12_findEvents_57 rfl (lv_at hl 3 rfl) ?_
      refine lv_iload_n hx hb dX12_findEvents_58 rfl (lv_at hl 1 rfl) ?_
      refine lv_icmp_gt (tgt := 109) hx hb dX12_findEvents_59 (by decide) (fun c_4 => ?_) (fun c_4 => ?_)
      · have h := sd_ifp c_4 h
        exact t_X12_findEvents_b109 C hq11 x1 x2 S_1 _ _ _ h X (lv_sub hl [0, 1, 2] rfl)
      · have h := sd_ifn c_4 h
        refine lv_aload_n hx hb dX12_findEvents_62 rfl (lv_at hl 0 rfl) ?_
        refine lv_iload hx hb dX12_findEvents_63 (lv_at hl 4 rfl) ?_
        refine lv_iload_n hx hb dX12_findEvents_65 rfl (lv_at hl 3 rfl) ?_
        obtain ⟨r_6, S_5, er_6, h⟩ := sd_cl_some h
        refine k_X12_isFree C X hl.1 er_6 sd_w27_5 (by decide) (Nat.le_of_ble_eq_true rfl) dX12_findEvents_66 (fun H locs X => ?_)
        refine lv_if_eq (tgt := 103) hx hb dX12_findEvents_69 (by decide) (fun c_7 => ?_) (fun c_7 => ?_)
        · have h := sd_ifp c_7 h
          exact t_X12_findEvents_b103 C hq11 ih x1 x2 x3 x4 S_5 _ _ _ h X (lv_sub hl [0, 1, 2, 3, 4] rfl)
        · have h := sd_ifn c_7 h
          refine lv_aload_n hx hb dX12_findEvents_72 rfl (lv_at hl 0 rfl) ?_
          refine sd_g12_21 (k := 130) C X (by decide) sd_w8_15 dX12_findEvents_73 ?_
          refine lv_aload_n hx hb dX12_findEvents_76 rfl (lv_at hl 0 rfl) ?_
          refine sd_g12_20 C X (by decide) sd_w40_6 dX12_findEvents_77 ?_
          refine lv_iload hx hb dX12_findEvents_80 (lv_at hl 4 rfl) ?_
          obtain ⟨bS_8, S_8, eS_8, h⟩ := sd_st_some h
          refine sd_iast C X (by decide) bS_8 dX12_findEvents_82 (fun H locs X => ?_)
          rw [← eS_8] at X
          refine lv_aload_n hx hb dX12_findEvents_83 rfl (lv_at hl 0 rfl) ?_
          refine sd_g12_22 (k := 130) C X (by decide) sd_w8_16 dX12_findEvents_84 ?_
          refine lv_aload_n hx hb dX12_findEvents_87 rfl (lv_at hl 0 rfl) ?_
          refine sd_g12_20 C X (by decide) sd_w40_6 dX12_findEvents_88 ?_
          refine lv_iload_n hx hb dX12_findEvents_91 rfl (lv_at hl 3 rfl) ?_
          obtain ⟨bS_9, S_9, eS_9, h⟩ := sd_st_some h
          refine sd_iast C X (by decide) bS_9 dX12_findEvents_92 (fun H locs X => ?_)
          rw [← eS_9] at X
          refine lv_aload_n hx hb dX12_findEvents_93 rfl (lv_at hl 0 rfl) ?_
          refine lv_dup hx hb dX12_findEvents_94 rfl ?_
          refine sd_g12_20 C X (by decide) sd_w40_6 dX12_findEvents_95 ?_
          refine lv_iconst (v := (1 : Int32)) hx hb dX12_findEvents_98 (by decide) ?_
          refine lv_iadd hx hb dX12_findEvents_99 ?_
          obtain ⟨S_10, eS_10, h⟩ := sd_nm_some h
          refine sd_p12_20 C X (by decide) sd_w40_6 dX12_findEvents_100 (fun H locs X => ?_)
          rw [← eS_10] at X
          exact t_X12_findEvents_b103 C hq11 ih x1 x2 x3 x4 S_10 _ _ _ h X (lv_sub hl [0, 1, 2, 3, 4] rfl)
def f_X12_findEvents_l11 : Nat → Int32 → Int32 → sd_St → Option (Unit × sd_St)
  | 0 => fun _ _ _ => none
  | n + 1 => fun x1 x2 S => (if ((12 : Int32) * (S.1 130 16)) ≤ x2 then (some ((), S)) else sd_nz (S.1 130 16) (sd_nz (S.1 130 16) (sd_ld S 139 (sd_rem x2 (S.1 130 16)) (fun v_14 => sd_nm ((((366 : Int32) * (x2 / (S.1 130 16))) + v_14)) (fun v_15 => f_X12_findEvents_l48 (f_X12_findEvents_l11 n) sd_FU x1 x2 v_15 (0 : Int32) S)))))
set_option maxHeartbeats 4000000 in
set_option maxRecDepth 100000 in
theorem t_X12_findEvents_l11 (C : sd_C RX12 cX12_findEvents 5 none D cy ad A b0 p s m args meth c) {S' : sd_St} : ∀ (n : Nat) (x1 : Int32) (x2 : Int32) (S : sd_St) (H : Heap) (locs : List Loc) (ls : Array Slot), f_X12_findEvents_l11 n x1 x2 S = some ((), S') → sd_H D cy ad A s S H locs → lv_has ls 5 [(0, .ref (ad 130)), (1, .int x1), (2, .int x2)] → W p l e (sd_rm 3) s m args below meth c H locs 0 0 (MQ below (sd_Qv D cy ad A S') args s 0 0 A) (F0 m 11 ls []) := by
  obtain ⟨hx, hb, -, hml, hown, hts, -, hG⟩ := id C
  intro n
  induction n with
  | zero => intro x1 x2 S H locs ls h; cases h
  | succ n ih =>
    intro x1 x2 S H locs ls h X hl
    unfold f_X12_findEvents_l11 at h
    refine lv_iload_n hx hb dX12_findEvents_11 rfl (lv_at hl 2 rfl) ?_
    refine lv_bipush (v := (12 : Int32)) hx hb dX12_findEvents_12 (by decide) ?_
    refine lv_aload_n hx hb dX12_findEvents_14 rfl (lv_at hl 0 rfl) ?_
    refine sd_g12_16 C X (by decide) sd_w32_15 dX12_findEvents_15 ?_
    refine lv_imul hx hb dX12_findEvents_18 ?_
    refine lv_icmp_ge (tgt := 115) hx hb dX12_findEvents_19 (by decide) (fun c_11 => ?_) (fun c_11 => ?_)
    · have h := sd_ifp c_11 h
      cases h
      exact sd_vret C X dX12_findEvents_115
    · have h := sd_ifn c_11 h
      refine lv_sipush (v := (366 : Int32)) hx hb dX12_findEvents_22 (by decide) ?_
      refine lv_iload_n hx hb dX12_findEvents_25 rfl (lv_at hl 2 rfl) ?_
      refine lv_aload_n hx hb dX12_findEvents_26 rfl (lv_at hl 0 rfl) ?_
      refine sd_g12_16 C X (by decide) sd_w32_15 dX12_findEvents_27 ?_
      obtain ⟨c_12, h⟩ := sd_nz_some h
      refine lv_idiv hx hb dX12_findEvents_30 c_12 ?_
      refine lv_imul hx hb dX12_findEvents_31 ?_
      refine lv_aload_n hx hb dX12_findEvents_32 rfl (lv_at hl 0 rfl) ?_
      refine sd_g12_15 (k := 130) C X (by decide) sd_w8_11 dX12_findEvents_33 ?_
      refine lv_iload_n hx hb dX12_findEvents_36 rfl (lv_at hl 2 rfl) ?_
      refine lv_aload_n hx hb dX12_findEvents_37 rfl (lv_at hl 0 rfl) ?_
      refine sd_g12_16 C X (by decide) sd_w32_15 dX12_findEvents_38 ?_
      obtain ⟨c_13, h⟩ := sd_nz_some h
      refine lv_irem hx hb dX12_findEvents_41 c_13 ?_
      obtain ⟨b_14, v_14, e_14, h⟩ := sd_ld_some h
      refine sd_iald C X (by decide) b_14 dX12_findEvents_42 (sd_nmi e_14 ?_)
      refine lv_iadd hx hb dX12_findEvents_43 ?_
      obtain ⟨v_15, e_15, h⟩ := sd_nm_some h
      refine sd_nmi e_15 ?_
      refine lv_istore_n (lv' := [(3, .int v_15), (0, .ref (ad 130)), (1, .int x1), (2, .int x2)]) hx hb dX12_findEvents_44 rfl hl (by decide) rfl (fun ls hl => ?_)
      refine lv_iconst (v := (0 : Int32)) hx hb dX12_findEvents_45 (by decide) ?_
      refine lv_istore (lv' := [(4, .int (0 : Int32)), (3, .int v_15), (0, .ref (ad 130)), (1, .int x1), (2, .int x2)]) hx hb dX12_findEvents_46 hl (by decide) rfl (fun ls hl => ?_)
      exact t_X12_findEvents_l48 C ih sd_FU x1 x2 v_15 (0 : Int32) S _ _ _ h X (lv_sub hl [2, 3, 4, 1, 0] rfl)
def f_X12_findEvents (x1 : Int32) (S : sd_St) : Option (Unit × sd_St) := sd_nm (sd_I S 130 20 (0 : Int32)) (fun S_16 => sd_cl (f_X12_findDays S_16) (fun _ S_17 => f_X12_findEvents_l11 sd_FU x1 (0 : Int32) S_17))
set_option maxHeartbeats 4000000 in
set_option maxRecDepth 100000 in
theorem c_X12_findEvents {x1 : Int32} {S S' : sd_St} (h : f_X12_findEvents x1 S = some ((), S')) : Met l yX12_findEvents (Cond.code yX12_findEvents cX12_findEvents 5 none :: sd_wl) (sd_rm 3) (sd_P D cy ad A b0 [.ref (ad 130), .int x1] S) (sd_Qv D cy ad A S') 0 0 A := by
  refine sd_met (by decide) (Nat.le_of_ble_eq_true rfl) (fun p e s m args below meth c ls C X hl => ?_)
  obtain ⟨hx, hb, -, hml, hown, hts, -, hG⟩ := id C
  replace C : sd_C RX12 cX12_findEvents 5 none D cy ad A b0 p s m args meth c := C
  replace hl : lv_has ls 5 [(0, .ref (ad 130)), (1, .int x1)] := hl
  unfold f_X12_findEvents at h
  refine lv_aload_n hx hb dX12_findEvents_0 rfl (lv_at hl 0 rfl) ?_
  refine lv_iconst (v := (0 : Int32)) hx hb dX12_findEvents_1 (by decide) ?_
  obtain ⟨S_16, eS_16, h⟩ := sd_nm_some h
  refine sd_p12_20 C X (by decide) sd_w40_6 dX12_findEvents_2 (fun H locs X => ?_)
  rw [← eS_16] at X
  refine lv_aload_n hx hb dX12_findEvents_5 rfl (lv_at hl 0 rfl) ?_
  obtain ⟨r_18, S_17, er_18, h⟩ := sd_cl_some h
  refine k_X12_findDays C X hl.1 er_18 sd_w32_16 (by decide) (Nat.le_of_ble_eq_true rfl) dX12_findEvents_6 (fun H locs X => ?_)
  refine lv_iconst (v := (0 : Int32)) hx hb dX12_findEvents_9 (by decide) ?_
  refine lv_istore_n (lv' := [(2, .int (0 : Int32)), (0, .ref (ad 130)), (1, .int x1)]) hx hb dX12_findEvents_10 rfl hl (by decide) rfl (fun ls hl => ?_)
  exact t_X12_findEvents_l11 C sd_FU x1 (0 : Int32) S_17 _ _ _ h X (lv_sub hl [1, 2, 0] rfl)
theorem k_X12_findEvents (C : sd_C own cc nL rt D cy ad A b0 p s m args meth c) (X : sd_H D cy ad A s S H locs) (hls : ls.size = nL) {x1 : Int32} {S2 : sd_St} (h : f_X12_findEvents x1 S = some ((), S2)) (hlink : Cond.methodLink own index yX12_findEvents ∈ sd_wl) (hR : 4 ≤ R.frames ∧ 144 ≤ R.locals ∧ cells ≤ R.cells ∧ slots ≤ R.slots) (hst : (rest.map fun v => v.category).sum ≤ 8) (hdg : decode cc pc = .ok (.invokevirtual index, 3)) (kk : ∀ (H1 : Heap) (locs1 : List Loc), sd_H D cy ad A s S2 H1 locs1 → W p l e R s m args below meth c H1 locs1 cells slots Q (F0 m (pc + 3) ls rest)) : W p l e R s m args below meth c H locs cells slots Q (F0 m pc ls (.int x1 :: .ref (ad 130) :: rest)) :=
  sd_goV X (sd_runV C X hls (n := 1) (k := 130) (As := [.int x1]) (c_X12_findEvents (l := l) (b0 := b0) h) (sd_goodV hlink sd_w40_8 sd_w40_9 sd_w1_5 sd_w40_10) (ci := 12) rfl (by rw [(show sd_kd 130 = 12 by decide)]; decide) (sd_c12 (show sd_kd 130 = 12 by decide)) (by decide +kernel) rfl hR rfl hst hdg) kk
/-! ===== SecretDaysModel.informs(II)Z ===== -/
def f_X12_informs (x1 : Int32) (x2 : Int32) (S : sd_St) : Option (Int32 × sd_St) := sd_ld S 144 x1 (fun v_1 => sd_ld S 144 x2 (fun v_2 => (if v_2 ≤ v_1 then (some ((0 : Int32), S)) else sd_ld S 143 x2 (fun v_4 => sd_ld S 143 x1 (fun v_5 => sd_cl (f_X12_calls v_4 v_5 S) (fun r_7 S_6 => (if r_7 = 0 then (some ((0 : Int32), S_6)) else sd_ld S_6 143 x2 (fun v_9 => sd_ld S_6 144 x1 (fun v_10 => sd_cl (f_X12_isGone v_9 v_10 S_6) (fun r_12 S_11 => (if r_12 = 0 then (some ((1 : Int32), S_11)) else (some ((0 : Int32), S_11)))))))))))))
set_option maxHeartbeats 4000000 in
set_option maxRecDepth 100000 in
theorem c_X12_informs {x1 : Int32} {x2 : Int32} {S S' : sd_St} {r : Int32} (h : f_X12_informs x1 x2 S = some (r, S')) : Met l yX12_informs (Cond.code yX12_informs cX12_informs 3 (some .boolean) :: sd_wl) (sd_rm 2) (sd_P D cy ad A b0 [.ref (ad 130), .int x1, .int x2] S) (sd_Qi D cy ad A r S') 0 0 A := by
  refine sd_met (by decide) (Nat.le_of_ble_eq_true rfl) (fun p e s m args below meth c ls C X hl => ?_)
  obtain ⟨hx, hb, -, hml, hown, hts, -, hG⟩ := id C
  replace C : sd_C RX12 cX12_informs 3 (some .boolean) D cy ad A b0 p s m args meth c := C
  replace hl : lv_has ls 3 [(0, .ref (ad 130)), (1, .int x1), (2, .int x2)] := hl
  unfold f_X12_informs at h
  refine lv_aload_n hx hb dX12_informs_0 rfl (lv_at hl 0 rfl) ?_
  refine sd_g12_22 (k := 130) C X (by decide) sd_w8_16 dX12_informs_1 ?_
  refine lv_iload_n hx hb dX12_informs_4 rfl (lv_at hl 1 rfl) ?_
  obtain ⟨b_1, v_1, e_1, h⟩ := sd_ld_some h
  refine sd_iald C X (by decide) b_1 dX12_informs_5 (sd_nmi e_1 ?_)
  refine lv_aload_n hx hb dX12_informs_6 rfl (lv_at hl 0 rfl) ?_
  refine sd_g12_22 (k := 130) C X (by decide) sd_w8_16 dX12_informs_7 ?_
  refine lv_iload_n hx hb dX12_informs_10 rfl (lv_at hl 2 rfl) ?_
  obtain ⟨b_2, v_2, e_2, h⟩ := sd_ld_some h
  refine sd_iald C X (by decide) b_2 dX12_informs_11 (sd_nmi e_2 ?_)
  refine lv_icmp_ge (tgt := 57) hx hb dX12_informs_12 (by decide) (fun c_3 => ?_) (fun c_3 => ?_)
  · have h := sd_ifp c_3 h
    refine lv_iconst (v := (0 : Int32)) hx hb dX12_informs_57 (by decide) ?_
    cases h
    exact sd_zret C X (by decide) dX12_informs_58
  · have h := sd_ifn c_3 h
    refine lv_aload_n hx hb dX12_informs_15 rfl (lv_at hl 0 rfl) ?_
    refine lv_aload_n hx hb dX12_informs_16 rfl (lv_at hl 0 rfl) ?_
    refine sd_g12_21 (k := 130) C X (by decide) sd_w8_15 dX12_informs_17 ?_
    refine lv_iload_n hx hb dX12_informs_20 rfl (lv_at hl 2 rfl) ?_
    obtain ⟨b_4, v_4, e_4, h⟩ := sd_ld_some h
    refine sd_iald C X (by decide) b_4 dX12_informs_21 (sd_nmi e_4 ?_)
    refine lv_aload_n hx hb dX12_informs_22 rfl (lv_at hl 0 rfl) ?_
    refine sd_g12_21 (k := 130) C X (by decide) sd_w8_15 dX12_informs_23 ?_
    refine lv_iload_n hx hb dX12_informs_26 rfl (lv_at hl 1 rfl) ?_
    obtain ⟨b_5, v_5, e_5, h⟩ := sd_ld_some h
    refine sd_iald C X (by decide) b_5 dX12_informs_27 (sd_nmi e_5 ?_)
    obtain ⟨r_7, S_6, er_7, h⟩ := sd_cl_some h
    refine k_X12_calls C X hl.1 er_7 sd_w25_1 (by decide) (Nat.le_of_ble_eq_true rfl) dX12_informs_28 (fun H locs X => ?_)
    refine lv_if_eq (tgt := 57) hx hb dX12_informs_31 (by decide) (fun c_8 => ?_) (fun c_8 => ?_)
    · have h := sd_ifp c_8 h
      refine lv_iconst (v := (0 : Int32)) hx hb dX12_informs_57 (by decide) ?_
      cases h
      exact sd_zret C X (by decide) dX12_informs_58
    · have h := sd_ifn c_8 h
      refine lv_aload_n hx hb dX12_informs_34 rfl (lv_at hl 0 rfl) ?_
      refine lv_aload_n hx hb dX12_informs_35 rfl (lv_at hl 0 rfl) ?_
      refine sd_g12_21 (k := 130) C X (by decide) sd_w8_15 dX12_informs_36 ?_
      refine lv_iload_n hx hb dX12_informs_39 rfl (lv_at hl 2 rfl) ?_
      obtain ⟨b_9, v_9, e_9, h⟩ := sd_ld_some h
      refine sd_iald C X (by decide) b_9 dX12_informs_40 (sd_nmi e_9 ?_)
      refine lv_aload_n hx hb dX12_informs_41 rfl (lv_at hl 0 rfl) ?_
      refine sd_g12_22 (k := 130) C X (by decide) sd_w8_16 dX12_informs_42 ?_
      refine lv_iload_n hx hb dX12_informs_45 rfl (lv_at hl 1 rfl) ?_
      obtain ⟨b_10, v_10, e_10, h⟩ := sd_ld_some h
      refine sd_iald C X (by decide) b_10 dX12_informs_46 (sd_nmi e_10 ?_)
      obtain ⟨r_12, S_11, er_12, h⟩ := sd_cl_some h
      refine k_X12_isGone C X hl.1 er_12 sd_w27_17 (by decide) (Nat.le_of_ble_eq_true rfl) dX12_informs_47 (fun H locs X => ?_)
      refine lv_if_ne (tgt := 57) hx hb dX12_informs_50 (by decide) (fun c_13 => ?_) (fun c_13 => ?_)
      · have h := sd_ifn c_13 h
        refine lv_iconst (v := (0 : Int32)) hx hb dX12_informs_57 (by decide) ?_
        cases h
        exact sd_zret C X (by decide) dX12_informs_58
      · have h := sd_ifp c_13 h
        refine lv_iconst (v := (1 : Int32)) hx hb dX12_informs_53 (by decide) ?_
        refine lv_goto (tgt := 58) hx hb dX12_informs_54 (by decide) ?_
        cases h
        exact sd_zret C X (by decide) dX12_informs_58
theorem k_X12_informs (C : sd_C own cc nL rt D cy ad A b0 p s m args meth c) (X : sd_H D cy ad A s S H locs) (hls : ls.size = nL) {x1 : Int32} {x2 : Int32} {S2 : sd_St} {r : Int32} (h : f_X12_informs x1 x2 S = some (r, S2)) (hlink : Cond.methodLink own index yX12_informs ∈ sd_wl) (hR : 3 ≤ R.frames ∧ 102 ≤ R.locals ∧ cells ≤ R.cells ∧ slots ≤ R.slots) (hst : (rest.map fun v => v.category).sum ≤ 8) (hdg : decode cc pc = .ok (.invokevirtual index, 3)) (kk : ∀ (H1 : Heap) (locs1 : List Loc), sd_H D cy ad A s S2 H1 locs1 → W p l e R s m args below meth c H1 locs1 cells slots Q (F0 m (pc + 3) ls (.int r :: rest))) : W p l e R s m args below meth c H locs cells slots Q (F0 m pc ls (.int x2 :: .int x1 :: .ref (ad 130) :: rest)) :=
  sd_goI X (sd_runV C X hls (n := 2) (k := 130) (As := [.int x1, .int x2]) (c_X12_informs (l := l) (b0 := b0) h) (sd_goodV hlink sd_w40_21 sd_w40_22 sd_w1_5 sd_w40_23) (ci := 12) rfl (by rw [(show sd_kd 130 = 12 by decide)]; decide) (sd_c12 (show sd_kd 130 = 12 by decide)) (by decide +kernel) rfl hR rfl hst hdg) kk
/-! ===== SecretDaysModel.meets(II)V ===== -/
def f_X12_meets (x1 : Int32) (x2 : Int32) (S : sd_St) : Option (Unit × sd_St) := sd_ld S 148 x1 (fun v_1 => (if v_1 = (-1 : Int32) then sd_st S 148 x1 x2 (fun S_3 => sd_st S_3 149 (S_3.1 130 28) x1 (fun S_4 => sd_nm (sd_I S_4 130 28 ((S_4.1 130 28) + (1 : Int32))) (fun S_5 => (some ((), S_5))))) else (some ((), S))))
set_option maxHeartbeats 4000000 in
set_option maxRecDepth 100000 in
theorem c_X12_meets {x1 : Int32} {x2 : Int32} {S S' : sd_St} (h : f_X12_meets x1 x2 S = some ((), S')) : Met l yX12_meets (Cond.code yX12_meets cX12_meets 3 none :: sd_wl) (sd_rm 0) (sd_P D cy ad A b0 [.ref (ad 130), .int x1, .int x2] S) (sd_Qv D cy ad A S') 0 0 A := by
  refine sd_met (by decide) (Nat.le_of_ble_eq_true rfl) (fun p e s m args below meth c ls C X hl => ?_)
  obtain ⟨hx, hb, -, hml, hown, hts, -, hG⟩ := id C
  replace C : sd_C RX12 cX12_meets 3 none D cy ad A b0 p s m args meth c := C
  replace hl : lv_has ls 3 [(0, .ref (ad 130)), (1, .int x1), (2, .int x2)] := hl
  unfold f_X12_meets at h
  refine lv_aload_n hx hb dX12_meets_0 rfl (lv_at hl 0 rfl) ?_
  refine sd_g12_26 (k := 130) C X (by decide) sd_w8_20 dX12_meets_1 ?_
  refine lv_iload_n hx hb dX12_meets_4 rfl (lv_at hl 1 rfl) ?_
  obtain ⟨b_1, v_1, e_1, h⟩ := sd_ld_some h
  refine sd_iald C X (by decide) b_1 dX12_meets_5 (sd_nmi e_1 ?_)
  refine lv_iconst (v := (-1 : Int32)) hx hb dX12_meets_6 (by decide) ?_
  refine lv_icmp_ne (tgt := 37) hx hb dX12_meets_7 (by decide) (fun c_2 => ?_) (fun c_2 => ?_)
  · have h := sd_ifn c_2 h
    cases h
    exact sd_vret C X dX12_meets_37
  · have h := sd_ifp c_2 h
    refine lv_aload_n hx hb dX12_meets_10 rfl (lv_at hl 0 rfl) ?_
    refine sd_g12_26 (k := 130) C X (by decide) sd_w8_20 dX12_meets_11 ?_
    refine lv_iload_n hx hb dX12_meets_14 rfl (lv_at hl 1 rfl) ?_
    refine lv_iload_n hx hb dX12_meets_15 rfl (lv_at hl 2 rfl) ?_
    obtain ⟨bS_3, S_3, eS_3, h⟩ := sd_st_some h
    refine sd_iast C X (by decide) bS_3 dX12_meets_16 (fun H locs X => ?_)
    rw [← eS_3] at X
    refine lv_aload_n hx hb dX12_meets_17 rfl (lv_at hl 0 rfl) ?_
    refine sd_g12_27 (k := 130) C X (by decide) sd_w8_21 dX12_meets_18 ?_
    refine lv_aload_n hx hb dX12_meets_21 rfl (lv_at hl 0 rfl) ?_
    refine sd_g12_28 C X (by decide) sd_w40_15 dX12_meets_22 ?_
    refine lv_iload_n hx hb dX12_meets_25 rfl (lv_at hl 1 rfl) ?_
    obtain ⟨bS_4, S_4, eS_4, h⟩ := sd_st_some h
    refine sd_iast C X (by decide) bS_4 dX12_meets_26 (fun H locs X => ?_)
    rw [← eS_4] at X
    refine lv_aload_n hx hb dX12_meets_27 rfl (lv_at hl 0 rfl) ?_
    refine lv_dup hx hb dX12_meets_28 rfl ?_
    refine sd_g12_28 C X (by decide) sd_w40_15 dX12_meets_29 ?_
    refine lv_iconst (v := (1 : Int32)) hx hb dX12_meets_32 (by decide) ?_
    refine lv_iadd hx hb dX12_meets_33 ?_
    obtain ⟨S_5, eS_5, h⟩ := sd_nm_some h
    refine sd_p12_28 C X (by decide) sd_w40_15 dX12_meets_34 (fun H locs X => ?_)
    rw [← eS_5] at X
    cases h
    exact sd_vret C X dX12_meets_37
theorem k_X12_meets (C : sd_C own cc nL rt D cy ad A b0 p s m args meth c) (X : sd_H D cy ad A s S H locs) (hls : ls.size = nL) {x1 : Int32} {x2 : Int32} {S2 : sd_St} (h : f_X12_meets x1 x2 S = some ((), S2)) (hlink : Cond.methodLink own index yX12_meets ∈ sd_wl) (hR : 1 ≤ R.frames ∧ 22 ≤ R.locals ∧ cells ≤ R.cells ∧ slots ≤ R.slots) (hst : (rest.map fun v => v.category).sum ≤ 8) (hdg : decode cc pc = .ok (.invokevirtual index, 3)) (kk : ∀ (H1 : Heap) (locs1 : List Loc), sd_H D cy ad A s S2 H1 locs1 → W p l e R s m args below meth c H1 locs1 cells slots Q (F0 m (pc + 3) ls rest)) : W p l e R s m args below meth c H locs cells slots Q (F0 m pc ls (.int x2 :: .int x1 :: .ref (ad 130) :: rest)) :=
  sd_goV X (sd_runV C X hls (n := 2) (k := 130) (As := [.int x1, .int x2]) (c_X12_meets (l := l) (b0 := b0) h) (sd_goodV hlink sd_w40_17 sd_w40_18 sd_w1_5 sd_w40_19) (ci := 12) rfl (by rw [(show sd_kd 130 = 12 by decide)]; decide) (sd_c12 (show sd_kd 130 = 12 by decide)) (by decide +kernel) rfl hR rfl hst hdg) kk
/-! ===== SecretDaysModel.findWay(III)I ===== -/
def f_X12_findWay_b89 (q36 : (Int32 → Int32 → Int32 → Int32 → sd_St → Option (Int32 × sd_St))) (x1 : Int32) (x2 : Int32) (x3 : Int32) (x4 : Int32) (S : sd_St) : Option (Int32 × sd_St) := q36 x1 x2 x3 (x4 + (1 : Int32)) S
set_option maxHeartbeats 4000000 in
set_option maxRecDepth 100000 in
theorem t_X12_findWay_b89 (C : sd_C RX12 cX12_findWay 7 (some .int) D cy ad A b0 p s m args meth c) {r : Int32} {S' : sd_St} {q36 : (Int32 → Int32 → Int32 → Int32 → sd_St → Option (Int32 × sd_St))} (hq36 : ∀ (x1 : Int32) (x2 : Int32) (x3 : Int32) (x4 : Int32) (S : sd_St) (H : Heap) (locs : List Loc) (ls : Array Slot), q36 x1 x2 x3 x4 S = some (r, S') → sd_H D cy ad A s S H locs → lv_has ls 7 [(0, .ref (ad 130)), (1, .int x1), (2, .int x2), (3, .int x3), (4, .int x4)] → W p l e (sd_rm 3) s m args below meth c H locs 0 0 (MQ below (sd_Qi D cy ad A r S') args s 0 0 A) (F0 m 36 ls [])) : ∀ (x1 : Int32) (x2 : Int32) (x3 : Int32) (x4 : Int32) (S : sd_St) (H : Heap) (locs : List Loc) (ls : Array Slot), f_X12_findWay_b89 q36 x1 x2 x3 x4 S = some (r, S') → sd_H D cy ad A s S H locs → lv_has ls 7 [(0, .ref (ad 130)), (1, .int x1), (2, .int x2), (3, .int x3), (4, .int x4)] → W p l e (sd_rm 3) s m args below meth c H locs 0 0 (MQ below (sd_Qi D cy ad A r S') args s 0 0 A) (F0 m 89 ls []) := by
  obtain ⟨hx, hb, -, hml, hown, hts, -, hG⟩ := id C
  intro x1 x2 x3 x4 S H locs ls h X hl
  unfold f_X12_findWay_b89 at h
  refine lv_iinc (v := (x4 + (1 : Int32))) (lv' := [(4, .int (x4 + (1 : Int32))), (0, .ref (ad 130)), (1, .int x1), (2, .int x2), (3, .int x3)]) hx hb dX12_findWay_89 hl (k := 4) rfl rfl (by decide) rfl (fun ls hl => ?_)
  refine lv_goto (tgt := 36) hx hb dX12_findWay_92 (by decide) ?_
  exact hq36 x1 x2 x3 (x4 + (1 : Int32)) S _ _ _ h X (lv_sub hl [1, 2, 3, 4, 0] rfl)
def f_X12_findWay_b336 (q98 : (Int32 → Int32 → sd_St → Option (Int32 × sd_St))) (x3 : Int32) (x4 : Int32) (S : sd_St) : Option (Int32 × sd_St) := q98 x3 (x4 + (1 : Int32)) S
set_option maxHeartbeats 4000000 in
set_option maxRecDepth 100000 in
theorem t_X12_findWay_b336 (C : sd_C RX12 cX12_findWay 7 (some .int) D cy ad A b0 p s m args meth c) {r : Int32} {S' : sd_St} {q98 : (Int32 → Int32 → sd_St → Option (Int32 × sd_St))} (hq98 : ∀ (x3 : Int32) (x4 : Int32) (S : sd_St) (H : Heap) (locs : List Loc) (ls : Array Slot), q98 x3 x4 S = some (r, S') → sd_H D cy ad A s S H locs → lv_has ls 7 [(0, .ref (ad 130)), (3, .int x3), (4, .int x4)] → W p l e (sd_rm 3) s m args below meth c H locs 0 0 (MQ below (sd_Qi D cy ad A r S') args s 0 0 A) (F0 m 98 ls [])) : ∀ (x3 : Int32) (x4 : Int32) (S : sd_St) (H : Heap) (locs : List Loc) (ls : Array Slot), f_X12_findWay_b336 q98 x3 x4 S = some (r, S') → sd_H D cy ad A s S H locs → lv_has ls 7 [(0, .ref (ad 130)), (3, .int x3), (4, .int x4)] → W p l e (sd_rm 3) s m args below meth c H locs 0 0 (MQ below (sd_Qi D cy ad A r S') args s 0 0 A) (F0 m 336 ls []) := by
  obtain ⟨hx, hb, -, hml, hown, hts, -, hG⟩ := id C
  intro x3 x4 S H locs ls h X hl
  unfold f_X12_findWay_b336 at h
  refine lv_iinc (v := (x4 + (1 : Int32))) (lv' := [(4, .int (x4 + (1 : Int32))), (0, .ref (ad 130)), (3, .int x3)]) hx hb dX12_findWay_336 hl (k := 2) rfl rfl (by decide) rfl (fun ls hl => ?_)
  refine lv_goto (tgt := 98) hx hb dX12_findWay_339 (by decide) ?_
  exact hq98 x3 (x4 + (1 : Int32)) S _ _ _ h X (lv_sub hl [1, 2, 0] rfl)
def f_X12_findWay_b157 (q98 : (Int32 → Int32 → sd_St → Option (Int32 × sd_St))) (x3 : Int32) (x4 : Int32) (x5 : Int32) (S : sd_St) : Option (Int32 × sd_St) := sd_ld S 145 x5 (fun v_1 => (if v_1 = 0 then f_X12_findWay_b336 q98 x3 x4 S else sd_ld S 147 x5 (fun v_3 => (if v_3 < 0 then f_X12_findWay_b336 q98 x3 x4 S else sd_ld S 147 x5 (fun v_5 => sd_ld S 149 x4 (fun v_6 => sd_cl (f_X12_meets (((2 : Int32) * v_5) + (1 : Int32)) v_6 S) (fun _ S_7 => f_X12_findWay_b336 q98 x3 x4 S_7)))))))
set_option maxHeartbeats 4000000 in
set_option maxRecDepth 100000 in
theorem t_X12_findWay_b157 (C : sd_C RX12 cX12_findWay 7 (some .int) D cy ad A b0 p s m args meth c) {r : Int32} {S' : sd_St} {q98 : (Int32 → Int32 → sd_St → Option (Int32 × sd_St))} (hq98 : ∀ (x3 : Int32) (x4 : Int32) (S : sd_St) (H : Heap) (locs : List Loc) (ls : Array Slot), q98 x3 x4 S = some (r, S') → sd_H D cy ad A s S H locs → lv_has ls 7 [(0, .ref (ad 130)), (3, .int x3), (4, .int x4)] → W p l e (sd_rm 3) s m args below meth c H locs 0 0 (MQ below (sd_Qi D cy ad A r S') args s 0 0 A) (F0 m 98 ls [])) : ∀ (x3 : Int32) (x4 : Int32) (x5 : Int32) (S : sd_St) (H : Heap) (locs : List Loc) (ls : Array Slot), f_X12_findWay_b157 q98 x3 x4 x5 S = some (r, S') → sd_H D cy ad A s S H locs → lv_has ls 7 [(0, .ref (ad 130)), (3, .int x3), (4, .int x4), (5, .int x5)] → W p l e (sd_rm 3) s m args below meth c H locs 0 0 (MQ below (sd_Qi D cy ad A r S') args s 0 0 A) (F0 m 157 ls []) := by
  obtain ⟨hx, hb, -, hml, hown, hts, -, hG⟩ := id C
  intro x3 x4 x5 S H locs ls h X hl
  unfold f_X12_findWay_b157 at h
  refine lv_aload_n hx hb dX12_findWay_157 rfl (lv_at hl 0 rfl) ?_
  refine sd_g12_23 (k := 130) C X (by decide) sd_w8_17 dX12_findWay_158 ?_
  refine lv_iload hx hb dX12_findWay_161 (lv_at hl 3 rfl) ?_
  obtain ⟨b_1, v_1, e_1, h⟩ := sd_ld_some h
  refine sd_zald C X (by decide) b_1 dX12_findWay_163 (sd_nmi e_1 ?_)
  refine lv_if_eq (tgt := 336) hx hb dX12_findWay_164 (by decide) (fun c_2 => ?_) (fun c_2 => ?_)
  · have h := sd_ifp c_2 h
    exact t_X12_findWay_b336 C hq98 x3 x4 S _ _ _ h X (lv_sub hl [0, 1, 2] rfl)
  · have h := sd_ifn c_2 h
    refine lv_aload_n hx hb dX12_findWay_167 rfl (lv_at hl 0 rfl) ?_
    refine sd_g12_25 (k := 130) C X (by decide) sd_w8_19 dX12_findWay_168 ?_
    refine lv_iload hx hb dX12_findWay_171 (lv_at hl 3 rfl) ?_
    obtain ⟨b_3, v_3, e_3, h⟩ := sd_ld_some h
    refine sd_iald C X (by decide) b_3 dX12_findWay_173 (sd_nmi e_3 ?_)
    refine lv_if_lt (tgt := 336) hx hb dX12_findWay_174 (by decide) (fun c_4 => ?_) (fun c_4 => ?_)
    · have h := sd_ifp c_4 h
      exact t_X12_findWay_b336 C hq98 x3 x4 S _ _ _ h X (lv_sub hl [0, 1, 2] rfl)
    · have h := sd_ifn c_4 h
      refine lv_aload_n hx hb dX12_findWay_177 rfl (lv_at hl 0 rfl) ?_
      refine lv_iconst (v := (2 : Int32)) hx hb dX12_findWay_178 (by decide) ?_
      refine lv_aload_n hx hb dX12_findWay_179 rfl (lv_at hl 0 rfl) ?_
      refine sd_g12_25 (k := 130) C X (by decide) sd_w8_19 dX12_findWay_180 ?_
      refine lv_iload hx hb dX12_findWay_183 (lv_at hl 3 rfl) ?_
      obtain ⟨b_5, v_5, e_5, h⟩ := sd_ld_some h
      refine sd_iald C X (by decide) b_5 dX12_findWay_185 (sd_nmi e_5 ?_)
      refine lv_imul hx hb dX12_findWay_186 ?_
      refine lv_iconst (v := (1 : Int32)) hx hb dX12_findWay_187 (by decide) ?_
      refine lv_iadd hx hb dX12_findWay_188 ?_
      refine lv_aload_n hx hb dX12_findWay_189 rfl (lv_at hl 0 rfl) ?_
      refine sd_g12_27 (k := 130) C X (by decide) sd_w8_21 dX12_findWay_190 ?_
      refine lv_iload hx hb dX12_findWay_193 (lv_at hl 2 rfl) ?_
      obtain ⟨b_6, v_6, e_6, h⟩ := sd_ld_some h
      refine sd_iald C X (by decide) b_6 dX12_findWay_195 (sd_nmi e_6 ?_)
      obtain ⟨r_8, S_7, er_8, h⟩ := sd_cl_some h
      refine k_X12_meets C X hl.1 er_8 sd_w40_16 (by decide) (Nat.le_of_ble_eq_true rfl) dX12_findWay_196 (fun H locs X => ?_)
      refine lv_goto (tgt := 336) hx hb dX12_findWay_199 (by decide) ?_
      exact t_X12_findWay_b336 C hq98 x3 x4 S_7 _ _ _ h X (lv_sub hl [0, 1, 2] rfl)
def f_X12_findWay_b305 (q98 : (Int32 → Int32 → sd_St → Option (Int32 × sd_St))) (q258 : (Int32 → Int32 → Int32 → Int32 → sd_St → Option (Int32 × sd_St))) (x3 : Int32) (x4 : Int32) (x5 : Int32) (x6 : Int32) (S : sd_St) : Option (Int32 × sd_St) := q258 x3 x4 x5 (x6 + (1 : Int32)) S
set_option maxHeartbeats 4000000 in
set_option maxRecDepth 100000 in
theorem t_X12_findWay_b305 (C : sd_C RX12 cX12_findWay 7 (some .int) D cy ad A b0 p s m args meth c) {r : Int32} {S' : sd_St} {q98 : (Int32 → Int32 → sd_St → Option (Int32 × sd_St))} {q258 : (Int32 → Int32 → Int32 → Int32 → sd_St → Option (Int32 × sd_St))} (hq98 : ∀ (x3 : Int32) (x4 : Int32) (S : sd_St) (H : Heap) (locs : List Loc) (ls : Array Slot), q98 x3 x4 S = some (r, S') → sd_H D cy ad A s S H locs → lv_has ls 7 [(0, .ref (ad 130)), (3, .int x3), (4, .int x4)] → W p l e (sd_rm 3) s m args below meth c H locs 0 0 (MQ below (sd_Qi D cy ad A r S') args s 0 0 A) (F0 m 98 ls [])) (hq258 : ∀ (x3 : Int32) (x4 : Int32) (x5 : Int32) (x6 : Int32) (S : sd_St) (H : Heap) (locs : List Loc) (ls : Array Slot), q258 x3 x4 x5 x6 S = some (r, S') → sd_H D cy ad A s S H locs → lv_has ls 7 [(0, .ref (ad 130)), (3, .int x3), (4, .int x4), (5, .int x5), (6, .int x6)] → W p l e (sd_rm 3) s m args below meth c H locs 0 0 (MQ below (sd_Qi D cy ad A r S') args s 0 0 A) (F0 m 258 ls [])) : ∀ (x3 : Int32) (x4 : Int32) (x5 : Int32) (x6 : Int32) (S : sd_St) (H : Heap) (locs : List Loc) (ls : Array Slot), f_X12_findWay_b305 q98 q258 x3 x4 x5 x6 S = some (r, S') → sd_H D cy ad A s S H locs → lv_has ls 7 [(0, .ref (ad 130)), (3, .int x3), (4, .int x4), (5, .int x5), (6, .int x6)] → W p l e (sd_rm 3) s m args below meth c H locs 0 0 (MQ below (sd_Qi D cy ad A r S') args s 0 0 A) (F0 m 305 ls []) := by
  obtain ⟨hx, hb, -, hml, hown, hts, -, hG⟩ := id C
  intro x3 x4 x5 x6 S H locs ls h X hl
  unfold f_X12_findWay_b305 at h
  refine lv_iinc (v := (x6 + (1 : Int32))) (lv' := [(6, .int (x6 + (1 : Int32))), (0, .ref (ad 130)), (3, .int x3), (4, .int x4), (5, .int x5)]) hx hb dX12_findWay_305 hl (k := 4) rfl rfl (by decide) rfl (fun ls hl => ?_)
  refine lv_goto (tgt := 258) hx hb dX12_findWay_308 (by decide) ?_
  exact hq258 x3 x4 x5 (x6 + (1 : Int32)) S _ _ _ h X (lv_sub hl [1, 2, 3, 4, 0] rfl)
def f_X12_findWay_l258 (q98 : (Int32 → Int32 → sd_St → Option (Int32 × sd_St))) : Nat → Int32 → Int32 → Int32 → Int32 → sd_St → Option (Int32 × sd_St)
  | 0 => fun _ _ _ _ _ => none
  | n + 1 => fun x3 x4 x5 x6 S => (if (S.1 130 20) ≤ x6 then sd_ld S 145 x5 (fun v_10 => (if v_10 = 0 then f_X12_findWay_b336 q98 x3 x4 S else sd_ld S 149 x4 (fun v_12 => sd_cl (f_X12_meets ((2 : Int32) * x5) v_12 S) (fun _ S_13 => f_X12_findWay_b336 q98 x3 x4 S_13)))) else sd_ld S 146 x5 (fun v_15 => (if v_15 = x6 then f_X12_findWay_b305 q98 (f_X12_findWay_l258 q98 n) x3 x4 x5 x6 S else sd_cl (f_X12_informs x5 x6 S) (fun r_18 S_17 => (if r_18 = 0 then f_X12_findWay_b305 q98 (f_X12_findWay_l258 q98 n) x3 x4 x5 x6 S_17 else sd_ld S_17 149 x4 (fun v_20 => sd_cl (f_X12_meets ((2 : Int32) * x6) v_20 S_17) (fun _ S_21 => f_X12_findWay_b305 q98 (f_X12_findWay_l258 q98 n) x3 x4 x5 x6 S_21)))))))
set_option maxHeartbeats 4000000 in
set_option maxRecDepth 100000 in
theorem t_X12_findWay_l258 (C : sd_C RX12 cX12_findWay 7 (some .int) D cy ad A b0 p s m args meth c) {r : Int32} {S' : sd_St} {q98 : (Int32 → Int32 → sd_St → Option (Int32 × sd_St))} (hq98 : ∀ (x3 : Int32) (x4 : Int32) (S : sd_St) (H : Heap) (locs : List Loc) (ls : Array Slot), q98 x3 x4 S = some (r, S') → sd_H D cy ad A s S H locs → lv_has ls 7 [(0, .ref (ad 130)), (3, .int x3), (4, .int x4)] → W p l e (sd_rm 3) s m args below meth c H locs 0 0 (MQ below (sd_Qi D cy ad A r S') args s 0 0 A) (F0 m 98 ls [])) : ∀ (n : Nat) (x3 : Int32) (x4 : Int32) (x5 : Int32) (x6 : Int32) (S : sd_St) (H : Heap) (locs : List Loc) (ls : Array Slot), f_X12_findWay_l258 q98 n x3 x4 x5 x6 S = some (r, S') → sd_H D cy ad A s S H locs → lv_has ls 7 [(0, .ref (ad 130)), (3, .int x3), (4, .int x4), (5, .int x5), (6, .int x6)] → W p l e (sd_rm 3) s m args below meth c H locs 0 0 (MQ below (sd_Qi D cy ad A r S') args s 0 0 A) (F0 m 258 ls []) := by
  obtain ⟨hx, hb, -, hml, hown, hts, -, hG⟩ := id C
  intro n
  induction n with
  | zero => intro x3 x4 x5 x6 S H locs ls h; cases h
  | succ n ih =>
    intro x3 x4 x5 x6 S H locs ls h X hl
    unfold f_X12_findWay_l258 at h
    refine lv_iload hx hb dX12_findWay_258 (lv_at hl 4 rfl) ?_
    refine lv_aload_n hx hb dX12_findWay_260 rfl (lv_at hl 0 rfl) ?_
    refine sd_g12_20 C X (by decide) sd_w40_6 dX12_findWay_261 ?_
    refine lv_icmp_ge (tgt := 311) hx hb dX12_findWay_264 (by decide) (fun c_9 => ?_) (fun c_9 => ?_)
    · have h := sd_ifp c_9 h
      refine lv_aload_n hx hb dX12_findWay_311 rfl (lv_at hl 0 rfl) ?_
      refine sd_g12_23 (k := 130) C X (by decide) sd_w8_17 dX12_findWay_312 ?_
      refine lv_iload hx hb dX12_findWay_315 (lv_at hl 3 rfl) ?_
      obtain ⟨b_10, v_10, e_10, h⟩ := sd_ld_some h
      refine sd_zald C X (by decide) b_10 dX12_findWay_317 (sd_nmi e_10 ?_)
      refine lv_if_eq (tgt := 336) hx hb dX12_findWay_318 (by decide) (fun c_11 => ?_) (fun c_11 => ?_)
      · have h := sd_ifp c_11 h
        exact t_X12_findWay_b336 C hq98 x3 x4 S _ _ _ h X (lv_sub hl [0, 1, 2] rfl)
      · have h := sd_ifn c_11 h
        refine lv_aload_n hx hb dX12_findWay_321 rfl (lv_at hl 0 rfl) ?_
        refine lv_iconst (v := (2 : Int32)) hx hb dX12_findWay_322 (by decide) ?_
        refine lv_iload hx hb dX12_findWay_323 (lv_at hl 3 rfl) ?_
        refine lv_imul hx hb dX12_findWay_325 ?_
        refine lv_aload_n hx hb dX12_findWay_326 rfl (lv_at hl 0 rfl) ?_
        refine sd_g12_27 (k := 130) C X (by decide) sd_w8_21 dX12_findWay_327 ?_
        refine lv_iload hx hb dX12_findWay_330 (lv_at hl 2 rfl) ?_
        obtain ⟨b_12, v_12, e_12, h⟩ := sd_ld_some h
        refine sd_iald C X (by decide) b_12 dX12_findWay_332 (sd_nmi e_12 ?_)
        obtain ⟨r_14, S_13, er_14, h⟩ := sd_cl_some h
        refine k_X12_meets C X hl.1 er_14 sd_w40_16 (by decide) (Nat.le_of_ble_eq_true rfl) dX12_findWay_333 (fun H locs X => ?_)
        exact t_X12_findWay_b336 C hq98 x3 x4 S_13 _ _ _ h X (lv_sub hl [0, 1, 2] rfl)
    · have h := sd_ifn c_9 h
      refine lv_aload_n hx hb dX12_findWay_267 rfl (lv_at hl 0 rfl) ?_
      refine sd_g12_24 (k := 130) C X (by decide) sd_w8_18 dX12_findWay_268 ?_
      refine lv_iload hx hb dX12_findWay_271 (lv_at hl 3 rfl) ?_
      obtain ⟨b_15, v_15, e_15, h⟩ := sd_ld_some h
      refine sd_iald C X (by decide) b_15 dX12_findWay_273 (sd_nmi e_15 ?_)
      refine lv_iload hx hb dX12_findWay_274 (lv_at hl 4 rfl) ?_
      refine lv_icmp_eq (tgt := 305) hx hb dX12_findWay_276 (by decide) (fun c_16 => ?_) (fun c_16 => ?_)
      · have h := sd_ifp c_16 h
        exact t_X12_findWay_b305 C hq98 ih x3 x4 x5 x6 S _ _ _ h X (lv_sub hl [0, 1, 2, 3, 4] rfl)
      · have h := sd_ifn c_16 h
        refine lv_aload_n hx hb dX12_findWay_279 rfl (lv_at hl 0 rfl) ?_
        refine lv_iload hx hb dX12_findWay_280 (lv_at hl 3 rfl) ?_
        refine lv_iload hx hb dX12_findWay_282 (lv_at hl 4 rfl) ?_
        obtain ⟨r_18, S_17, er_18, h⟩ := sd_cl_some h
        refine k_X12_informs C X hl.1 er_18 sd_w40_20 (by decide) (Nat.le_of_ble_eq_true rfl) dX12_findWay_284 (fun H locs X => ?_)
        refine lv_if_eq (tgt := 305) hx hb dX12_findWay_287 (by decide) (fun c_19 => ?_) (fun c_19 => ?_)
        · have h := sd_ifp c_19 h
          exact t_X12_findWay_b305 C hq98 ih x3 x4 x5 x6 S_17 _ _ _ h X (lv_sub hl [0, 1, 2, 3, 4] rfl)
        · have h := sd_ifn c_19 h
          refine lv_aload_n hx hb dX12_findWay_290 rfl (lv_at hl 0 rfl) ?_
          refine lv_iconst (v := (2 : Int32)) hx hb dX12_findWay_291 (by decide) ?_
          refine lv_iload hx hb dX12_findWay_292 (lv_at hl 4 rfl) ?_
          refine lv_imul hx hb dX12_findWay_294 ?_
          refine lv_aload_n hx hb dX12_findWay_295 rfl (lv_at hl 0 rfl) ?_
          refine sd_g12_27 (k := 130) C X (by decide) sd_w8_21 dX12_findWay_296 ?_
          refine lv_iload hx hb dX12_findWay_299 (lv_at hl 2 rfl) ?_
          obtain ⟨b_20, v_20, e_20, h⟩ := sd_ld_some h
          refine sd_iald C X (by decide) b_20 dX12_findWay_301 (sd_nmi e_20 ?_)
          obtain ⟨r_22, S_21, er_22, h⟩ := sd_cl_some h
          refine k_X12_meets C X hl.1 er_22 sd_w40_16 (by decide) (Nat.le_of_ble_eq_true rfl) dX12_findWay_302 (fun H locs X => ?_)
          exact t_X12_findWay_b305 C hq98 ih x3 x4 x5 x6 S_21 _ _ _ h X (lv_sub hl [0, 1, 2, 3, 4] rfl)
def f_X12_findWay_b252 (q98 : (Int32 → Int32 → sd_St → Option (Int32 × sd_St))) (x3 : Int32) (x4 : Int32) (x5 : Int32) (S : sd_St) : Option (Int32 × sd_St) := f_X12_findWay_l258 q98 sd_FU x3 x4 x5 (x5 + (1 : Int32)) S
set_option maxHeartbeats 4000000 in
set_option maxRecDepth 100000 in
theorem t_X12_findWay_b252 (C : sd_C RX12 cX12_findWay 7 (some .int) D cy ad A b0 p s m args meth c) {r : Int32} {S' : sd_St} {q98 : (Int32 → Int32 → sd_St → Option (Int32 × sd_St))} (hq98 : ∀ (x3 : Int32) (x4 : Int32) (S : sd_St) (H : Heap) (locs : List Loc) (ls : Array Slot), q98 x3 x4 S = some (r, S') → sd_H D cy ad A s S H locs → lv_has ls 7 [(0, .ref (ad 130)), (3, .int x3), (4, .int x4)] → W p l e (sd_rm 3) s m args below meth c H locs 0 0 (MQ below (sd_Qi D cy ad A r S') args s 0 0 A) (F0 m 98 ls [])) : ∀ (x3 : Int32) (x4 : Int32) (x5 : Int32) (S : sd_St) (H : Heap) (locs : List Loc) (ls : Array Slot), f_X12_findWay_b252 q98 x3 x4 x5 S = some (r, S') → sd_H D cy ad A s S H locs → lv_has ls 7 [(0, .ref (ad 130)), (3, .int x3), (4, .int x4), (5, .int x5)] → W p l e (sd_rm 3) s m args below meth c H locs 0 0 (MQ below (sd_Qi D cy ad A r S') args s 0 0 A) (F0 m 252 ls []) := by
  obtain ⟨hx, hb, -, hml, hown, hts, -, hG⟩ := id C
  intro x3 x4 x5 S H locs ls h X hl
  unfold f_X12_findWay_b252 at h
  refine lv_iload hx hb dX12_findWay_252 (lv_at hl 3 rfl) ?_
  refine lv_iconst (v := (1 : Int32)) hx hb dX12_findWay_254 (by decide) ?_
  refine lv_iadd hx hb dX12_findWay_255 ?_
  refine lv_istore (lv' := [(6, .int (x5 + (1 : Int32))), (0, .ref (ad 130)), (3, .int x3), (4, .int x4), (5, .int x5)]) hx hb dX12_findWay_256 hl (by decide) rfl (fun ls hl => ?_)
  exact t_X12_findWay_l258 C hq98 sd_FU x3 x4 x5 (x5 + (1 : Int32)) S _ _ _ h X (lv_sub hl [1, 2, 3, 4, 0] rfl)
def f_X12_findWay_l98 : Nat → Int32 → Int32 → sd_St → Option (Int32 × sd_St)
  | 0 => fun _ _ _ => none
  | n + 1 => fun x3 x4 S => (if (S.1 130 28) ≤ x4 then (some ((-1 : Int32), S)) else sd_ld S 149 x4 (fun v_24 => sd_nm ((v_24 / (2 : Int32))) (fun v_25 => sd_ld S 149 x4 (fun v_26 => (if (sd_rem v_26 (2 : Int32)) = 0 then sd_ld S 145 v_25 (fun v_39 => (if v_39 = 0 then sd_ld S 149 x4 (fun v_41 => sd_cl (f_X12_meets (((2 : Int32) * v_25) + (1 : Int32)) v_41 S) (fun _ S_42 => f_X12_findWay_b157 (f_X12_findWay_l98 n) x3 x4 v_25 S_42)) else f_X12_findWay_b157 (f_X12_findWay_l98 n) x3 x4 v_25 S)) else sd_ld S 146 v_25 (fun v_28 => (if v_28 = (-3 : Int32) then f_X12_findWay_b252 (f_X12_findWay_l98 n) x3 x4 v_25 S else sd_ld S 143 v_25 (fun v_30 => sd_cl (f_X12_calls x3 v_30 S) (fun r_32 S_31 => (if r_32 = 0 then f_X12_findWay_b252 (f_X12_findWay_l98 n) x3 x4 v_25 S_31 else sd_ld S_31 144 v_25 (fun v_34 => sd_cl (f_X12_isGone x3 v_34 S_31) (fun r_36 S_35 => (if r_36 = 0 then sd_ld S_35 149 x4 (fun v_38 => (some (v_38, S_35))) else f_X12_findWay_b252 (f_X12_findWay_l98 n) x3 x4 v_25 S_35)))))))))))))
set_option maxHeartbeats 4000000 in
set_option maxRecDepth 100000 in
theorem t_X12_findWay_l98 (C : sd_C RX12 cX12_findWay 7 (some .int) D cy ad A b0 p s m args meth c) {r : Int32} {S' : sd_St} : ∀ (n : Nat) (x3 : Int32) (x4 : Int32) (S : sd_St) (H : Heap) (locs : List Loc) (ls : Array Slot), f_X12_findWay_l98 n x3 x4 S = some (r, S') → sd_H D cy ad A s S H locs → lv_has ls 7 [(0, .ref (ad 130)), (3, .int x3), (4, .int x4)] → W p l e (sd_rm 3) s m args below meth c H locs 0 0 (MQ below (sd_Qi D cy ad A r S') args s 0 0 A) (F0 m 98 ls []) := by
  obtain ⟨hx, hb, -, hml, hown, hts, -, hG⟩ := id C
  intro n
  induction n with
  | zero => intro x3 x4 S H locs ls h; cases h
  | succ n ih =>
    intro x3 x4 S H locs ls h X hl
    unfold f_X12_findWay_l98 at h
    refine lv_iload hx hb dX12_findWay_98 (lv_at hl 2 rfl) ?_
    refine lv_aload_n hx hb dX12_findWay_100 rfl (lv_at hl 0 rfl) ?_
    refine sd_g12_28 C X (by decide) sd_w40_15 dX12_findWay_101 ?_
    refine lv_icmp_ge (tgt := 342) hx hb dX12_findWay_104 (by decide) (fun c_23 => ?_) (fun c_23 => ?_)
    · have h := sd_ifp c_23 h
      refine lv_iconst (v := (-1 : Int32)) hx hb dX12_findWay_342 (by decide) ?_
      cases h
      exact sd_iret C X dX12_findWay_343
    · have h := sd_ifn c_23 h
      refine lv_aload_n hx hb dX12_findWay_107 rfl (lv_at hl 0 rfl) ?_
      refine sd_g12_27 (k := 130) C X (by decide) sd_w8_21 dX12_findWay_108 ?_
      refine lv_iload hx hb dX12_findWay_111 (lv_at hl 2 rfl) ?_
      obtain ⟨b_24, v_24, e_24, h⟩ := sd_ld_some h
      refine sd_iald C X (by decide) b_24 dX12_findWay_113 (sd_nmi e_24 ?_)
      refine lv_iconst (v := (2 : Int32)) hx hb dX12_findWay_114 (by decide) ?_
      refine lv_idiv hx hb dX12_findWay_115 (by decide) ?_
      obtain ⟨v_25, e_25, h⟩ := sd_nm_some h
      refine sd_nmi e_25 ?_
      refine lv_istore (lv' := [(5, .int v_25), (0, .ref (ad 130)), (3, .int x3), (4, .int x4)]) hx hb dX12_findWay_116 hl (by decide) rfl (fun ls hl => ?_)
      refine lv_aload_n hx hb dX12_findWay_118 rfl (lv_at hl 1 rfl) ?_
      refine sd_g12_27 (k := 130) C X (by decide) sd_w8_21 dX12_findWay_119 ?_
      refine lv_iload hx hb dX12_findWay_122 (lv_at hl 3 rfl) ?_
      obtain ⟨b_26, v_26, e_26, h⟩ := sd_ld_some h
      refine sd_iald C X (by decide) b_26 dX12_findWay_124 (sd_nmi e_26 ?_)
      refine lv_iconst (v := (2 : Int32)) hx hb dX12_findWay_125 (by decide) ?_
      refine lv_irem hx hb dX12_findWay_126 (by decide) ?_
      refine lv_if_ne (tgt := 202) hx hb dX12_findWay_127 (by decide) (fun c_27 => ?_) (fun c_27 => ?_)
      · have h := sd_ifn c_27 h
        refine lv_aload_n hx hb dX12_findWay_202 rfl (lv_at hl 1 rfl) ?_
        refine sd_g12_24 (k := 130) C X (by decide) sd_w8_18 dX12_findWay_203 ?_
        refine lv_iload hx hb dX12_findWay_206 (lv_at hl 0 rfl) ?_
        obtain ⟨b_28, v_28, e_28, h⟩ := sd_ld_some h
        refine sd_iald C X (by decide) b_28 dX12_findWay_208 (sd_nmi e_28 ?_)
        refine lv_bipush (v := (-3 : Int32)) hx hb dX12_findWay_209 (by decide) ?_
        refine lv_icmp_eq (tgt := 252) hx hb dX12_findWay_211 (by decide) (fun c_29 => ?_) (fun c_29 => ?_)
        · have h := sd_ifp c_29 h
          exact t_X12_findWay_b252 C ih x3 x4 v_25 S _ _ _ h X (lv_sub hl [1, 2, 3, 0] rfl)
        · have h := sd_ifn c_29 h
          refine lv_aload_n hx hb dX12_findWay_214 rfl (lv_at hl 1 rfl) ?_
          refine lv_iload_n hx hb dX12_findWay_215 rfl (lv_at hl 2 rfl) ?_
          refine lv_aload_n hx hb dX12_findWay_216 rfl (lv_at hl 1 rfl) ?_
          refine sd_g12_21 (k := 130) C X (by decide) sd_w8_15 dX12_findWay_217 ?_
          refine lv_iload hx hb dX12_findWay_220 (lv_at hl 0 rfl) ?_
          obtain ⟨b_30, v_30, e_30, h⟩ := sd_ld_some h
          refine sd_iald C X (by decide) b_30 dX12_findWay_222 (sd_nmi e_30 ?_)
          obtain ⟨r_32, S_31, er_32, h⟩ := sd_cl_some h
          refine k_X12_calls C X hl.1 er_32 sd_w25_1 (by decide) (Nat.le_of_ble_eq_true rfl) dX12_findWay_223 (fun H locs X => ?_)
          refine lv_if_eq (tgt := 252) hx hb dX12_findWay_226 (by decide) (fun c_33 => ?_) (fun c_33 => ?_)
          · have h := sd_ifp c_33 h
            exact t_X12_findWay_b252 C ih x3 x4 v_25 S_31 _ _ _ h X (lv_sub hl [1, 2, 3, 0] rfl)
          · have h := sd_ifn c_33 h
            refine lv_aload_n hx hb dX12_findWay_229 rfl (lv_at hl 1 rfl) ?_
            refine lv_iload_n hx hb dX12_findWay_230 rfl (lv_at hl 2 rfl) ?_
            refine lv_aload_n hx hb dX12_findWay_231 rfl (lv_at hl 1 rfl) ?_
            refine sd_g12_22 (k := 130) C X (by decide) sd_w8_16 dX12_findWay_232 ?_
            refine lv_iload hx hb dX12_findWay_235 (lv_at hl 0 rfl) ?_
            obtain ⟨b_34, v_34, e_34, h⟩ := sd_ld_some h
            refine sd_iald C X (by decide) b_34 dX12_findWay_237 (sd_nmi e_34 ?_)
            obtain ⟨r_36, S_35, er_36, h⟩ := sd_cl_some h
            refine k_X12_isGone C X hl.1 er_36 sd_w27_17 (by decide) (Nat.le_of_ble_eq_true rfl) dX12_findWay_238 (fun H locs X => ?_)
            refine lv_if_ne (tgt := 252) hx hb dX12_findWay_241 (by decide) (fun c_37 => ?_) (fun c_37 => ?_)
            · have h := sd_ifn c_37 h
              exact t_X12_findWay_b252 C ih x3 x4 v_25 S_35 _ _ _ h X (lv_sub hl [1, 2, 3, 0] rfl)
            · have h := sd_ifp c_37 h
              refine lv_aload_n hx hb dX12_findWay_244 rfl (lv_at hl 1 rfl) ?_
              refine sd_g12_27 (k := 130) C X (by decide) sd_w8_21 dX12_findWay_245 ?_
              refine lv_iload hx hb dX12_findWay_248 (lv_at hl 3 rfl) ?_
              obtain ⟨b_38, v_38, e_38, h⟩ := sd_ld_some h
              refine sd_iald C X (by decide) b_38 dX12_findWay_250 (sd_nmi e_38 ?_)
              cases h
              exact sd_iret C X dX12_findWay_251
      · have h := sd_ifp c_27 h
        refine lv_aload_n hx hb dX12_findWay_130 rfl (lv_at hl 1 rfl) ?_
        refine sd_g12_23 (k := 130) C X (by decide) sd_w8_17 dX12_findWay_131 ?_
        refine lv_iload hx hb dX12_findWay_134 (lv_at hl 0 rfl) ?_
        obtain ⟨b_39, v_39, e_39, h⟩ := sd_ld_some h
        refine sd_zald C X (by decide) b_39 dX12_findWay_136 (sd_nmi e_39 ?_)
        refine lv_if_ne (tgt := 157) hx hb dX12_findWay_137 (by decide) (fun c_40 => ?_) (fun c_40 => ?_)
        · have h := sd_ifn c_40 h
          exact t_X12_findWay_b157 C ih x3 x4 v_25 S _ _ _ h X (lv_sub hl [1, 2, 3, 0] rfl)
        · have h := sd_ifp c_40 h
          refine lv_aload_n hx hb dX12_findWay_140 rfl (lv_at hl 1 rfl) ?_
          refine lv_iconst (v := (2 : Int32)) hx hb dX12_findWay_141 (by decide) ?_
          refine lv_iload hx hb dX12_findWay_142 (lv_at hl 0 rfl) ?_
          refine lv_imul hx hb dX12_findWay_144 ?_
          refine lv_iconst (v := (1 : Int32)) hx hb dX12_findWay_145 (by decide) ?_
          refine lv_iadd hx hb dX12_findWay_146 ?_
          refine lv_aload_n hx hb dX12_findWay_147 rfl (lv_at hl 1 rfl) ?_
          refine sd_g12_27 (k := 130) C X (by decide) sd_w8_21 dX12_findWay_148 ?_
          refine lv_iload hx hb dX12_findWay_151 (lv_at hl 3 rfl) ?_
          obtain ⟨b_41, v_41, e_41, h⟩ := sd_ld_some h
          refine sd_iald C X (by decide) b_41 dX12_findWay_153 (sd_nmi e_41 ?_)
          obtain ⟨r_43, S_42, er_43, h⟩ := sd_cl_some h
          refine k_X12_meets C X hl.1 er_43 sd_w40_16 (by decide) (Nat.le_of_ble_eq_true rfl) dX12_findWay_154 (fun H locs X => ?_)
          exact t_X12_findWay_b157 C ih x3 x4 v_25 S_42 _ _ _ h X (lv_sub hl [1, 2, 3, 0] rfl)
def f_X12_findWay_l36 : Nat → Int32 → Int32 → Int32 → Int32 → sd_St → Option (Int32 × sd_St)
  | 0 => fun _ _ _ _ _ => none
  | n + 1 => fun x1 x2 x3 x4 S => (if (S.1 130 20) ≤ x4 then f_X12_findWay_l98 sd_FU x3 (0 : Int32) S else sd_ld S 143 x4 (fun v_45 => (if v_45 = x1 then sd_ld S 144 x4 (fun v_47 => (if v_47 < x2 then f_X12_findWay_b89 (f_X12_findWay_l36 n) x1 x2 x3 x4 S else sd_ld S 147 x4 (fun v_49 => (if v_49 = (-2 : Int32) then f_X12_findWay_b89 (f_X12_findWay_l36 n) x1 x2 x3 x4 S else sd_cl (f_X12_meets ((2 : Int32) * x4) (-2 : Int32) S) (fun _ S_51 => f_X12_findWay_b89 (f_X12_findWay_l36 n) x1 x2 x3 x4 S_51))))) else f_X12_findWay_b89 (f_X12_findWay_l36 n) x1 x2 x3 x4 S)))
set_option maxHeartbeats 4000000 in
set_option maxRecDepth 100000 in
theorem t_X12_findWay_l36 (C : sd_C RX12 cX12_findWay 7 (some .int) D cy ad A b0 p s m args meth c) {r : Int32} {S' : sd_St} : ∀ (n : Nat) (x1 : Int32) (x2 : Int32) (x3 : Int32) (x4 : Int32) (S : sd_St) (H : Heap) (locs : List Loc) (ls : Array Slot), f_X12_findWay_l36 n x1 x2 x3 x4 S = some (r, S') → sd_H D cy ad A s S H locs → lv_has ls 7 [(0, .ref (ad 130)), (1, .int x1), (2, .int x2), (3, .int x3), (4, .int x4)] → W p l e (sd_rm 3) s m args below meth c H locs 0 0 (MQ below (sd_Qi D cy ad A r S') args s 0 0 A) (F0 m 36 ls []) := by
  obtain ⟨hx, hb, -, hml, hown, hts, -, hG⟩ := id C
  intro n
  induction n with
  | zero => intro x1 x2 x3 x4 S H locs ls h; cases h
  | succ n ih =>
    intro x1 x2 x3 x4 S H locs ls h X hl
    unfold f_X12_findWay_l36 at h
    refine lv_iload hx hb dX12_findWay_36 (lv_at hl 4 rfl) ?_
    refine lv_aload_n hx hb dX12_findWay_38 rfl (lv_at hl 0 rfl) ?_
    refine sd_g12_20 C X (by decide) sd_w40_6 dX12_findWay_39 ?_
    refine lv_icmp_ge (tgt := 95) hx hb dX12_findWay_42 (by decide) (fun c_44 => ?_) (fun c_44 => ?_)
    · have h := sd_ifp c_44 h
      refine lv_iconst (v := (0 : Int32)) hx hb dX12_findWay_95 (by decide) ?_
      refine lv_istore (lv' := [(4, .int (0 : Int32)), (0, .ref (ad 130)), (1, .int x1), (2, .int x2), (3, .int x3)]) hx hb dX12_findWay_96 hl (by decide) rfl (fun ls hl => ?_)
      exact t_X12_findWay_l98 C sd_FU x3 (0 : Int32) S _ _ _ h X (lv_sub hl [1, 4, 0] rfl)
    · have h := sd_ifn c_44 h
      refine lv_aload_n hx hb dX12_findWay_45 rfl (lv_at hl 0 rfl) ?_
      refine sd_g12_21 (k := 130) C X (by decide) sd_w8_15 dX12_findWay_46 ?_
      refine lv_iload hx hb dX12_findWay_49 (lv_at hl 4 rfl) ?_
      obtain ⟨b_45, v_45, e_45, h⟩ := sd_ld_some h
      refine sd_iald C X (by decide) b_45 dX12_findWay_51 (sd_nmi e_45 ?_)
      refine lv_iload_n hx hb dX12_findWay_52 rfl (lv_at hl 1 rfl) ?_
      refine lv_icmp_ne (tgt := 89) hx hb dX12_findWay_53 (by decide) (fun c_46 => ?_) (fun c_46 => ?_)
      · have h := sd_ifn c_46 h
        exact t_X12_findWay_b89 C ih x1 x2 x3 x4 S _ _ _ h X (lv_sub hl [0, 1, 2, 3, 4] rfl)
      · have h := sd_ifp c_46 h
        refine lv_aload_n hx hb dX12_findWay_56 rfl (lv_at hl 0 rfl) ?_
        refine sd_g12_22 (k := 130) C X (by decide) sd_w8_16 dX12_findWay_57 ?_
        refine lv_iload hx hb dX12_findWay_60 (lv_at hl 4 rfl) ?_
        obtain ⟨b_47, v_47, e_47, h⟩ := sd_ld_some h
        refine sd_iald C X (by decide) b_47 dX12_findWay_62 (sd_nmi e_47 ?_)
        refine lv_iload_n hx hb dX12_findWay_63 rfl (lv_at hl 2 rfl) ?_
        refine lv_icmp_lt (tgt := 89) hx hb dX12_findWay_64 (by decide) (fun c_48 => ?_) (fun c_48 => ?_)
        · have h := sd_ifp c_48 h
          exact t_X12_findWay_b89 C ih x1 x2 x3 x4 S _ _ _ h X (lv_sub hl [0, 1, 2, 3, 4] rfl)
        · have h := sd_ifn c_48 h
          refine lv_aload_n hx hb dX12_findWay_67 rfl (lv_at hl 0 rfl) ?_
          refine sd_g12_25 (k := 130) C X (by decide) sd_w8_19 dX12_findWay_68 ?_
          refine lv_iload hx hb dX12_findWay_71 (lv_at hl 4 rfl) ?_
          obtain ⟨b_49, v_49, e_49, h⟩ := sd_ld_some h
          refine sd_iald C X (by decide) b_49 dX12_findWay_73 (sd_nmi e_49 ?_)
          refine lv_bipush (v := (-2 : Int32)) hx hb dX12_findWay_74 (by decide) ?_
          refine lv_icmp_eq (tgt := 89) hx hb dX12_findWay_76 (by decide) (fun c_50 => ?_) (fun c_50 => ?_)
          · have h := sd_ifp c_50 h
            exact t_X12_findWay_b89 C ih x1 x2 x3 x4 S _ _ _ h X (lv_sub hl [0, 1, 2, 3, 4] rfl)
          · have h := sd_ifn c_50 h
            refine lv_aload_n hx hb dX12_findWay_79 rfl (lv_at hl 0 rfl) ?_
            refine lv_iconst (v := (2 : Int32)) hx hb dX12_findWay_80 (by decide) ?_
            refine lv_iload hx hb dX12_findWay_81 (lv_at hl 4 rfl) ?_
            refine lv_imul hx hb dX12_findWay_83 ?_
            refine lv_bipush (v := (-2 : Int32)) hx hb dX12_findWay_84 (by decide) ?_
            obtain ⟨r_52, S_51, er_52, h⟩ := sd_cl_some h
            refine k_X12_meets C X hl.1 er_52 sd_w40_16 (by decide) (Nat.le_of_ble_eq_true rfl) dX12_findWay_86 (fun H locs X => ?_)
            exact t_X12_findWay_b89 C ih x1 x2 x3 x4 S_51 _ _ _ h X (lv_sub hl [0, 1, 2, 3, 4] rfl)
def f_X12_findWay_l3 : Nat → Int32 → Int32 → Int32 → Int32 → sd_St → Option (Int32 × sd_St)
  | 0 => fun _ _ _ _ _ => none
  | n + 1 => fun x1 x2 x3 x4 S => (if ((2 : Int32) * (S.1 130 20)) ≤ x4 then sd_nm (sd_I S 130 28 (0 : Int32)) (fun S_54 => f_X12_findWay_l36 sd_FU x1 x2 x3 (0 : Int32) S_54) else sd_st S 148 x4 (-1 : Int32) (fun S_55 => (f_X12_findWay_l3 n) x1 x2 x3 (x4 + (1 : Int32)) S_55))
set_option maxHeartbeats 4000000 in
set_option maxRecDepth 100000 in
theorem t_X12_findWay_l3 (C : sd_C RX12 cX12_findWay 7 (some .int) D cy ad A b0 p s m args meth c) {r : Int32} {S' : sd_St} : ∀ (n : Nat) (x1 : Int32) (x2 : Int32) (x3 : Int32) (x4 : Int32) (S : sd_St) (H : Heap) (locs : List Loc) (ls : Array Slot), f_X12_findWay_l3 n x1 x2 x3 x4 S = some (r, S') → sd_H D cy ad A s S H locs → lv_has ls 7 [(0, .ref (ad 130)), (1, .int x1), (2, .int x2), (3, .int x3), (4, .int x4)] → W p l e (sd_rm 3) s m args below meth c H locs 0 0 (MQ below (sd_Qi D cy ad A r S') args s 0 0 A) (F0 m 3 ls []) := by
  obtain ⟨hx, hb, -, hml, hown, hts, -, hG⟩ := id C
  intro n
  induction n with
  | zero => intro x1 x2 x3 x4 S H locs ls h; cases h
  | succ n ih =>
    intro x1 x2 x3 x4 S H locs ls h X hl
    unfold f_X12_findWay_l3 at h
    refine lv_iload hx hb dX12_findWay_3 (lv_at hl 4 rfl) ?_
    refine lv_iconst (v := (2 : Int32)) hx hb dX12_findWay_5 (by decide) ?_
    refine lv_aload_n hx hb dX12_findWay_6 rfl (lv_at hl 0 rfl) ?_
    refine sd_g12_20 C X (by decide) sd_w40_6 dX12_findWay_7 ?_
    refine lv_imul hx hb dX12_findWay_10 ?_
    refine lv_icmp_ge (tgt := 28) hx hb dX12_findWay_11 (by decide) (fun c_53 => ?_) (fun c_53 => ?_)
    · have h := sd_ifp c_53 h
      refine lv_aload_n hx hb dX12_findWay_28 rfl (lv_at hl 0 rfl) ?_
      refine lv_iconst (v := (0 : Int32)) hx hb dX12_findWay_29 (by decide) ?_
      obtain ⟨S_54, eS_54, h⟩ := sd_nm_some h
      refine sd_p12_28 C X (by decide) sd_w40_15 dX12_findWay_30 (fun H locs X => ?_)
      rw [← eS_54] at X
      refine lv_iconst (v := (0 : Int32)) hx hb dX12_findWay_33 (by decide) ?_
      refine lv_istore (lv' := [(4, .int (0 : Int32)), (0, .ref (ad 130)), (1, .int x1), (2, .int x2), (3, .int x3)]) hx hb dX12_findWay_34 hl (by decide) rfl (fun ls hl => ?_)
      exact t_X12_findWay_l36 C sd_FU x1 x2 x3 (0 : Int32) S_54 _ _ _ h X (lv_sub hl [1, 2, 3, 4, 0] rfl)
    · have h := sd_ifn c_53 h
      refine lv_aload_n hx hb dX12_findWay_14 rfl (lv_at hl 0 rfl) ?_
      refine sd_g12_26 (k := 130) C X (by decide) sd_w8_20 dX12_findWay_15 ?_
      refine lv_iload hx hb dX12_findWay_18 (lv_at hl 4 rfl) ?_
      refine lv_iconst (v := (-1 : Int32)) hx hb dX12_findWay_20 (by decide) ?_
      obtain ⟨bS_55, S_55, eS_55, h⟩ := sd_st_some h
      refine sd_iast C X (by decide) bS_55 dX12_findWay_21 (fun H locs X => ?_)
      rw [← eS_55] at X
      refine lv_iinc (v := (x4 + (1 : Int32))) (lv' := [(4, .int (x4 + (1 : Int32))), (0, .ref (ad 130)), (1, .int x1), (2, .int x2), (3, .int x3)]) hx hb dX12_findWay_22 hl (k := 4) rfl rfl (by decide) rfl (fun ls hl => ?_)
      refine lv_goto (tgt := 3) hx hb dX12_findWay_25 (by decide) ?_
      exact ih x1 x2 x3 (x4 + (1 : Int32)) S_55 _ _ _ h X (lv_sub hl [1, 2, 3, 4, 0] rfl)
def f_X12_findWay (x1 : Int32) (x2 : Int32) (x3 : Int32) (S : sd_St) : Option (Int32 × sd_St) := f_X12_findWay_l3 sd_FU x1 x2 x3 (0 : Int32) S
set_option maxHeartbeats 4000000 in
set_option maxRecDepth 100000 in
theorem c_X12_findWay {x1 : Int32} {x2 : Int32} {x3 : Int32} {S S' : sd_St} {r : Int32} (h : f_X12_findWay x1 x2 x3 S = some (r, S')) : Met l yX12_findWay (Cond.code yX12_findWay cX12_findWay 7 (some .int) :: sd_wl) (sd_rm 3) (sd_P D cy ad A b0 [.ref (ad 130), .int x1, .int x2, .int x3] S) (sd_Qi D cy ad A r S') 0 0 A := by
  refine sd_met (by decide) (Nat.le_of_ble_eq_true rfl) (fun p e s m args below meth c ls C X hl => ?_)
  obtain ⟨hx, hb, -, hml, hown, hts, -, hG⟩ := id C
  replace C : sd_C RX12 cX12_findWay 7 (some .int) D cy ad A b0 p s m args meth c := C
  replace hl : lv_has ls 7 [(0, .ref (ad 130)), (1, .int x1), (2, .int x2), (3, .int x3)] := hl
  unfold f_X12_findWay at h
  refine lv_iconst (v := (0 : Int32)) hx hb dX12_findWay_0 (by decide) ?_
  refine lv_istore (lv' := [(4, .int (0 : Int32)), (0, .ref (ad 130)), (1, .int x1), (2, .int x2), (3, .int x3)]) hx hb dX12_findWay_1 hl (by decide) rfl (fun ls hl => ?_)
  exact t_X12_findWay_l3 C sd_FU x1 x2 x3 (0 : Int32) S _ _ _ h X (lv_sub hl [1, 2, 3, 4, 0] rfl)
theorem k_X12_findWay (C : sd_C own cc nL rt D cy ad A b0 p s m args meth c) (X : sd_H D cy ad A s S H locs) (hls : ls.size = nL) {x1 : Int32} {x2 : Int32} {x3 : Int32} {S2 : sd_St} {r : Int32} (h : f_X12_findWay x1 x2 x3 S = some (r, S2)) (hlink : Cond.methodLink own index yX12_findWay ∈ sd_wl) (hR : 4 ≤ R.frames ∧ 146 ≤ R.locals ∧ cells ≤ R.cells ∧ slots ≤ R.slots) (hst : (rest.map fun v => v.category).sum ≤ 8) (hdg : decode cc pc = .ok (.invokevirtual index, 3)) (kk : ∀ (H1 : Heap) (locs1 : List Loc), sd_H D cy ad A s S2 H1 locs1 → W p l e R s m args below meth c H1 locs1 cells slots Q (F0 m (pc + 3) ls (.int r :: rest))) : W p l e R s m args below meth c H locs cells slots Q (F0 m pc ls (.int x3 :: .int x2 :: .int x1 :: .ref (ad 130) :: rest)) :=
  sd_goI X (sd_runV C X hls (n := 3) (k := 130) (As := [.int x1, .int x2, .int x3]) (c_X12_findWay (l := l) (b0 := b0) h) (sd_goodV hlink sd_w40_12 sd_w40_13 sd_w1_5 sd_w40_14) (ci := 12) rfl (by rw [(show sd_kd 130 = 12 by decide)]; decide) (sd_c12 (show sd_kd 130 = 12 by decide)) (by decide +kernel) rfl hR rfl hst hdg) kk
/-! ===== SecretDaysModel.laysWay(I)V ===== -/
def f_X12_laysWay_b112 (q2 : (Int32 → sd_St → Option (Unit × sd_St))) (x3 : Int32) (S : sd_St) : Option (Unit × sd_St) := q2 x3 S
set_option maxHeartbeats 4000000 in
set_option maxRecDepth 100000 in
theorem t_X12_laysWay_b112 (C : sd_C RX12 cX12_laysWay 5 none D cy ad A b0 p s m args meth c) {S' : sd_St} {q2 : (Int32 → sd_St → Option (Unit × sd_St))} (hq2 : ∀ (x2 : Int32) (S : sd_St) (H : Heap) (locs : List Loc) (ls : Array Slot), q2 x2 S = some ((), S') → sd_H D cy ad A s S H locs → lv_has ls 5 [(0, .ref (ad 130)), (2, .int x2)] → W p l e (sd_rm 0) s m args below meth c H locs 0 0 (MQ below (sd_Qv D cy ad A S') args s 0 0 A) (F0 m 2 ls [])) : ∀ (x3 : Int32) (S : sd_St) (H : Heap) (locs : List Loc) (ls : Array Slot), f_X12_laysWay_b112 q2 x3 S = some ((), S') → sd_H D cy ad A s S H locs → lv_has ls 5 [(0, .ref (ad 130)), (3, .int x3)] → W p l e (sd_rm 0) s m args below meth c H locs 0 0 (MQ below (sd_Qv D cy ad A S') args s 0 0 A) (F0 m 112 ls []) := by
  obtain ⟨hx, hb, -, hml, hown, hts, -, hG⟩ := id C
  intro x3 S H locs ls h X hl
  unfold f_X12_laysWay_b112 at h
  refine lv_iload_n hx hb dX12_laysWay_112 rfl (lv_at hl 1 rfl) ?_
  refine lv_istore_n (lv' := [(2, .int x3), (0, .ref (ad 130)), (3, .int x3)]) hx hb dX12_laysWay_113 rfl hl (by decide) rfl (fun ls hl => ?_)
  refine lv_goto (tgt := 2) hx hb dX12_laysWay_114 (by decide) ?_
  exact hq2 x3 S _ _ _ h X (lv_sub hl [1, 0] rfl)
def f_X12_laysWay_b95 (q2 : (Int32 → sd_St → Option (Unit × sd_St))) (x3 : Int32) (x4 : Int32) (w1 : Int32) (w2 : Int32) (S : sd_St) : Option (Unit × sd_St) := sd_st S 151 w1 w2 (fun S_1 => (if x3 = (-2 : Int32) then f_X12_laysWay_b112 q2 x3 S_1 else sd_st S_1 152 (x3 / (2 : Int32)) x4 (fun S_3 => f_X12_laysWay_b112 q2 x3 S_3)))
set_option maxHeartbeats 4000000 in
set_option maxRecDepth 100000 in
theorem t_X12_laysWay_b95 (C : sd_C RX12 cX12_laysWay 5 none D cy ad A b0 p s m args meth c) {S' : sd_St} {q2 : (Int32 → sd_St → Option (Unit × sd_St))} (hq2 : ∀ (x2 : Int32) (S : sd_St) (H : Heap) (locs : List Loc) (ls : Array Slot), q2 x2 S = some ((), S') → sd_H D cy ad A s S H locs → lv_has ls 5 [(0, .ref (ad 130)), (2, .int x2)] → W p l e (sd_rm 0) s m args below meth c H locs 0 0 (MQ below (sd_Qv D cy ad A S') args s 0 0 A) (F0 m 2 ls [])) : ∀ (x3 : Int32) (x4 : Int32) (w1 : Int32) (w2 : Int32) (S : sd_St) (H : Heap) (locs : List Loc) (ls : Array Slot), f_X12_laysWay_b95 q2 x3 x4 w1 w2 S = some ((), S') → sd_H D cy ad A s S H locs → lv_has ls 5 [(0, .ref (ad 130)), (3, .int x3), (4, .int x4)] → W p l e (sd_rm 0) s m args below meth c H locs 0 0 (MQ below (sd_Qv D cy ad A S') args s 0 0 A) (F0 m 95 ls [.int w2, .int w1, .ref (ad 151)]) := by
  obtain ⟨hx, hb, -, hml, hown, hts, -, hG⟩ := id C
  intro x3 x4 w1 w2 S H locs ls h X hl
  unfold f_X12_laysWay_b95 at h
  obtain ⟨bS_1, S_1, eS_1, h⟩ := sd_st_some h
  refine sd_iast C X (by decide) bS_1 dX12_laysWay_95 (fun H locs X => ?_)
  rw [← eS_1] at X
  refine lv_iload_n hx hb dX12_laysWay_96 rfl (lv_at hl 1 rfl) ?_
  refine lv_bipush (v := (-2 : Int32)) hx hb dX12_laysWay_97 (by decide) ?_
  refine lv_icmp_eq (tgt := 112) hx hb dX12_laysWay_99 (by decide) (fun c_2 => ?_) (fun c_2 => ?_)
  · have h := sd_ifp c_2 h
    exact t_X12_laysWay_b112 C hq2 x3 S_1 _ _ _ h X (lv_sub hl [0, 1] rfl)
  · have h := sd_ifn c_2 h
    refine lv_aload_n hx hb dX12_laysWay_102 rfl (lv_at hl 0 rfl) ?_
    refine sd_g12_31 (k := 130) C X (by decide) sd_w9_0 dX12_laysWay_103 ?_
    refine lv_iload_n hx hb dX12_laysWay_106 rfl (lv_at hl 1 rfl) ?_
    refine lv_iconst (v := (2 : Int32)) hx hb dX12_laysWay_107 (by decide) ?_
    refine lv_idiv hx hb dX12_laysWay_108 (by decide) ?_
    refine lv_iload hx hb dX12_laysWay_109 (lv_at hl 2 rfl) ?_
    obtain ⟨bS_3, S_3, eS_3, h⟩ := sd_st_some h
    refine sd_iast C X (by decide) bS_3 dX12_laysWay_111 (fun H locs X => ?_)
    rw [← eS_3] at X
    exact t_X12_laysWay_b112 C hq2 x3 S_3 _ _ _ h X (lv_sub hl [0, 1] rfl)
def f_X12_laysWay_b69 (q2 : (Int32 → sd_St → Option (Unit × sd_St))) (x2 : Int32) (x3 : Int32) (x4 : Int32) (S : sd_St) : Option (Unit × sd_St) := (if (sd_rem x2 (2 : Int32)) = 0 then (if x3 = (-2 : Int32) then f_X12_laysWay_b95 q2 x3 x4 x4 (-2 : Int32) S else f_X12_laysWay_b95 q2 x3 x4 x4 (x3 / (2 : Int32)) S) else f_X12_laysWay_b112 q2 x3 S)
set_option maxHeartbeats 4000000 in
set_option maxRecDepth 100000 in
theorem t_X12_laysWay_b69 (C : sd_C RX12 cX12_laysWay 5 none D cy ad A b0 p s m args meth c) {S' : sd_St} {q2 : (Int32 → sd_St → Option (Unit × sd_St))} (hq2 : ∀ (x2 : Int32) (S : sd_St) (H : Heap) (locs : List Loc) (ls : Array Slot), q2 x2 S = some ((), S') → sd_H D cy ad A s S H locs → lv_has ls 5 [(0, .ref (ad 130)), (2, .int x2)] → W p l e (sd_rm 0) s m args below meth c H locs 0 0 (MQ below (sd_Qv D cy ad A S') args s 0 0 A) (F0 m 2 ls [])) : ∀ (x2 : Int32) (x3 : Int32) (x4 : Int32) (S : sd_St) (H : Heap) (locs : List Loc) (ls : Array Slot), f_X12_laysWay_b69 q2 x2 x3 x4 S = some ((), S') → sd_H D cy ad A s S H locs → lv_has ls 5 [(0, .ref (ad 130)), (2, .int x2), (3, .int x3), (4, .int x4)] → W p l e (sd_rm 0) s m args below meth c H locs 0 0 (MQ below (sd_Qv D cy ad A S') args s 0 0 A) (F0 m 69 ls []) := by
  obtain ⟨hx, hb, -, hml, hown, hts, -, hG⟩ := id C
  intro x2 x3 x4 S H locs ls h X hl
  unfold f_X12_laysWay_b69 at h
  refine lv_iload_n hx hb dX12_laysWay_69 rfl (lv_at hl 1 rfl) ?_
  refine lv_iconst (v := (2 : Int32)) hx hb dX12_laysWay_70 (by decide) ?_
  refine lv_irem hx hb dX12_laysWay_71 (by decide) ?_
  refine lv_if_ne (tgt := 112) hx hb dX12_laysWay_72 (by decide) (fun c_4 => ?_) (fun c_4 => ?_)
  · have h := sd_ifn c_4 h
    exact t_X12_laysWay_b112 C hq2 x3 S _ _ _ h X (lv_sub hl [0, 2] rfl)
  · have h := sd_ifp c_4 h
    refine lv_aload_n hx hb dX12_laysWay_75 rfl (lv_at hl 0 rfl) ?_
    refine sd_g12_30 (k := 130) C X (by decide) sd_w8_23 dX12_laysWay_76 ?_
    refine lv_iload hx hb dX12_laysWay_79 (lv_at hl 3 rfl) ?_
    refine lv_iload_n hx hb dX12_laysWay_81 rfl (lv_at hl 2 rfl) ?_
    refine lv_bipush (v := (-2 : Int32)) hx hb dX12_laysWay_82 (by decide) ?_
    refine lv_icmp_ne (tgt := 92) hx hb dX12_laysWay_84 (by decide) (fun c_5 => ?_) (fun c_5 => ?_)
    · have h := sd_ifn c_5 h
      refine lv_iload_n hx hb dX12_laysWay_92 rfl (lv_at hl 2 rfl) ?_
      refine lv_iconst (v := (2 : Int32)) hx hb dX12_laysWay_93 (by decide) ?_
      refine lv_idiv hx hb dX12_laysWay_94 (by decide) ?_
      exact t_X12_laysWay_b95 C hq2 x3 x4 x4 (x3 / (2 : Int32)) S _ _ _ h X (lv_sub hl [0, 2, 3] rfl)
    · have h := sd_ifp c_5 h
      refine lv_bipush (v := (-2 : Int32)) hx hb dX12_laysWay_87 (by decide) ?_
      refine lv_goto (tgt := 95) hx hb dX12_laysWay_89 (by decide) ?_
      exact t_X12_laysWay_b95 C hq2 x3 x4 x4 (-2 : Int32) S _ _ _ h X (lv_sub hl [0, 2, 3] rfl)
def f_X12_laysWay_b45 (q2 : (Int32 → sd_St → Option (Unit × sd_St))) (x2 : Int32) (x3 : Int32) (x4 : Int32) (S : sd_St) : Option (Unit × sd_St) := (if (sd_rem x2 (2 : Int32)) = 0 then (if x3 = (x2 + (1 : Int32)) then sd_st S 150 x4 (vp_nar .boolean (0 : Int32)) (fun S_8 => f_X12_laysWay_b112 q2 x3 S_8) else f_X12_laysWay_b69 q2 x2 x3 x4 S) else f_X12_laysWay_b69 q2 x2 x3 x4 S)
set_option maxHeartbeats 4000000 in
set_option maxRecDepth 100000 in
theorem t_X12_laysWay_b45 (C : sd_C RX12 cX12_laysWay 5 none D cy ad A b0 p s m args meth c) {S' : sd_St} {q2 : (Int32 → sd_St → Option (Unit × sd_St))} (hq2 : ∀ (x2 : Int32) (S : sd_St) (H : Heap) (locs : List Loc) (ls : Array Slot), q2 x2 S = some ((), S') → sd_H D cy ad A s S H locs → lv_has ls 5 [(0, .ref (ad 130)), (2, .int x2)] → W p l e (sd_rm 0) s m args below meth c H locs 0 0 (MQ below (sd_Qv D cy ad A S') args s 0 0 A) (F0 m 2 ls [])) : ∀ (x2 : Int32) (x3 : Int32) (x4 : Int32) (S : sd_St) (H : Heap) (locs : List Loc) (ls : Array Slot), f_X12_laysWay_b45 q2 x2 x3 x4 S = some ((), S') → sd_H D cy ad A s S H locs → lv_has ls 5 [(0, .ref (ad 130)), (2, .int x2), (3, .int x3), (4, .int x4)] → W p l e (sd_rm 0) s m args below meth c H locs 0 0 (MQ below (sd_Qv D cy ad A S') args s 0 0 A) (F0 m 45 ls []) := by
  obtain ⟨hx, hb, -, hml, hown, hts, -, hG⟩ := id C
  intro x2 x3 x4 S H locs ls h X hl
  unfold f_X12_laysWay_b45 at h
  refine lv_iload_n hx hb dX12_laysWay_45 rfl (lv_at hl 1 rfl) ?_
  refine lv_iconst (v := (2 : Int32)) hx hb dX12_laysWay_46 (by decide) ?_
  refine lv_irem hx hb dX12_laysWay_47 (by decide) ?_
  refine lv_if_ne (tgt := 69) hx hb dX12_laysWay_48 (by decide) (fun c_6 => ?_) (fun c_6 => ?_)
  · have h := sd_ifn c_6 h
    exact t_X12_laysWay_b69 C hq2 x2 x3 x4 S _ _ _ h X (lv_sub hl [0, 1, 2, 3] rfl)
  · have h := sd_ifp c_6 h
    refine lv_iload_n hx hb dX12_laysWay_51 rfl (lv_at hl 2 rfl) ?_
    refine lv_iload_n hx hb dX12_laysWay_52 rfl (lv_at hl 1 rfl) ?_
    refine lv_iconst (v := (1 : Int32)) hx hb dX12_laysWay_53 (by decide) ?_
    refine lv_iadd hx hb dX12_laysWay_54 ?_
    refine lv_icmp_ne (tgt := 69) hx hb dX12_laysWay_55 (by decide) (fun c_7 => ?_) (fun c_7 => ?_)
    · have h := sd_ifn c_7 h
      exact t_X12_laysWay_b69 C hq2 x2 x3 x4 S _ _ _ h X (lv_sub hl [0, 1, 2, 3] rfl)
    · have h := sd_ifp c_7 h
      refine lv_aload_n hx hb dX12_laysWay_58 rfl (lv_at hl 0 rfl) ?_
      refine sd_g12_29 (k := 130) C X (by decide) sd_w8_22 dX12_laysWay_59 ?_
      refine lv_iload hx hb dX12_laysWay_62 (lv_at hl 3 rfl) ?_
      refine lv_iconst (v := (0 : Int32)) hx hb dX12_laysWay_64 (by decide) ?_
      obtain ⟨bS_8, S_8, eS_8, h⟩ := sd_st_some h
      refine sd_zast C X (by decide) bS_8 dX12_laysWay_65 (fun H locs X => ?_)
      rw [← eS_8] at X
      refine lv_goto (tgt := 112) hx hb dX12_laysWay_66 (by decide) ?_
      exact t_X12_laysWay_b112 C hq2 x3 S_8 _ _ _ h X (lv_sub hl [0, 2] rfl)
def f_X12_laysWay_l2 : Nat → Int32 → sd_St → Option (Unit × sd_St)
  | 0 => fun _ _ => none
  | n + 1 => fun x2 S => (if x2 = (-2 : Int32) then (some ((), S)) else sd_ld S 148 x2 (fun v_10 => sd_nm ((x2 / (2 : Int32))) (fun v_11 => (if (sd_rem x2 (2 : Int32)) = (1 : Int32) then (if v_10 = (x2 - (1 : Int32)) then sd_st S 150 v_11 (vp_nar .boolean (1 : Int32)) (fun S_14 => f_X12_laysWay_b112 (f_X12_laysWay_l2 n) v_10 S_14) else f_X12_laysWay_b45 (f_X12_laysWay_l2 n) x2 v_10 v_11 S) else f_X12_laysWay_b45 (f_X12_laysWay_l2 n) x2 v_10 v_11 S))))
set_option maxHeartbeats 4000000 in
set_option maxRecDepth 100000 in
theorem t_X12_laysWay_l2 (C : sd_C RX12 cX12_laysWay 5 none D cy ad A b0 p s m args meth c) {S' : sd_St} : ∀ (n : Nat) (x2 : Int32) (S : sd_St) (H : Heap) (locs : List Loc) (ls : Array Slot), f_X12_laysWay_l2 n x2 S = some ((), S') → sd_H D cy ad A s S H locs → lv_has ls 5 [(0, .ref (ad 130)), (2, .int x2)] → W p l e (sd_rm 0) s m args below meth c H locs 0 0 (MQ below (sd_Qv D cy ad A S') args s 0 0 A) (F0 m 2 ls []) := by
  obtain ⟨hx, hb, -, hml, hown, hts, -, hG⟩ := id C
  intro n
  induction n with
  | zero => intro x2 S H locs ls h; cases h
  | succ n ih =>
    intro x2 S H locs ls h X hl
    unfold f_X12_laysWay_l2 at h
    refine lv_iload_n hx hb dX12_laysWay_2 rfl (lv_at hl 1 rfl) ?_
    refine lv_bipush (v := (-2 : Int32)) hx hb dX12_laysWay_3 (by decide) ?_
    refine lv_icmp_eq (tgt := 117) hx hb dX12_laysWay_5 (by decide) (fun c_9 => ?_) (fun c_9 => ?_)
    · have h := sd_ifp c_9 h
      cases h
      exact sd_vret C X dX12_laysWay_117
    · have h := sd_ifn c_9 h
      refine lv_aload_n hx hb dX12_laysWay_8 rfl (lv_at hl 0 rfl) ?_
      refine sd_g12_26 (k := 130) C X (by decide) sd_w8_20 dX12_laysWay_9 ?_
      refine lv_iload_n hx hb dX12_laysWay_12 rfl (lv_at hl 1 rfl) ?_
      obtain ⟨b_10, v_10, e_10, h⟩ := sd_ld_some h
      refine sd_iald C X (by decide) b_10 dX12_laysWay_13 (sd_nmi e_10 ?_)
      refine lv_istore_n (lv' := [(3, .int v_10), (0, .ref (ad 130)), (2, .int x2)]) hx hb dX12_laysWay_14 rfl hl (by decide) rfl (fun ls hl => ?_)
      refine lv_iload_n hx hb dX12_laysWay_15 rfl (lv_at hl 2 rfl) ?_
      refine lv_iconst (v := (2 : Int32)) hx hb dX12_laysWay_16 (by decide) ?_
      refine lv_idiv hx hb dX12_laysWay_17 (by decide) ?_
      obtain ⟨v_11, e_11, h⟩ := sd_nm_some h
      refine sd_nmi e_11 ?_
      refine lv_istore (lv' := [(4, .int v_11), (3, .int v_10), (0, .ref (ad 130)), (2, .int x2)]) hx hb dX12_laysWay_18 hl (by decide) rfl (fun ls hl => ?_)
      refine lv_iload_n hx hb dX12_laysWay_20 rfl (lv_at hl 3 rfl) ?_
      refine lv_iconst (v := (2 : Int32)) hx hb dX12_laysWay_21 (by decide) ?_
      refine lv_irem hx hb dX12_laysWay_22 (by decide) ?_
      refine lv_iconst (v := (1 : Int32)) hx hb dX12_laysWay_23 (by decide) ?_
      refine lv_icmp_ne (tgt := 45) hx hb dX12_laysWay_24 (by decide) (fun c_12 => ?_) (fun c_12 => ?_)
      · have h := sd_ifn c_12 h
        exact t_X12_laysWay_b45 C ih x2 v_10 v_11 S _ _ _ h X (lv_sub hl [2, 3, 1, 0] rfl)
      · have h := sd_ifp c_12 h
        refine lv_iload_n hx hb dX12_laysWay_27 rfl (lv_at hl 1 rfl) ?_
        refine lv_iload_n hx hb dX12_laysWay_28 rfl (lv_at hl 3 rfl) ?_
        refine lv_iconst (v := (1 : Int32)) hx hb dX12_laysWay_29 (by decide) ?_
        refine lv_isub hx hb dX12_laysWay_30 ?_
        refine lv_icmp_ne (tgt := 45) hx hb dX12_laysWay_31 (by decide) (fun c_13 => ?_) (fun c_13 => ?_)
        · have h := sd_ifn c_13 h
          exact t_X12_laysWay_b45 C ih x2 v_10 v_11 S _ _ _ h X (lv_sub hl [2, 3, 1, 0] rfl)
        · have h := sd_ifp c_13 h
          refine lv_aload_n hx hb dX12_laysWay_34 rfl (lv_at hl 2 rfl) ?_
          refine sd_g12_29 (k := 130) C X (by decide) sd_w8_22 dX12_laysWay_35 ?_
          refine lv_iload hx hb dX12_laysWay_38 (lv_at hl 0 rfl) ?_
          refine lv_iconst (v := (1 : Int32)) hx hb dX12_laysWay_40 (by decide) ?_
          obtain ⟨bS_14, S_14, eS_14, h⟩ := sd_st_some h
          refine sd_zast C X (by decide) bS_14 dX12_laysWay_41 (fun H locs X => ?_)
          rw [← eS_14] at X
          refine lv_goto (tgt := 112) hx hb dX12_laysWay_42 (by decide) ?_
          exact t_X12_laysWay_b112 C ih v_10 S_14 _ _ _ h X (lv_sub hl [2, 1] rfl)
def f_X12_laysWay (x1 : Int32) (S : sd_St) : Option (Unit × sd_St) := f_X12_laysWay_l2 sd_FU x1 S
set_option maxHeartbeats 4000000 in
set_option maxRecDepth 100000 in
theorem c_X12_laysWay {x1 : Int32} {S S' : sd_St} (h : f_X12_laysWay x1 S = some ((), S')) : Met l yX12_laysWay (Cond.code yX12_laysWay cX12_laysWay 5 none :: sd_wl) (sd_rm 0) (sd_P D cy ad A b0 [.ref (ad 130), .int x1] S) (sd_Qv D cy ad A S') 0 0 A := by
  refine sd_met (by decide) (Nat.le_of_ble_eq_true rfl) (fun p e s m args below meth c ls C X hl => ?_)
  obtain ⟨hx, hb, -, hml, hown, hts, -, hG⟩ := id C
  replace C : sd_C RX12 cX12_laysWay 5 none D cy ad A b0 p s m args meth c := C
  replace hl : lv_has ls 5 [(0, .ref (ad 130)), (1, .int x1)] := hl
  unfold f_X12_laysWay at h
  refine lv_iload_n hx hb dX12_laysWay_0 rfl (lv_at hl 1 rfl) ?_
  refine lv_istore_n (lv' := [(2, .int x1), (0, .ref (ad 130)), (1, .int x1)]) hx hb dX12_laysWay_1 rfl hl (by decide) rfl (fun ls hl => ?_)
  exact t_X12_laysWay_l2 C sd_FU x1 S _ _ _ h X (lv_sub hl [1, 0] rfl)
theorem k_X12_laysWay (C : sd_C own cc nL rt D cy ad A b0 p s m args meth c) (X : sd_H D cy ad A s S H locs) (hls : ls.size = nL) {x1 : Int32} {S2 : sd_St} (h : f_X12_laysWay x1 S = some ((), S2)) (hlink : Cond.methodLink own index yX12_laysWay ∈ sd_wl) (hR : 1 ≤ R.frames ∧ 24 ≤ R.locals ∧ cells ≤ R.cells ∧ slots ≤ R.slots) (hst : (rest.map fun v => v.category).sum ≤ 8) (hdg : decode cc pc = .ok (.invokevirtual index, 3)) (kk : ∀ (H1 : Heap) (locs1 : List Loc), sd_H D cy ad A s S2 H1 locs1 → W p l e R s m args below meth c H1 locs1 cells slots Q (F0 m (pc + 3) ls rest)) : W p l e R s m args below meth c H locs cells slots Q (F0 m pc ls (.int x1 :: .ref (ad 130) :: rest)) :=
  sd_goV X (sd_runV C X hls (n := 1) (k := 130) (As := [.int x1]) (c_X12_laysWay (l := l) (b0 := b0) h) (sd_goodV hlink sd_w41_1 sd_w41_2 sd_w1_5 sd_w41_3) (ci := 12) rfl (by rw [(show sd_kd 130 = 12 by decide)]; decide) (sd_c12 (show sd_kd 130 = 12 by decide)) (by decide +kernel) rfl hR rfl hst hdg) kk
/-! ===== SecretDaysModel.cut(III)I ===== -/
def f_X12_cut_b262 (q99 : (Int32 → Int32 → Int32 → Int32 → sd_St → Option (Int32 × sd_St))) (q184 : (Int32 → Int32 → Int32 → Int32 → sd_St → Option (Int32 × sd_St))) (x1 : Int32) (x2 : Int32) (x4 : Int32) (x6 : Int32) (w1 : Int32) (w2 : Int32) (S : sd_St) : Option (Int32 × sd_St) := sd_st S 146 w1 w2 (fun S_1 => q184 x1 x2 x4 (x6 + (1 : Int32)) S_1)
set_option maxHeartbeats 4000000 in
set_option maxRecDepth 100000 in
theorem t_X12_cut_b262 (C : sd_C RX12 cX12_cut 7 (some .int) D cy ad A b0 p s m args meth c) {r : Int32} {S' : sd_St} {q99 : (Int32 → Int32 → Int32 → Int32 → sd_St → Option (Int32 × sd_St))} {q184 : (Int32 → Int32 → Int32 → Int32 → sd_St → Option (Int32 × sd_St))} (hq99 : ∀ (x1 : Int32) (x2 : Int32) (x4 : Int32) (x5 : Int32) (S : sd_St) (H : Heap) (locs : List Loc) (ls : Array Slot), q99 x1 x2 x4 x5 S = some (r, S') → sd_H D cy ad A s S H locs → lv_has ls 7 [(0, .ref (ad 130)), (1, .int x1), (2, .int x2), (4, .int x4), (5, .int x5)] → W p l e (sd_rm 4) s m args below meth c H locs 0 0 (MQ below (sd_Qi D cy ad A r S') args s 0 0 A) (F0 m 99 ls [])) (hq184 : ∀ (x1 : Int32) (x2 : Int32) (x4 : Int32) (x6 : Int32) (S : sd_St) (H : Heap) (locs : List Loc) (ls : Array Slot), q184 x1 x2 x4 x6 S = some (r, S') → sd_H D cy ad A s S H locs → lv_has ls 7 [(0, .ref (ad 130)), (1, .int x1), (2, .int x2), (4, .int x4), (6, .int x6)] → W p l e (sd_rm 4) s m args below meth c H locs 0 0 (MQ below (sd_Qi D cy ad A r S') args s 0 0 A) (F0 m 184 ls [])) : ∀ (x1 : Int32) (x2 : Int32) (x4 : Int32) (x6 : Int32) (w1 : Int32) (w2 : Int32) (S : sd_St) (H : Heap) (locs : List Loc) (ls : Array Slot), f_X12_cut_b262 q99 q184 x1 x2 x4 x6 w1 w2 S = some (r, S') → sd_H D cy ad A s S H locs → lv_has ls 7 [(0, .ref (ad 130)), (1, .int x1), (2, .int x2), (4, .int x4), (6, .int x6)] → W p l e (sd_rm 4) s m args below meth c H locs 0 0 (MQ below (sd_Qi D cy ad A r S') args s 0 0 A) (F0 m 262 ls [.int w2, .int w1, .ref (ad 146)]) := by
  obtain ⟨hx, hb, -, hml, hown, hts, -, hG⟩ := id C
  intro x1 x2 x4 x6 w1 w2 S H locs ls h X hl
  unfold f_X12_cut_b262 at h
  obtain ⟨bS_1, S_1, eS_1, h⟩ := sd_st_some h
  refine sd_iast C X (by decide) bS_1 dX12_cut_262 (fun H locs X => ?_)
  rw [← eS_1] at X
  refine lv_iinc (v := (x6 + (1 : Int32))) (lv' := [(6, .int (x6 + (1 : Int32))), (0, .ref (ad 130)), (1, .int x1), (2, .int x2), (4, .int x4)]) hx hb dX12_cut_263 hl (k := 4) rfl rfl (by decide) rfl (fun ls hl => ?_)
  refine lv_goto (tgt := 184) hx hb dX12_cut_266 (by decide) ?_
  exact hq184 x1 x2 x4 (x6 + (1 : Int32)) S_1 _ _ _ h X (lv_sub hl [1, 2, 3, 4, 0] rfl)
def f_X12_cut_b234 (q99 : (Int32 → Int32 → Int32 → Int32 → sd_St → Option (Int32 × sd_St))) (q184 : (Int32 → Int32 → Int32 → Int32 → sd_St → Option (Int32 × sd_St))) (x1 : Int32) (x2 : Int32) (x4 : Int32) (x6 : Int32) (w1 : Int32) (w2 : Int32) (S : sd_St) : Option (Int32 × sd_St) := sd_st S 147 w1 w2 (fun S_2 => sd_ld S_2 145 x6 (fun v_3 => (if v_3 = 0 then f_X12_cut_b262 q99 q184 x1 x2 x4 x6 x6 (-1 : Int32) S_2 else sd_ld S_2 152 x6 (fun v_5 => f_X12_cut_b262 q99 q184 x1 x2 x4 x6 x6 v_5 S_2))))
set_option maxHeartbeats 4000000 in
set_option maxRecDepth 100000 in
theorem t_X12_cut_b234 (C : sd_C RX12 cX12_cut 7 (some .int) D cy ad A b0 p s m args meth c) {r : Int32} {S' : sd_St} {q99 : (Int32 → Int32 → Int32 → Int32 → sd_St → Option (Int32 × sd_St))} {q184 : (Int32 → Int32 → Int32 → Int32 → sd_St → Option (Int32 × sd_St))} (hq99 : ∀ (x1 : Int32) (x2 : Int32) (x4 : Int32) (x5 : Int32) (S : sd_St) (H : Heap) (locs : List Loc) (ls : Array Slot), q99 x1 x2 x4 x5 S = some (r, S') → sd_H D cy ad A s S H locs → lv_has ls 7 [(0, .ref (ad 130)), (1, .int x1), (2, .int x2), (4, .int x4), (5, .int x5)] → W p l e (sd_rm 4) s m args below meth c H locs 0 0 (MQ below (sd_Qi D cy ad A r S') args s 0 0 A) (F0 m 99 ls [])) (hq184 : ∀ (x1 : Int32) (x2 : Int32) (x4 : Int32) (x6 : Int32) (S : sd_St) (H : Heap) (locs : List Loc) (ls : Array Slot), q184 x1 x2 x4 x6 S = some (r, S') → sd_H D cy ad A s S H locs → lv_has ls 7 [(0, .ref (ad 130)), (1, .int x1), (2, .int x2), (4, .int x4), (6, .int x6)] → W p l e (sd_rm 4) s m args below meth c H locs 0 0 (MQ below (sd_Qi D cy ad A r S') args s 0 0 A) (F0 m 184 ls [])) : ∀ (x1 : Int32) (x2 : Int32) (x4 : Int32) (x6 : Int32) (w1 : Int32) (w2 : Int32) (S : sd_St) (H : Heap) (locs : List Loc) (ls : Array Slot), f_X12_cut_b234 q99 q184 x1 x2 x4 x6 w1 w2 S = some (r, S') → sd_H D cy ad A s S H locs → lv_has ls 7 [(0, .ref (ad 130)), (1, .int x1), (2, .int x2), (4, .int x4), (6, .int x6)] → W p l e (sd_rm 4) s m args below meth c H locs 0 0 (MQ below (sd_Qi D cy ad A r S') args s 0 0 A) (F0 m 234 ls [.int w2, .int w1, .ref (ad 147)]) := by
  obtain ⟨hx, hb, -, hml, hown, hts, -, hG⟩ := id C
  intro x1 x2 x4 x6 w1 w2 S H locs ls h X hl
  unfold f_X12_cut_b234 at h
  obtain ⟨bS_2, S_2, eS_2, h⟩ := sd_st_some h
  refine sd_iast C X (by decide) bS_2 dX12_cut_234 (fun H locs X => ?_)
  rw [← eS_2] at X
  refine lv_aload_n hx hb dX12_cut_235 rfl (lv_at hl 0 rfl) ?_
  refine sd_g12_24 (k := 130) C X (by decide) sd_w8_18 dX12_cut_236 ?_
  refine lv_iload hx hb dX12_cut_239 (lv_at hl 4 rfl) ?_
  refine lv_aload_n hx hb dX12_cut_241 rfl (lv_at hl 0 rfl) ?_
  refine sd_g12_23 (k := 130) C X (by decide) sd_w8_17 dX12_cut_242 ?_
  refine lv_iload hx hb dX12_cut_245 (lv_at hl 4 rfl) ?_
  obtain ⟨b_3, v_3, e_3, h⟩ := sd_ld_some h
  refine sd_zald C X (by decide) b_3 dX12_cut_247 (sd_nmi e_3 ?_)
  refine lv_if_eq (tgt := 261) hx hb dX12_cut_248 (by decide) (fun c_4 => ?_) (fun c_4 => ?_)
  · have h := sd_ifp c_4 h
    refine lv_iconst (v := (-1 : Int32)) hx hb dX12_cut_261 (by decide) ?_
    exact t_X12_cut_b262 C hq99 hq184 x1 x2 x4 x6 x6 (-1 : Int32) S_2 _ _ _ h X (lv_sub hl [0, 1, 2, 3, 4] rfl)
  · have h := sd_ifn c_4 h
    refine lv_aload_n hx hb dX12_cut_251 rfl (lv_at hl 0 rfl) ?_
    refine sd_g12_31 (k := 130) C X (by decide) sd_w9_0 dX12_cut_252 ?_
    refine lv_iload hx hb dX12_cut_255 (lv_at hl 4 rfl) ?_
    obtain ⟨b_5, v_5, e_5, h⟩ := sd_ld_some h
    refine sd_iald C X (by decide) b_5 dX12_cut_257 (sd_nmi e_5 ?_)
    refine lv_goto (tgt := 262) hx hb dX12_cut_258 (by decide) ?_
    exact t_X12_cut_b262 C hq99 hq184 x1 x2 x4 x6 x6 v_5 S_2 _ _ _ h X (lv_sub hl [0, 1, 2, 3, 4] rfl)
def f_X12_cut_l184 (q99 : (Int32 → Int32 → Int32 → Int32 → sd_St → Option (Int32 × sd_St))) : Nat → Int32 → Int32 → Int32 → Int32 → sd_St → Option (Int32 × sd_St)
  | 0 => fun _ _ _ _ _ => none
  | n + 1 => fun x1 x2 x4 x6 S => (if (S.1 130 20) ≤ x6 then sd_cl (f_X12_beginner x1 S) (fun r_8 S_7 => sd_cl (f_X12_fromOf x1 S_7) (fun r_10 S_9 => sd_cl (f_X12_findWay r_8 r_10 x2 S_9) (fun r_12 S_11 => q99 x1 x2 (x4 + (1 : Int32)) r_12 S_11))) else sd_ld S 150 x6 (fun v_13 => sd_st S 145 x6 (vp_nar .boolean v_13) (fun S_14 => sd_ld S_14 145 x6 (fun v_15 => (if v_15 = 0 then f_X12_cut_b234 q99 (f_X12_cut_l184 q99 n) x1 x2 x4 x6 x6 (-1 : Int32) S_14 else sd_ld S_14 151 x6 (fun v_17 => f_X12_cut_b234 q99 (f_X12_cut_l184 q99 n) x1 x2 x4 x6 x6 v_17 S_14))))))
set_option maxHeartbeats 4000000 in
set_option maxRecDepth 100000 in
theorem t_X12_cut_l184 (C : sd_C RX12 cX12_cut 7 (some .int) D cy ad A b0 p s m args meth c) {r : Int32} {S' : sd_St} {q99 : (Int32 → Int32 → Int32 → Int32 → sd_St → Option (Int32 × sd_St))} (hq99 : ∀ (x1 : Int32) (x2 : Int32) (x4 : Int32) (x5 : Int32) (S : sd_St) (H : Heap) (locs : List Loc) (ls : Array Slot), q99 x1 x2 x4 x5 S = some (r, S') → sd_H D cy ad A s S H locs → lv_has ls 7 [(0, .ref (ad 130)), (1, .int x1), (2, .int x2), (4, .int x4), (5, .int x5)] → W p l e (sd_rm 4) s m args below meth c H locs 0 0 (MQ below (sd_Qi D cy ad A r S') args s 0 0 A) (F0 m 99 ls [])) : ∀ (n : Nat) (x1 : Int32) (x2 : Int32) (x4 : Int32) (x6 : Int32) (S : sd_St) (H : Heap) (locs : List Loc) (ls : Array Slot), f_X12_cut_l184 q99 n x1 x2 x4 x6 S = some (r, S') → sd_H D cy ad A s S H locs → lv_has ls 7 [(0, .ref (ad 130)), (1, .int x1), (2, .int x2), (4, .int x4), (6, .int x6)] → W p l e (sd_rm 4) s m args below meth c H locs 0 0 (MQ below (sd_Qi D cy ad A r S') args s 0 0 A) (F0 m 184 ls []) := by
  obtain ⟨hx, hb, -, hml, hown, hts, -, hG⟩ := id C
  intro n
  induction n with
  | zero => intro x1 x2 x4 x6 S H locs ls h; cases h
  | succ n ih =>
    intro x1 x2 x4 x6 S H locs ls h X hl
    unfold f_X12_cut_l184 at h
    refine lv_iload hx hb dX12_cut_184 (lv_at hl 4 rfl) ?_
    refine lv_aload_n hx hb dX12_cut_186 rfl (lv_at hl 0 rfl) ?_
    refine sd_g12_20 C X (by decide) sd_w40_6 dX12_cut_187 ?_
    refine lv_icmp_ge (tgt := 269) hx hb dX12_cut_190 (by decide) (fun c_6 => ?_) (fun c_6 => ?_)
    · have h := sd_ifp c_6 h
      refine lv_iinc (v := (x4 + (1 : Int32))) (lv' := [(4, .int (x4 + (1 : Int32))), (0, .ref (ad 130)), (1, .int x1), (2, .int x2), (6, .int x6)]) hx hb dX12_cut_269 hl (k := 3) rfl rfl (by decide) rfl (fun ls hl => ?_)
      refine lv_aload_n hx hb dX12_cut_272 rfl (lv_at hl 1 rfl) ?_
      refine lv_aload_n hx hb dX12_cut_273 rfl (lv_at hl 1 rfl) ?_
      refine lv_iload_n hx hb dX12_cut_274 rfl (lv_at hl 2 rfl) ?_
      obtain ⟨r_8, S_7, er_8, h⟩ := sd_cl_some h
      refine k_X12_beginner C X hl.1 er_8 sd_w32_3 (by decide) (Nat.le_of_ble_eq_true rfl) dX12_cut_275 (fun H locs X => ?_)
      refine lv_aload_n hx hb dX12_cut_278 rfl (lv_at hl 1 rfl) ?_
      refine lv_iload_n hx hb dX12_cut_279 rfl (lv_at hl 2 rfl) ?_
      obtain ⟨r_10, S_9, er_10, h⟩ := sd_cl_some h
      refine k_X12_fromOf C X hl.1 er_10 sd_w32_7 (by decide) (Nat.le_of_ble_eq_true rfl) dX12_cut_280 (fun H locs X => ?_)
      refine lv_iload_n hx hb dX12_cut_283 rfl (lv_at hl 3 rfl) ?_
      obtain ⟨r_12, S_11, er_12, h⟩ := sd_cl_some h
      refine k_X12_findWay C X hl.1 er_12 sd_w40_11 (by decide) (Nat.le_of_ble_eq_true rfl) dX12_cut_284 (fun H locs X => ?_)
      refine lv_istore (lv' := [(5, .int r_12), (4, .int (x4 + (1 : Int32))), (0, .ref (ad 130)), (1, .int x1), (2, .int x2), (6, .int x6)]) hx hb dX12_cut_287 hl (by decide) rfl (fun ls hl => ?_)
      refine lv_goto (tgt := 99) hx hb dX12_cut_289 (by decide) ?_
      exact hq99 x1 x2 (x4 + (1 : Int32)) r_12 S_11 _ _ _ h X (lv_sub hl [2, 3, 4, 1, 0] rfl)
    · have h := sd_ifn c_6 h
      refine lv_aload_n hx hb dX12_cut_193 rfl (lv_at hl 0 rfl) ?_
      refine sd_g12_23 (k := 130) C X (by decide) sd_w8_17 dX12_cut_194 ?_
      refine lv_iload hx hb dX12_cut_197 (lv_at hl 4 rfl) ?_
      refine lv_aload_n hx hb dX12_cut_199 rfl (lv_at hl 0 rfl) ?_
      refine sd_g12_29 (k := 130) C X (by decide) sd_w8_22 dX12_cut_200 ?_
      refine lv_iload hx hb dX12_cut_203 (lv_at hl 4 rfl) ?_
      obtain ⟨b_13, v_13, e_13, h⟩ := sd_ld_some h
      refine sd_zald C X (by decide) b_13 dX12_cut_205 (sd_nmi e_13 ?_)
      obtain ⟨bS_14, S_14, eS_14, h⟩ := sd_st_some h
      refine sd_zast C X (by decide) bS_14 dX12_cut_206 (fun H locs X => ?_)
      rw [← eS_14] at X
      refine lv_aload_n hx hb dX12_cut_207 rfl (lv_at hl 0 rfl) ?_
      refine sd_g12_25 (k := 130) C X (by decide) sd_w8_19 dX12_cut_208 ?_
      refine lv_iload hx hb dX12_cut_211 (lv_at hl 4 rfl) ?_
      refine lv_aload_n hx hb dX12_cut_213 rfl (lv_at hl 0 rfl) ?_
      refine sd_g12_23 (k := 130) C X (by decide) sd_w8_17 dX12_cut_214 ?_
      refine lv_iload hx hb dX12_cut_217 (lv_at hl 4 rfl) ?_
      obtain ⟨b_15, v_15, e_15, h⟩ := sd_ld_some h
      refine sd_zald C X (by decide) b_15 dX12_cut_219 (sd_nmi e_15 ?_)
      refine lv_if_eq (tgt := 233) hx hb dX12_cut_220 (by decide) (fun c_16 => ?_) (fun c_16 => ?_)
      · have h := sd_ifp c_16 h
        refine lv_iconst (v := (-1 : Int32)) hx hb dX12_cut_233 (by decide) ?_
        exact t_X12_cut_b234 C hq99 ih x1 x2 x4 x6 x6 (-1 : Int32) S_14 _ _ _ h X (lv_sub hl [0, 1, 2, 3, 4] rfl)
      · have h := sd_ifn c_16 h
        refine lv_aload_n hx hb dX12_cut_223 rfl (lv_at hl 0 rfl) ?_
        refine sd_g12_30 (k := 130) C X (by decide) sd_w8_23 dX12_cut_224 ?_
        refine lv_iload hx hb dX12_cut_227 (lv_at hl 4 rfl) ?_
        obtain ⟨b_17, v_17, e_17, h⟩ := sd_ld_some h
        refine sd_iald C X (by decide) b_17 dX12_cut_229 (sd_nmi e_17 ?_)
        refine lv_goto (tgt := 234) hx hb dX12_cut_230 (by decide) ?_
        exact t_X12_cut_b234 C hq99 ih x1 x2 x4 x6 x6 v_17 S_14 _ _ _ h X (lv_sub hl [0, 1, 2, 3, 4] rfl)
def f_X12_cut_l107 (q99 : (Int32 → Int32 → Int32 → Int32 → sd_St → Option (Int32 × sd_St))) : Nat → Int32 → Int32 → Int32 → Int32 → Int32 → sd_St → Option (Int32 × sd_St)
  | 0 => fun _ _ _ _ _ _ => none
  | n + 1 => fun x1 x2 x4 x5 x6 S => (if (S.1 130 20) ≤ x6 then sd_cl (f_X12_laysWay x5 S) (fun _ S_19 => sd_st S_19 152 (x5 / (2 : Int32)) (-3 : Int32) (fun S_21 => f_X12_cut_l184 q99 sd_FU x1 x2 x4 (0 : Int32) S_21)) else sd_ld S 145 x6 (fun v_22 => sd_st S 150 x6 (vp_nar .boolean v_22) (fun S_23 => sd_ld S_23 147 x6 (fun v_24 => sd_st S_23 151 x6 v_24 (fun S_25 => sd_ld S_25 146 x6 (fun v_26 => sd_st S_25 152 x6 v_26 (fun S_27 => (f_X12_cut_l107 q99 n) x1 x2 x4 x5 (x6 + (1 : Int32)) S_27)))))))
set_option maxHeartbeats 4000000 in
set_option maxRecDepth 100000 in
theorem t_X12_cut_l107 (C : sd_C RX12 cX12_cut 7 (some .int) D cy ad A b0 p s m args meth c) {r : Int32} {S' : sd_St} {q99 : (Int32 → Int32 → Int32 → Int32 → sd_St → Option (Int32 × sd_St))} (hq99 : ∀ (x1 : Int32) (x2 : Int32) (x4 : Int32) (x5 : Int32) (S : sd_St) (H : Heap) (locs : List Loc) (ls : Array Slot), q99 x1 x2 x4 x5 S = some (r, S') → sd_H D cy ad A s S H locs → lv_has ls 7 [(0, .ref (ad 130)), (1, .int x1), (2, .int x2), (4, .int x4), (5, .int x5)] → W p l e (sd_rm 4) s m args below meth c H locs 0 0 (MQ below (sd_Qi D cy ad A r S') args s 0 0 A) (F0 m 99 ls [])) : ∀ (n : Nat) (x1 : Int32) (x2 : Int32) (x4 : Int32) (x5 : Int32) (x6 : Int32) (S : sd_St) (H : Heap) (locs : List Loc) (ls : Array Slot), f_X12_cut_l107 q99 n x1 x2 x4 x5 x6 S = some (r, S') → sd_H D cy ad A s S H locs → lv_has ls 7 [(0, .ref (ad 130)), (1, .int x1), (2, .int x2), (4, .int x4), (5, .int x5), (6, .int x6)] → W p l e (sd_rm 4) s m args below meth c H locs 0 0 (MQ below (sd_Qi D cy ad A r S') args s 0 0 A) (F0 m 107 ls []) := by
  obtain ⟨hx, hb, -, hml, hown, hts, -, hG⟩ := id C
  intro n
  induction n with
  | zero => intro x1 x2 x4 x5 x6 S H locs ls h; cases h
  | succ n ih =>
    intro x1 x2 x4 x5 x6 S H locs ls h X hl
    unfold f_X12_cut_l107 at h
    refine lv_iload hx hb dX12_cut_107 (lv_at hl 5 rfl) ?_
    refine lv_aload_n hx hb dX12_cut_109 rfl (lv_at hl 0 rfl) ?_
    refine sd_g12_20 C X (by decide) sd_w40_6 dX12_cut_110 ?_
    refine lv_icmp_ge (tgt := 164) hx hb dX12_cut_113 (by decide) (fun c_18 => ?_) (fun c_18 => ?_)
    · have h := sd_ifp c_18 h
      refine lv_aload_n hx hb dX12_cut_164 rfl (lv_at hl 0 rfl) ?_
      refine lv_iload hx hb dX12_cut_165 (lv_at hl 4 rfl) ?_
      obtain ⟨r_20, S_19, er_20, h⟩ := sd_cl_some h
      refine k_X12_laysWay C X hl.1 er_20 sd_w41_0 (by decide) (Nat.le_of_ble_eq_true rfl) dX12_cut_167 (fun H locs X => ?_)
      refine lv_aload_n hx hb dX12_cut_170 rfl (lv_at hl 0 rfl) ?_
      refine sd_g12_31 (k := 130) C X (by decide) sd_w9_0 dX12_cut_171 ?_
      refine lv_iload hx hb dX12_cut_174 (lv_at hl 4 rfl) ?_
      refine lv_iconst (v := (2 : Int32)) hx hb dX12_cut_176 (by decide) ?_
      refine lv_idiv hx hb dX12_cut_177 (by decide) ?_
      refine lv_bipush (v := (-3 : Int32)) hx hb dX12_cut_178 (by decide) ?_
      obtain ⟨bS_21, S_21, eS_21, h⟩ := sd_st_some h
      refine sd_iast C X (by decide) bS_21 dX12_cut_180 (fun H locs X => ?_)
      rw [← eS_21] at X
      refine lv_iconst (v := (0 : Int32)) hx hb dX12_cut_181 (by decide) ?_
      refine lv_istore (lv' := [(6, .int (0 : Int32)), (0, .ref (ad 130)), (1, .int x1), (2, .int x2), (4, .int x4), (5, .int x5)]) hx hb dX12_cut_182 hl (by decide) rfl (fun ls hl => ?_)
      exact t_X12_cut_l184 C hq99 sd_FU x1 x2 x4 (0 : Int32) S_21 _ _ _ h X (lv_sub hl [1, 2, 3, 4, 0] rfl)
    · have h := sd_ifn c_18 h
      refine lv_aload_n hx hb dX12_cut_116 rfl (lv_at hl 0 rfl) ?_
      refine sd_g12_29 (k := 130) C X (by decide) sd_w8_22 dX12_cut_117 ?_
      refine lv_iload hx hb dX12_cut_120 (lv_at hl 5 rfl) ?_
      refine lv_aload_n hx hb dX12_cut_122 rfl (lv_at hl 0 rfl) ?_
      refine sd_g12_23 (k := 130) C X (by decide) sd_w8_17 dX12_cut_123 ?_
      refine lv_iload hx hb dX12_cut_126 (lv_at hl 5 rfl) ?_
      obtain ⟨b_22, v_22, e_22, h⟩ := sd_ld_some h
      refine sd_zald C X (by decide) b_22 dX12_cut_128 (sd_nmi e_22 ?_)
      obtain ⟨bS_23, S_23, eS_23, h⟩ := sd_st_some h
      refine sd_zast C X (by decide) bS_23 dX12_cut_129 (fun H locs X => ?_)
      rw [← eS_23] at X
      refine lv_aload_n hx hb dX12_cut_130 rfl (lv_at hl 0 rfl) ?_
      refine sd_g12_30 (k := 130) C X (by decide) sd_w8_23 dX12_cut_131 ?_
      refine lv_iload hx hb dX12_cut_134 (lv_at hl 5 rfl) ?_
      refine lv_aload_n hx hb dX12_cut_136 rfl (lv_at hl 0 rfl) ?_
      refine sd_g12_25 (k := 130) C X (by decide) sd_w8_19 dX12_cut_137 ?_
      refine lv_iload hx hb dX12_cut_140 (lv_at hl 5 rfl) ?_
      obtain ⟨b_24, v_24, e_24, h⟩ := sd_ld_some h
      refine sd_iald C X (by decide) b_24 dX12_cut_142 (sd_nmi e_24 ?_)
      obtain ⟨bS_25, S_25, eS_25, h⟩ := sd_st_some h
      refine sd_iast C X (by decide) bS_25 dX12_cut_143 (fun H locs X => ?_)
      rw [← eS_25] at X
      refine lv_aload_n hx hb dX12_cut_144 rfl (lv_at hl 0 rfl) ?_
      refine sd_g12_31 (k := 130) C X (by decide) sd_w9_0 dX12_cut_145 ?_
      refine lv_iload hx hb dX12_cut_148 (lv_at hl 5 rfl) ?_
      refine lv_aload_n hx hb dX12_cut_150 rfl (lv_at hl 0 rfl) ?_
      refine sd_g12_24 (k := 130) C X (by decide) sd_w8_18 dX12_cut_151 ?_
      refine lv_iload hx hb dX12_cut_154 (lv_at hl 5 rfl) ?_
      obtain ⟨b_26, v_26, e_26, h⟩ := sd_ld_some h
      refine sd_iald C X (by decide) b_26 dX12_cut_156 (sd_nmi e_26 ?_)
      obtain ⟨bS_27, S_27, eS_27, h⟩ := sd_st_some h
      refine sd_iast C X (by decide) bS_27 dX12_cut_157 (fun H locs X => ?_)
      rw [← eS_27] at X
      refine lv_iinc (v := (x6 + (1 : Int32))) (lv' := [(6, .int (x6 + (1 : Int32))), (0, .ref (ad 130)), (1, .int x1), (2, .int x2), (4, .int x4), (5, .int x5)]) hx hb dX12_cut_158 hl (k := 5) rfl rfl (by decide) rfl (fun ls hl => ?_)
      refine lv_goto (tgt := 107) hx hb dX12_cut_161 (by decide) ?_
      exact ih x1 x2 x4 x5 (x6 + (1 : Int32)) S_27 _ _ _ h X (lv_sub hl [1, 2, 3, 4, 5, 0] rfl)
def f_X12_cut_l99 : Nat → Int32 → Int32 → Int32 → Int32 → sd_St → Option (Int32 × sd_St)
  | 0 => fun _ _ _ _ _ => none
  | n + 1 => fun x1 x2 x4 x5 S => (if x5 < 0 then (some (x4, S)) else f_X12_cut_l107 (f_X12_cut_l99 n) sd_FU x1 x2 x4 x5 (0 : Int32) S)
set_option maxHeartbeats 4000000 in
set_option maxRecDepth 100000 in
theorem t_X12_cut_l99 (C : sd_C RX12 cX12_cut 7 (some .int) D cy ad A b0 p s m args meth c) {r : Int32} {S' : sd_St} : ∀ (n : Nat) (x1 : Int32) (x2 : Int32) (x4 : Int32) (x5 : Int32) (S : sd_St) (H : Heap) (locs : List Loc) (ls : Array Slot), f_X12_cut_l99 n x1 x2 x4 x5 S = some (r, S') → sd_H D cy ad A s S H locs → lv_has ls 7 [(0, .ref (ad 130)), (1, .int x1), (2, .int x2), (4, .int x4), (5, .int x5)] → W p l e (sd_rm 4) s m args below meth c H locs 0 0 (MQ below (sd_Qi D cy ad A r S') args s 0 0 A) (F0 m 99 ls []) := by
  obtain ⟨hx, hb, -, hml, hown, hts, -, hG⟩ := id C
  intro n
  induction n with
  | zero => intro x1 x2 x4 x5 S H locs ls h; cases h
  | succ n ih =>
    intro x1 x2 x4 x5 S H locs ls h X hl
    unfold f_X12_cut_l99 at h
    refine lv_iload hx hb dX12_cut_99 (lv_at hl 4 rfl) ?_
    refine lv_if_lt (tgt := 292) hx hb dX12_cut_101 (by decide) (fun c_28 => ?_) (fun c_28 => ?_)
    · have h := sd_ifp c_28 h
      refine lv_iload hx hb dX12_cut_292 (lv_at hl 3 rfl) ?_
      cases h
      exact sd_iret C X dX12_cut_294
    · have h := sd_ifn c_28 h
      refine lv_iconst (v := (0 : Int32)) hx hb dX12_cut_104 (by decide) ?_
      refine lv_istore (lv' := [(6, .int (0 : Int32)), (0, .ref (ad 130)), (1, .int x1), (2, .int x2), (4, .int x4), (5, .int x5)]) hx hb dX12_cut_105 hl (by decide) rfl (fun ls hl => ?_)
      exact t_X12_cut_l107 C ih sd_FU x1 x2 x4 x5 (0 : Int32) S _ _ _ h X (lv_sub hl [1, 2, 3, 4, 5, 0] rfl)
def f_X12_cut_l40 : Nat → Int32 → Int32 → Int32 → sd_St → Option (Int32 × sd_St)
  | 0 => fun _ _ _ _ => none
  | n + 1 => fun x1 x2 x4 S => (if (S.1 130 20) ≤ x4 then sd_cl (f_X12_beginner x1 S) (fun r_31 S_30 => sd_cl (f_X12_fromOf x1 S_30) (fun r_33 S_32 => sd_cl (f_X12_findWay r_31 r_33 x2 S_32) (fun r_35 S_34 => f_X12_cut_l99 sd_FU x1 x2 (0 : Int32) r_35 S_34))) else sd_st S 145 x4 (vp_nar .boolean (0 : Int32)) (fun S_36 => sd_st S_36 146 x4 (-1 : Int32) (fun S_37 => sd_st S_37 147 x4 (-1 : Int32) (fun S_38 => (f_X12_cut_l40 n) x1 x2 (x4 + (1 : Int32)) S_38))))
set_option maxHeartbeats 4000000 in
set_option maxRecDepth 100000 in
theorem t_X12_cut_l40 (C : sd_C RX12 cX12_cut 7 (some .int) D cy ad A b0 p s m args meth c) {r : Int32} {S' : sd_St} : ∀ (n : Nat) (x1 : Int32) (x2 : Int32) (x4 : Int32) (S : sd_St) (H : Heap) (locs : List Loc) (ls : Array Slot), f_X12_cut_l40 n x1 x2 x4 S = some (r, S') → sd_H D cy ad A s S H locs → lv_has ls 7 [(0, .ref (ad 130)), (1, .int x1), (2, .int x2), (4, .int x4)] → W p l e (sd_rm 4) s m args below meth c H locs 0 0 (MQ below (sd_Qi D cy ad A r S') args s 0 0 A) (F0 m 40 ls []) := by
  obtain ⟨hx, hb, -, hml, hown, hts, -, hG⟩ := id C
  intro n
  induction n with
  | zero => intro x1 x2 x4 S H locs ls h; cases h
  | succ n ih =>
    intro x1 x2 x4 S H locs ls h X hl
    unfold f_X12_cut_l40 at h
    refine lv_iload hx hb dX12_cut_40 (lv_at hl 3 rfl) ?_
    refine lv_aload_n hx hb dX12_cut_42 rfl (lv_at hl 0 rfl) ?_
    refine sd_g12_20 C X (by decide) sd_w40_6 dX12_cut_43 ?_
    refine lv_icmp_ge (tgt := 79) hx hb dX12_cut_46 (by decide) (fun c_29 => ?_) (fun c_29 => ?_)
    · have h := sd_ifp c_29 h
      refine lv_iconst (v := (0 : Int32)) hx hb dX12_cut_79 (by decide) ?_
      refine lv_istore (lv' := [(4, .int (0 : Int32)), (0, .ref (ad 130)), (1, .int x1), (2, .int x2)]) hx hb dX12_cut_80 hl (by decide) rfl (fun ls hl => ?_)
      refine lv_aload_n hx hb dX12_cut_82 rfl (lv_at hl 1 rfl) ?_
      refine lv_aload_n hx hb dX12_cut_83 rfl (lv_at hl 1 rfl) ?_
      refine lv_iload_n hx hb dX12_cut_84 rfl (lv_at hl 2 rfl) ?_
      obtain ⟨r_31, S_30, er_31, h⟩ := sd_cl_some h
      refine k_X12_beginner C X hl.1 er_31 sd_w32_3 (by decide) (Nat.le_of_ble_eq_true rfl) dX12_cut_85 (fun H locs X => ?_)
      refine lv_aload_n hx hb dX12_cut_88 rfl (lv_at hl 1 rfl) ?_
      refine lv_iload_n hx hb dX12_cut_89 rfl (lv_at hl 2 rfl) ?_
      obtain ⟨r_33, S_32, er_33, h⟩ := sd_cl_some h
      refine k_X12_fromOf C X hl.1 er_33 sd_w32_7 (by decide) (Nat.le_of_ble_eq_true rfl) dX12_cut_90 (fun H locs X => ?_)
      refine lv_iload_n hx hb dX12_cut_93 rfl (lv_at hl 3 rfl) ?_
      obtain ⟨r_35, S_34, er_35, h⟩ := sd_cl_some h
      refine k_X12_findWay C X hl.1 er_35 sd_w40_11 (by decide) (Nat.le_of_ble_eq_true rfl) dX12_cut_94 (fun H locs X => ?_)
      refine lv_istore (lv' := [(5, .int r_35), (4, .int (0 : Int32)), (0, .ref (ad 130)), (1, .int x1), (2, .int x2)]) hx hb dX12_cut_97 hl (by decide) rfl (fun ls hl => ?_)
      exact t_X12_cut_l99 C sd_FU x1 x2 (0 : Int32) r_35 S_34 _ _ _ h X (lv_sub hl [2, 3, 4, 1, 0] rfl)
    · have h := sd_ifn c_29 h
      refine lv_aload_n hx hb dX12_cut_49 rfl (lv_at hl 0 rfl) ?_
      refine sd_g12_23 (k := 130) C X (by decide) sd_w8_17 dX12_cut_50 ?_
      refine lv_iload hx hb dX12_cut_53 (lv_at hl 3 rfl) ?_
      refine lv_iconst (v := (0 : Int32)) hx hb dX12_cut_55 (by decide) ?_
      obtain ⟨bS_36, S_36, eS_36, h⟩ := sd_st_some h
      refine sd_zast C X (by decide) bS_36 dX12_cut_56 (fun H locs X => ?_)
      rw [← eS_36] at X
      refine lv_aload_n hx hb dX12_cut_57 rfl (lv_at hl 0 rfl) ?_
      refine sd_g12_24 (k := 130) C X (by decide) sd_w8_18 dX12_cut_58 ?_
      refine lv_iload hx hb dX12_cut_61 (lv_at hl 3 rfl) ?_
      refine lv_iconst (v := (-1 : Int32)) hx hb dX12_cut_63 (by decide) ?_
      obtain ⟨bS_37, S_37, eS_37, h⟩ := sd_st_some h
      refine sd_iast C X (by decide) bS_37 dX12_cut_64 (fun H locs X => ?_)
      rw [← eS_37] at X
      refine lv_aload_n hx hb dX12_cut_65 rfl (lv_at hl 0 rfl) ?_
      refine sd_g12_25 (k := 130) C X (by decide) sd_w8_19 dX12_cut_66 ?_
      refine lv_iload hx hb dX12_cut_69 (lv_at hl 3 rfl) ?_
      refine lv_iconst (v := (-1 : Int32)) hx hb dX12_cut_71 (by decide) ?_
      obtain ⟨bS_38, S_38, eS_38, h⟩ := sd_st_some h
      refine sd_iast C X (by decide) bS_38 dX12_cut_72 (fun H locs X => ?_)
      rw [← eS_38] at X
      refine lv_iinc (v := (x4 + (1 : Int32))) (lv' := [(4, .int (x4 + (1 : Int32))), (0, .ref (ad 130)), (1, .int x1), (2, .int x2)]) hx hb dX12_cut_73 hl (k := 3) rfl rfl (by decide) rfl (fun ls hl => ?_)
      refine lv_goto (tgt := 40) hx hb dX12_cut_76 (by decide) ?_
      exact ih x1 x2 (x4 + (1 : Int32)) S_38 _ _ _ h X (lv_sub hl [1, 2, 3, 0] rfl)
def f_X12_cut (x1 : Int32) (x2 : Int32) (x3 : Int32) (S : sd_St) : Option (Int32 × sd_St) := sd_nm (sd_I S 130 0 (0 : Int32)) (fun S_39 => sd_cl (f_X12_areThere x1 x2 S_39) (fun r_41 S_40 => (if r_41 = 0 then (some ((-1 : Int32), S_40)) else sd_cl (f_X12_isDate x3 S_40) (fun r_44 S_43 => (if r_44 = 0 then (some ((-1 : Int32), S_43)) else sd_cl (f_X12_beginner x1 S_43) (fun r_47 S_46 => (if x2 = r_47 then (some ((-1 : Int32), S_46)) else sd_cl (f_X12_findEvents x3 S_46) (fun _ S_49 => f_X12_cut_l40 sd_FU x1 x2 (0 : Int32) S_49))))))))
set_option maxHeartbeats 4000000 in
set_option maxRecDepth 100000 in
theorem c_X12_cut {x1 : Int32} {x2 : Int32} {x3 : Int32} {S S' : sd_St} {r : Int32} (h : f_X12_cut x1 x2 x3 S = some (r, S')) : Met l yX12_cut (Cond.code yX12_cut cX12_cut 7 (some .int) :: sd_wl) (sd_rm 4) (sd_P D cy ad A b0 [.ref (ad 130), .int x1, .int x2, .int x3] S) (sd_Qi D cy ad A r S') 0 0 A := by
  refine sd_met (by decide) (Nat.le_of_ble_eq_true rfl) (fun p e s m args below meth c ls C X hl => ?_)
  obtain ⟨hx, hb, -, hml, hown, hts, -, hG⟩ := id C
  replace C : sd_C RX12 cX12_cut 7 (some .int) D cy ad A b0 p s m args meth c := C
  replace hl : lv_has ls 7 [(0, .ref (ad 130)), (1, .int x1), (2, .int x2), (3, .int x3)] := hl
  unfold f_X12_cut at h
  refine lv_aload_n hx hb dX12_cut_0 rfl (lv_at hl 0 rfl) ?_
  refine lv_iconst (v := (0 : Int32)) hx hb dX12_cut_1 (by decide) ?_
  obtain ⟨S_39, eS_39, h⟩ := sd_nm_some h
  refine sd_p12_0 C X (by decide) sd_w9_3 dX12_cut_2 (fun H locs X => ?_)
  rw [← eS_39] at X
  refine lv_aload_n hx hb dX12_cut_5 rfl (lv_at hl 0 rfl) ?_
  refine lv_iload_n hx hb dX12_cut_6 rfl (lv_at hl 1 rfl) ?_
  refine lv_iload_n hx hb dX12_cut_7 rfl (lv_at hl 2 rfl) ?_
  obtain ⟨r_41, S_40, er_41, h⟩ := sd_cl_some h
  refine k_X12_areThere C X hl.1 er_41 sd_w31_11 (by decide) (Nat.le_of_ble_eq_true rfl) dX12_cut_8 (fun H locs X => ?_)
  refine lv_if_eq (tgt := 30) hx hb dX12_cut_11 (by decide) (fun c_42 => ?_) (fun c_42 => ?_)
  · have h := sd_ifp c_42 h
    refine lv_iconst (v := (-1 : Int32)) hx hb dX12_cut_30 (by decide) ?_
    cases h
    exact sd_iret C X dX12_cut_31
  · have h := sd_ifn c_42 h
    refine lv_iload_n hx hb dX12_cut_14 rfl (lv_at hl 3 rfl) ?_
    obtain ⟨r_44, S_43, er_44, h⟩ := sd_cl_some h
    refine k_X12_isDate C X hl.1 er_44 sd_w26_1 (by decide) (Nat.le_of_ble_eq_true rfl) dX12_cut_15 (fun H locs X => ?_)
    refine lv_if_eq (tgt := 30) hx hb dX12_cut_18 (by decide) (fun c_45 => ?_) (fun c_45 => ?_)
    · have h := sd_ifp c_45 h
      refine lv_iconst (v := (-1 : Int32)) hx hb dX12_cut_30 (by decide) ?_
      cases h
      exact sd_iret C X dX12_cut_31
    · have h := sd_ifn c_45 h
      refine lv_iload_n hx hb dX12_cut_21 rfl (lv_at hl 2 rfl) ?_
      refine lv_aload_n hx hb dX12_cut_22 rfl (lv_at hl 0 rfl) ?_
      refine lv_iload_n hx hb dX12_cut_23 rfl (lv_at hl 1 rfl) ?_
      obtain ⟨r_47, S_46, er_47, h⟩ := sd_cl_some h
      refine k_X12_beginner C X hl.1 er_47 sd_w32_3 (by decide) (Nat.le_of_ble_eq_true rfl) dX12_cut_24 (fun H locs X => ?_)
      refine lv_icmp_ne (tgt := 32) hx hb dX12_cut_27 (by decide) (fun c_48 => ?_) (fun c_48 => ?_)
      · have h := sd_ifn c_48 h
        refine lv_aload_n hx hb dX12_cut_32 rfl (lv_at hl 0 rfl) ?_
        refine lv_iload_n hx hb dX12_cut_33 rfl (lv_at hl 3 rfl) ?_
        obtain ⟨r_50, S_49, er_50, h⟩ := sd_cl_some h
        refine k_X12_findEvents C X hl.1 er_50 sd_w40_7 (by decide) (Nat.le_of_ble_eq_true rfl) dX12_cut_34 (fun H locs X => ?_)
        refine lv_iconst (v := (0 : Int32)) hx hb dX12_cut_37 (by decide) ?_
        refine lv_istore (lv' := [(4, .int (0 : Int32)), (0, .ref (ad 130)), (1, .int x1), (2, .int x2), (3, .int x3)]) hx hb dX12_cut_38 hl (by decide) rfl (fun ls hl => ?_)
        exact t_X12_cut_l40 C sd_FU x1 x2 (0 : Int32) S_49 _ _ _ h X (lv_sub hl [1, 2, 3, 0] rfl)
      · have h := sd_ifp c_48 h
        refine lv_iconst (v := (-1 : Int32)) hx hb dX12_cut_30 (by decide) ?_
        cases h
        exact sd_iret C X dX12_cut_31
theorem k_X12_cut (C : sd_C own cc nL rt D cy ad A b0 p s m args meth c) (X : sd_H D cy ad A s S H locs) (hls : ls.size = nL) {x1 : Int32} {x2 : Int32} {x3 : Int32} {S2 : sd_St} {r : Int32} (h : f_X12_cut x1 x2 x3 S = some (r, S2)) (hlink : Cond.methodLink own index yX12_cut ∈ sd_wl) (hR : 5 ≤ R.frames ∧ 186 ≤ R.locals ∧ cells ≤ R.cells ∧ slots ≤ R.slots) (hst : (rest.map fun v => v.category).sum ≤ 8) (hdg : decode cc pc = .ok (.invokevirtual index, 3)) (kk : ∀ (H1 : Heap) (locs1 : List Loc), sd_H D cy ad A s S2 H1 locs1 → W p l e R s m args below meth c H1 locs1 cells slots Q (F0 m (pc + 3) ls (.int r :: rest))) : W p l e R s m args below meth c H locs cells slots Q (F0 m pc ls (.int x3 :: .int x2 :: .int x1 :: .ref (ad 130) :: rest)) :=
  sd_goI X (sd_runV C X hls (n := 3) (k := 130) (As := [.int x1, .int x2, .int x3]) (c_X12_cut (l := l) (b0 := b0) h) (sd_goodV hlink sd_w40_3 sd_w40_4 sd_w1_5 sd_w40_5) (ci := 12) rfl (by rw [(show sd_kd 130 = 12 by decide)]; decide) (sd_c12 (show sd_kd 130 = 12 by decide)) (by decide +kernel) rfl hR rfl hst hdg) kk
end SM5
