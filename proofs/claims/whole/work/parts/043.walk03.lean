section SM3
variable {p : Program} {l : Launch} {e : Env} {R : Room} {s : State} {m : MethodId} {args : Array Value} {below : List Frame} {meth : Method} {c : Code} {H : Heap} {locs : List Loc} {Q : State → Prop}
variable {cc : ByteArray} {pc nL index cells slots : Nat} {ls : Array Slot} {rest : List Value} {D : va_G} {cy : Nat → ClassId} {ad : Nat → Nat} {A : Nat → Prop} {b0 : Nat} {own : String} {rt : Option FieldType} {S : sd_St}
/-! ===== SecretDays.all(I)I ===== -/
def f_X11_all_l18 : Nat → Int32 → Int32 → Int32 → sd_St → Option (Int32 × sd_St)
  | 0 => fun _ _ _ _ => none
  | n + 1 => fun x1 x2 x3 S => (if (S.1 17 0) ≤ x3 then (some (x2, S)) else sd_in x1 (sd_al 33) (sd_nm (34 + 5 * x1.toNatClampNeg) (fun q_3 => sd_cl (f_X5_had q_3 x3 S) (fun r_5 S_4 => (if r_5 = (-1 : Int32) then (some ((-1 : Int32), S_4)) else sd_nm (sd_mx x2 r_5) (fun v_7 => (f_X11_all_l18 n) x1 v_7 (x3 + (1 : Int32)) S_4))))))
set_option maxHeartbeats 4000000 in
set_option maxRecDepth 100000 in
theorem t_X11_all_l18 (C : sd_C RX11 cX11_all 5 (some .int) D cy ad A b0 p s m args meth c) {r : Int32} {S' : sd_St} : ∀ (n : Nat) (x1 : Int32) (x2 : Int32) (x3 : Int32) (S : sd_St) (H : Heap) (locs : List Loc) (ls : Array Slot), f_X11_all_l18 n x1 x2 x3 S = some (r, S') → sd_H D cy ad A s S H locs → lv_has ls 5 [(0, .ref (ad 0)), (1, .int x1), (2, .int x2), (3, .int x3)] → W p l e (sd_rm 5) s m args below meth c H locs 0 0 (MQ below (sd_Qi D cy ad A r S') args s 0 0 A) (F0 m 18 ls []) := by
  obtain ⟨hx, hb, -, hml, hown, hts, -, hG⟩ := id C
  intro n
  induction n with
  | zero => intro x1 x2 x3 S H locs ls h; cases h
  | succ n ih =>
    intro x1 x2 x3 S H locs ls h X hl
    unfold f_X11_all_l18 at h
    refine lv_iload_n hx hb dX11_all_18 rfl (lv_at hl 3 rfl) ?_
    refine lv_aload_n hx hb dX11_all_19 rfl (lv_at hl 0 rfl) ?_
    refine sd_g11_1 (k := 0) C X (by decide) sd_w1_20 dX11_all_20 ?_
    refine sd_g8_0 C X (by decide) sd_w24_9 dX11_all_23 ?_
    refine lv_icmp_ge (tgt := 62) hx hb dX11_all_26 (by decide) (fun c_1 => ?_) (fun c_1 => ?_)
    · have h := sd_ifp c_1 h
      refine lv_iload_n hx hb dX11_all_62 rfl (lv_at hl 2 rfl) ?_
      cases h
      exact sd_iret C X dX11_all_63
    · have h := sd_ifn c_1 h
      refine lv_aload_n hx hb dX11_all_29 rfl (lv_at hl 0 rfl) ?_
      refine sd_g11_3 (k := 0) C X (by decide) sd_w2_2 dX11_all_30 ?_
      refine lv_iload_n hx hb dX11_all_33 rfl (lv_at hl 1 rfl) ?_
      obtain ⟨b_2, h⟩ := sd_in_some h
      obtain ⟨q_3, eq_3, h⟩ := sd_nm_some h
      have hq_3 : sd_kd q_3 = 5 := sd_e5 (by decide) b_2 eq_3
      refine sd_aald5 C X (by decide) b_2 dX11_all_34 ?_
      rw [← eq_3]
      refine lv_iload_n hx hb dX11_all_35 rfl (lv_at hl 3 rfl) ?_
      obtain ⟨r_5, S_4, er_5, h⟩ := sd_cl_some h
      refine k_X5_had C X hl.1 hq_3 er_5 sd_w31_2 (by decide) (Nat.le_of_ble_eq_true rfl) dX11_all_36 (fun H locs X => ?_)
      refine lv_istore (lv' := [(4, .int r_5), (0, .ref (ad 0)), (1, .int x1), (2, .int x2), (3, .int x3)]) hx hb dX11_all_39 hl (by decide) rfl (fun ls hl => ?_)
      refine lv_iload hx hb dX11_all_41 (lv_at hl 0 rfl) ?_
      refine lv_iconst (v := (-1 : Int32)) hx hb dX11_all_43 (by decide) ?_
      refine lv_icmp_ne (tgt := 49) hx hb dX11_all_44 (by decide) (fun c_6 => ?_) (fun c_6 => ?_)
      · have h := sd_ifn c_6 h
        refine lv_iload_n hx hb dX11_all_49 rfl (lv_at hl 3 rfl) ?_
        refine lv_iload hx hb dX11_all_50 (lv_at hl 0 rfl) ?_
        obtain ⟨v_7, e_7, h⟩ := sd_nm_some h
        refine sd_max C hl.1 sd_w35_17 (by decide) (Nat.le_of_ble_eq_true rfl) dX11_all_52 (sd_nmi e_7 ?_)
        refine lv_istore_n (lv' := [(2, .int v_7), (4, .int r_5), (0, .ref (ad 0)), (1, .int x1), (3, .int x3)]) hx hb dX11_all_55 rfl hl (by decide) rfl (fun ls hl => ?_)
        refine lv_iinc (v := (x3 + (1 : Int32))) (lv' := [(3, .int (x3 + (1 : Int32))), (2, .int v_7), (4, .int r_5), (0, .ref (ad 0)), (1, .int x1)]) hx hb dX11_all_56 hl (k := 4) rfl rfl (by decide) rfl (fun ls hl => ?_)
        refine lv_goto (tgt := 18) hx hb dX11_all_59 (by decide) ?_
        exact ih x1 v_7 (x3 + (1 : Int32)) S_4 _ _ _ h X (lv_sub hl [3, 4, 1, 0] rfl)
      · have h := sd_ifp c_6 h
        refine lv_iconst (v := (-1 : Int32)) hx hb dX11_all_47 (by decide) ?_
        cases h
        exact sd_iret C X dX11_all_48
def f_X11_all (x1 : Int32) (S : sd_St) : Option (Int32 × sd_St) := sd_cl (f_X11_isSecret x1 S) (fun r_9 S_8 => (if r_9 = 0 then (some ((-1 : Int32), S_8)) else sd_cl (f_X11_bringUpToDate S_8) (fun _ S_11 => f_X11_all_l18 sd_FU x1 (-1 : Int32) (0 : Int32) S_11)))
set_option maxHeartbeats 4000000 in
set_option maxRecDepth 100000 in
theorem c_X11_all {x1 : Int32} {S S' : sd_St} {r : Int32} (h : f_X11_all x1 S = some (r, S')) : Met l yX11_all (Cond.code yX11_all cX11_all 5 (some .int) :: sd_wl) (sd_rm 5) (sd_P D cy ad A b0 [.ref (ad 0), .int x1] S) (sd_Qi D cy ad A r S') 0 0 A := by
  refine sd_met (by decide) (Nat.le_of_ble_eq_true rfl) (fun p e s m args below meth c ls C X hl => ?_)
  obtain ⟨hx, hb, -, hml, hown, hts, -, hG⟩ := id C
  replace C : sd_C RX11 cX11_all 5 (some .int) D cy ad A b0 p s m args meth c := C
  replace hl : lv_has ls 5 [(0, .ref (ad 0)), (1, .int x1)] := hl
  unfold f_X11_all at h
  refine lv_aload_n hx hb dX11_all_0 rfl (lv_at hl 0 rfl) ?_
  refine lv_iload_n hx hb dX11_all_1 rfl (lv_at hl 1 rfl) ?_
  obtain ⟨r_9, S_8, er_9, h⟩ := sd_cl_some h
  refine k_X11_isSecret C X hl.1 er_9 sd_w28_9 (by decide) (Nat.le_of_ble_eq_true rfl) dX11_all_2 (fun H locs X => ?_)
  refine lv_if_ne (tgt := 10) hx hb dX11_all_5 (by decide) (fun c_10 => ?_) (fun c_10 => ?_)
  · have h := sd_ifn c_10 h
    refine lv_aload_n hx hb dX11_all_10 rfl (lv_at hl 0 rfl) ?_
    obtain ⟨r_12, S_11, er_12, h⟩ := sd_cl_some h
    refine k_X11_bringUpToDate C X hl.1 er_12 sd_w28_14 (by decide) (Nat.le_of_ble_eq_true rfl) dX11_all_11 (fun H locs X => ?_)
    refine lv_iconst (v := (-1 : Int32)) hx hb dX11_all_14 (by decide) ?_
    refine lv_istore_n (lv' := [(2, .int (-1 : Int32)), (0, .ref (ad 0)), (1, .int x1)]) hx hb dX11_all_15 rfl hl (by decide) rfl (fun ls hl => ?_)
    refine lv_iconst (v := (0 : Int32)) hx hb dX11_all_16 (by decide) ?_
    refine lv_istore_n (lv' := [(3, .int (0 : Int32)), (2, .int (-1 : Int32)), (0, .ref (ad 0)), (1, .int x1)]) hx hb dX11_all_17 rfl hl (by decide) rfl (fun ls hl => ?_)
    exact t_X11_all_l18 C sd_FU x1 (-1 : Int32) (0 : Int32) S_11 _ _ _ h X (lv_sub hl [2, 3, 1, 0] rfl)
  · have h := sd_ifp c_10 h
    refine lv_iconst (v := (-1 : Int32)) hx hb dX11_all_8 (by decide) ?_
    cases h
    exact sd_iret C X dX11_all_9
theorem k_X11_all (C : sd_C own cc nL rt D cy ad A b0 p s m args meth c) (X : sd_H D cy ad A s S H locs) (hls : ls.size = nL) {x1 : Int32} {S2 : sd_St} {r : Int32} (h : f_X11_all x1 S = some (r, S2)) (hlink : Cond.methodLink own index yX11_all ∈ sd_wl) (hR : 6 ≤ R.frames ∧ 224 ≤ R.locals ∧ cells ≤ R.cells ∧ slots ≤ R.slots) (hst : (rest.map fun v => v.category).sum ≤ 8) (hdg : decode cc pc = .ok (.invokevirtual index, 3)) (kk : ∀ (H1 : Heap) (locs1 : List Loc), sd_H D cy ad A s S2 H1 locs1 → W p l e R s m args below meth c H1 locs1 cells slots Q (F0 m (pc + 3) ls (.int r :: rest))) : W p l e R s m args below meth c H locs cells slots Q (F0 m pc ls (.int x1 :: .ref (ad 0) :: rest)) :=
  sd_goI X (sd_runV C X hls (n := 1) (k := 0) (As := [.int x1]) (c_X11_all (l := l) (b0 := b0) h) (sd_goodV hlink sd_w35_14 sd_w35_15 sd_w1_2 sd_w35_16) (ci := 11) rfl (by rw [(show sd_kd 0 = 11 by decide)]; decide) (sd_c11 (show sd_kd 0 = 11 by decide)) (by decide +kernel) rfl hR rfl hst hdg) kk
/-! ===== SecretDays.knows(II)I ===== -/
def f_X11_knows (x1 : Int32) (x2 : Int32) (S : sd_St) : Option (Int32 × sd_St) := sd_cl (f_X11_isSecret x1 S) (fun r_2 S_1 => (if r_2 = 0 then (some ((-1 : Int32), S_1)) else sd_cl (f_X11_isDate x2 S_1) (fun r_5 S_4 => (if r_5 = 0 then (some ((-1 : Int32), S_4)) else sd_cl (f_X11_knowersBehind x1 x2 S_4) (fun r_8 S_7 => (some (r_8, S_7)))))))
set_option maxHeartbeats 4000000 in
set_option maxRecDepth 100000 in
theorem c_X11_knows {x1 : Int32} {x2 : Int32} {S S' : sd_St} {r : Int32} (h : f_X11_knows x1 x2 S = some (r, S')) : Met l yX11_knows (Cond.code yX11_knows cX11_knows 3 (some .int) :: sd_wl) (sd_rm 6) (sd_P D cy ad A b0 [.ref (ad 0), .int x1, .int x2] S) (sd_Qi D cy ad A r S') 0 0 A := by
  refine sd_met (by decide) (Nat.le_of_ble_eq_true rfl) (fun p e s m args below meth c ls C X hl => ?_)
  obtain ⟨hx, hb, -, hml, hown, hts, -, hG⟩ := id C
  replace C : sd_C RX11 cX11_knows 3 (some .int) D cy ad A b0 p s m args meth c := C
  replace hl : lv_has ls 3 [(0, .ref (ad 0)), (1, .int x1), (2, .int x2)] := hl
  unfold f_X11_knows at h
  refine lv_aload_n hx hb dX11_knows_0 rfl (lv_at hl 0 rfl) ?_
  refine lv_iload_n hx hb dX11_knows_1 rfl (lv_at hl 1 rfl) ?_
  obtain ⟨r_2, S_1, er_2, h⟩ := sd_cl_some h
  refine k_X11_isSecret C X hl.1 er_2 sd_w28_9 (by decide) (Nat.le_of_ble_eq_true rfl) dX11_knows_2 (fun H locs X => ?_)
  refine lv_if_eq (tgt := 16) hx hb dX11_knows_5 (by decide) (fun c_3 => ?_) (fun c_3 => ?_)
  · have h := sd_ifp c_3 h
    refine lv_iconst (v := (-1 : Int32)) hx hb dX11_knows_16 (by decide) ?_
    cases h
    exact sd_iret C X dX11_knows_17
  · have h := sd_ifn c_3 h
    refine lv_aload_n hx hb dX11_knows_8 rfl (lv_at hl 0 rfl) ?_
    refine lv_iload_n hx hb dX11_knows_9 rfl (lv_at hl 2 rfl) ?_
    obtain ⟨r_5, S_4, er_5, h⟩ := sd_cl_some h
    refine k_X11_isDate C X hl.1 er_5 sd_w26_12 (by decide) (Nat.le_of_ble_eq_true rfl) dX11_knows_10 (fun H locs X => ?_)
    refine lv_if_ne (tgt := 18) hx hb dX11_knows_13 (by decide) (fun c_6 => ?_) (fun c_6 => ?_)
    · have h := sd_ifn c_6 h
      refine lv_aload_n hx hb dX11_knows_18 rfl (lv_at hl 0 rfl) ?_
      refine lv_iload_n hx hb dX11_knows_19 rfl (lv_at hl 1 rfl) ?_
      refine lv_iload_n hx hb dX11_knows_20 rfl (lv_at hl 2 rfl) ?_
      obtain ⟨r_8, S_7, er_8, h⟩ := sd_cl_some h
      refine k_X11_knowersBehind C X hl.1 er_8 sd_w34_20 (by decide) (Nat.le_of_ble_eq_true rfl) dX11_knows_21 (fun H locs X => ?_)
      cases h
      exact sd_iret C X dX11_knows_24
    · have h := sd_ifp c_6 h
      refine lv_iconst (v := (-1 : Int32)) hx hb dX11_knows_16 (by decide) ?_
      cases h
      exact sd_iret C X dX11_knows_17
theorem k_X11_knows (C : sd_C own cc nL rt D cy ad A b0 p s m args meth c) (X : sd_H D cy ad A s S H locs) (hls : ls.size = nL) {x1 : Int32} {x2 : Int32} {S2 : sd_St} {r : Int32} (h : f_X11_knows x1 x2 S = some (r, S2)) (hlink : Cond.methodLink own index yX11_knows ∈ sd_wl) (hR : 7 ≤ R.frames ∧ 262 ≤ R.locals ∧ cells ≤ R.cells ∧ slots ≤ R.slots) (hst : (rest.map fun v => v.category).sum ≤ 8) (hdg : decode cc pc = .ok (.invokevirtual index, 3)) (kk : ∀ (H1 : Heap) (locs1 : List Loc), sd_H D cy ad A s S2 H1 locs1 → W p l e R s m args below meth c H1 locs1 cells slots Q (F0 m (pc + 3) ls (.int r :: rest))) : W p l e R s m args below meth c H locs cells slots Q (F0 m pc ls (.int x2 :: .int x1 :: .ref (ad 0) :: rest)) :=
  sd_goI X (sd_runV C X hls (n := 2) (k := 0) (As := [.int x1, .int x2]) (c_X11_knows (l := l) (b0 := b0) h) (sd_goodV hlink sd_w36_2 sd_w36_3 sd_w1_2 sd_w36_4) (ci := 11) rfl (by rw [(show sd_kd 0 = 11 by decide)]; decide) (sd_c11 (show sd_kd 0 = 11 by decide)) (by decide +kernel) rfl hR rfl hst hdg) kk
/-! ===== SecretDays.isSet(I)Z ===== -/
def f_X11_isSet (x1 : Int32) (S : sd_St) : Option (Int32 × sd_St) := (if x1 < 0 then (some ((0 : Int32), S)) else sd_cl (f_X8_everyone 17 S) (fun r_3 S_2 => (if r_3 < x1 then (some ((0 : Int32), S_2)) else (some ((1 : Int32), S_2)))))
set_option maxHeartbeats 4000000 in
set_option maxRecDepth 100000 in
theorem c_X11_isSet {x1 : Int32} {S S' : sd_St} {r : Int32} (h : f_X11_isSet x1 S = some (r, S')) : Met l yX11_isSet (Cond.code yX11_isSet cX11_isSet 2 (some .boolean) :: sd_wl) (sd_rm 1) (sd_P D cy ad A b0 [.ref (ad 0), .int x1] S) (sd_Qi D cy ad A r S') 0 0 A := by
  refine sd_met (by decide) (Nat.le_of_ble_eq_true rfl) (fun p e s m args below meth c ls C X hl => ?_)
  obtain ⟨hx, hb, -, hml, hown, hts, -, hG⟩ := id C
  replace C : sd_C RX11 cX11_isSet 2 (some .boolean) D cy ad A b0 p s m args meth c := C
  replace hl : lv_has ls 2 [(0, .ref (ad 0)), (1, .int x1)] := hl
  unfold f_X11_isSet at h
  refine lv_iload_n hx hb dX11_isSet_0 rfl (lv_at hl 1 rfl) ?_
  refine lv_if_lt (tgt := 19) hx hb dX11_isSet_1 (by decide) (fun c_1 => ?_) (fun c_1 => ?_)
  · have h := sd_ifp c_1 h
    refine lv_iconst (v := (0 : Int32)) hx hb dX11_isSet_19 (by decide) ?_
    cases h
    exact sd_zret C X (by decide) dX11_isSet_20
  · have h := sd_ifn c_1 h
    refine lv_iload_n hx hb dX11_isSet_4 rfl (lv_at hl 1 rfl) ?_
    refine lv_aload_n hx hb dX11_isSet_5 rfl (lv_at hl 0 rfl) ?_
    refine sd_g11_1 (k := 0) C X (by decide) sd_w1_20 dX11_isSet_6 ?_
    obtain ⟨r_3, S_2, er_3, h⟩ := sd_cl_some h
    refine k_X8_everyone C X hl.1 (by decide) er_3 sd_w34_16 (by decide) (Nat.le_of_ble_eq_true rfl) dX11_isSet_9 (fun H locs X => ?_)
    refine lv_icmp_gt (tgt := 19) hx hb dX11_isSet_12 (by decide) (fun c_4 => ?_) (fun c_4 => ?_)
    · have h := sd_ifp c_4 h
      refine lv_iconst (v := (0 : Int32)) hx hb dX11_isSet_19 (by decide) ?_
      cases h
      exact sd_zret C X (by decide) dX11_isSet_20
    · have h := sd_ifn c_4 h
      refine lv_iconst (v := (1 : Int32)) hx hb dX11_isSet_15 (by decide) ?_
      refine lv_goto (tgt := 20) hx hb dX11_isSet_16 (by decide) ?_
      cases h
      exact sd_zret C X (by decide) dX11_isSet_20
theorem k_X11_isSet (C : sd_C own cc nL rt D cy ad A b0 p s m args meth c) (X : sd_H D cy ad A s S H locs) (hls : ls.size = nL) {x1 : Int32} {S2 : sd_St} {r : Int32} (h : f_X11_isSet x1 S = some (r, S2)) (hlink : Cond.methodLink own index yX11_isSet ∈ sd_wl) (hR : 2 ≤ R.frames ∧ 61 ≤ R.locals ∧ cells ≤ R.cells ∧ slots ≤ R.slots) (hst : (rest.map fun v => v.category).sum ≤ 8) (hdg : decode cc pc = .ok (.invokevirtual index, 3)) (kk : ∀ (H1 : Heap) (locs1 : List Loc), sd_H D cy ad A s S2 H1 locs1 → W p l e R s m args below meth c H1 locs1 cells slots Q (F0 m (pc + 3) ls (.int r :: rest))) : W p l e R s m args below meth c H locs cells slots Q (F0 m pc ls (.int x1 :: .ref (ad 0) :: rest)) :=
  sd_goI X (sd_runV C X hls (n := 1) (k := 0) (As := [.int x1]) (c_X11_isSet (l := l) (b0 := b0) h) (sd_goodV hlink sd_w36_14 sd_w36_15 sd_w1_2 sd_w36_16) (ci := 11) rfl (by rw [(show sd_kd 0 = 11 by decide)]; decide) (sd_c11 (show sd_kd 0 = 11 by decide)) (by decide +kernel) rfl hR rfl hst hdg) kk
/-! ===== SecretDays.letIn(IIIII)I ===== -/
def f_X11_letIn_b95 (x2 : Int32) (x3 : Int32) (x4 : Int32) (x5 : Int32) (x6 : Int32) (x7 : Int32) (S : sd_St) : Option (Int32 × sd_St) := sd_cl (f_X2_forbid 59 x4 x5 S) (fun _ S_1 => sd_cl (f_X2_fewest 59 28 x6 x7 x2 x3 S_1) (fun r_4 S_3 => (some (r_4, S_3))))
set_option maxHeartbeats 4000000 in
set_option maxRecDepth 100000 in
theorem t_X11_letIn_b95 (C : sd_C RX11 cX11_letIn 8 (some .int) D cy ad A b0 p s m args meth c) {r : Int32} {S' : sd_St} : ∀ (x2 : Int32) (x3 : Int32) (x4 : Int32) (x5 : Int32) (x6 : Int32) (x7 : Int32) (S : sd_St) (H : Heap) (locs : List Loc) (ls : Array Slot), f_X11_letIn_b95 x2 x3 x4 x5 x6 x7 S = some (r, S') → sd_H D cy ad A s S H locs → lv_has ls 8 [(0, .ref (ad 0)), (2, .int x2), (3, .int x3), (4, .int x4), (5, .int x5), (6, .int x6), (7, .int x7)] → W p l e (sd_rm 5) s m args below meth c H locs 0 0 (MQ below (sd_Qi D cy ad A r S') args s 0 0 A) (F0 m 95 ls []) := by
  obtain ⟨hx, hb, -, hml, hown, hts, -, hG⟩ := id C
  intro x2 x3 x4 x5 x6 x7 S H locs ls h X hl
  unfold f_X11_letIn_b95 at h
  refine lv_aload_n hx hb dX11_letIn_95 rfl (lv_at hl 0 rfl) ?_
  refine sd_g11_5 (k := 0) C X (by decide) sd_w2_9 dX11_letIn_96 ?_
  refine lv_iload hx hb dX11_letIn_99 (lv_at hl 3 rfl) ?_
  refine lv_iload hx hb dX11_letIn_101 (lv_at hl 4 rfl) ?_
  obtain ⟨r_2, S_1, er_2, h⟩ := sd_cl_some h
  refine k_X2_forbid C X hl.1 (by decide) er_2 sd_w36_17 (by decide) (Nat.le_of_ble_eq_true rfl) dX11_letIn_103 (fun H locs X => ?_)
  refine lv_aload_n hx hb dX11_letIn_106 rfl (lv_at hl 0 rfl) ?_
  refine sd_g11_5 (k := 0) C X (by decide) sd_w2_9 dX11_letIn_107 ?_
  refine lv_aload_n hx hb dX11_letIn_110 rfl (lv_at hl 0 rfl) ?_
  refine sd_g11_2 (k := 0) C X (by decide) sd_w2_0 dX11_letIn_111 ?_
  refine lv_iload hx hb dX11_letIn_114 (lv_at hl 5 rfl) ?_
  refine lv_iload hx hb dX11_letIn_116 (lv_at hl 6 rfl) ?_
  refine lv_iload_n hx hb dX11_letIn_118 rfl (lv_at hl 1 rfl) ?_
  refine lv_iload_n hx hb dX11_letIn_119 rfl (lv_at hl 2 rfl) ?_
  obtain ⟨r_4, S_3, er_4, h⟩ := sd_cl_some h
  refine k_X2_fewest C X hl.1 (by decide) (by decide) er_4 sd_w36_23 (by decide) (Nat.le_of_ble_eq_true rfl) dX11_letIn_120 (fun H locs X => ?_)
  cases h
  exact sd_iret C X dX11_letIn_123
def f_X11_letIn (x1 : Int32) (x2 : Int32) (x3 : Int32) (x4 : Int32) (x5 : Int32) (S : sd_St) : Option (Int32 × sd_St) := sd_cl (f_X11_isSecret x1 S) (fun r_6 S_5 => (if r_6 = 0 then (some ((-1 : Int32), S_5)) else sd_cl (f_X11_isPerson x2 S_5) (fun r_9 S_8 => (if r_9 = 0 then (some ((-1 : Int32), S_8)) else sd_cl (f_X11_isDate x3 S_8) (fun r_12 S_11 => (if r_12 = 0 then (some ((-1 : Int32), S_11)) else sd_cl (f_X11_isSet x4 S_11) (fun r_15 S_14 => (if r_15 = 0 then (some ((-1 : Int32), S_14)) else sd_cl (f_X11_isDate x5 S_14) (fun r_18 S_17 => (if r_18 = 0 then (some ((-1 : Int32), S_17)) else sd_cl (f_X11_bringUpToDate S_17) (fun _ S_20 => sd_ld S_20 26 x1 (fun v_22 => sd_ld S_20 27 x1 (fun v_23 => (if x3 < v_23 then (some ((-1 : Int32), S_20)) else sd_cl (f_X11_has x4 v_22 S_20) (fun r_26 S_25 => (if r_26 = 0 then f_X11_letIn_b95 x2 x3 x4 x5 v_22 v_23 S_25 else (if x5 ≤ v_23 then f_X11_letIn_b95 x2 x3 x4 x5 v_22 v_23 S_25 else (some ((-1 : Int32), S_25)))))))))))))))))))
set_option maxHeartbeats 4000000 in
set_option maxRecDepth 100000 in
theorem c_X11_letIn {x1 : Int32} {x2 : Int32} {x3 : Int32} {x4 : Int32} {x5 : Int32} {S S' : sd_St} {r : Int32} (h : f_X11_letIn x1 x2 x3 x4 x5 S = some (r, S')) : Met l yX11_letIn (Cond.code yX11_letIn cX11_letIn 8 (some .int) :: sd_wl) (sd_rm 5) (sd_P D cy ad A b0 [.ref (ad 0), .int x1, .int x2, .int x3, .int x4, .int x5] S) (sd_Qi D cy ad A r S') 0 0 A := by
  refine sd_met (by decide) (Nat.le_of_ble_eq_true rfl) (fun p e s m args below meth c ls C X hl => ?_)
  obtain ⟨hx, hb, -, hml, hown, hts, -, hG⟩ := id C
  replace C : sd_C RX11 cX11_letIn 8 (some .int) D cy ad A b0 p s m args meth c := C
  replace hl : lv_has ls 8 [(0, .ref (ad 0)), (1, .int x1), (2, .int x2), (3, .int x3), (4, .int x4), (5, .int x5)] := hl
  unfold f_X11_letIn at h
  refine lv_aload_n hx hb dX11_letIn_0 rfl (lv_at hl 0 rfl) ?_
  refine lv_iload_n hx hb dX11_letIn_1 rfl (lv_at hl 1 rfl) ?_
  obtain ⟨r_6, S_5, er_6, h⟩ := sd_cl_some h
  refine k_X11_isSecret C X hl.1 er_6 sd_w28_9 (by decide) (Nat.le_of_ble_eq_true rfl) dX11_letIn_2 (fun H locs X => ?_)
  refine lv_if_eq (tgt := 42) hx hb dX11_letIn_5 (by decide) (fun c_7 => ?_) (fun c_7 => ?_)
  · have h := sd_ifp c_7 h
    refine lv_iconst (v := (-1 : Int32)) hx hb dX11_letIn_42 (by decide) ?_
    cases h
    exact sd_iret C X dX11_letIn_43
  · have h := sd_ifn c_7 h
    refine lv_aload_n hx hb dX11_letIn_8 rfl (lv_at hl 0 rfl) ?_
    refine lv_iload_n hx hb dX11_letIn_9 rfl (lv_at hl 2 rfl) ?_
    obtain ⟨r_9, S_8, er_9, h⟩ := sd_cl_some h
    refine k_X11_isPerson C X hl.1 er_9 sd_w24_5 (by decide) (Nat.le_of_ble_eq_true rfl) dX11_letIn_10 (fun H locs X => ?_)
    refine lv_if_eq (tgt := 42) hx hb dX11_letIn_13 (by decide) (fun c_10 => ?_) (fun c_10 => ?_)
    · have h := sd_ifp c_10 h
      refine lv_iconst (v := (-1 : Int32)) hx hb dX11_letIn_42 (by decide) ?_
      cases h
      exact sd_iret C X dX11_letIn_43
    · have h := sd_ifn c_10 h
      refine lv_aload_n hx hb dX11_letIn_16 rfl (lv_at hl 0 rfl) ?_
      refine lv_iload_n hx hb dX11_letIn_17 rfl (lv_at hl 3 rfl) ?_
      obtain ⟨r_12, S_11, er_12, h⟩ := sd_cl_some h
      refine k_X11_isDate C X hl.1 er_12 sd_w26_12 (by decide) (Nat.le_of_ble_eq_true rfl) dX11_letIn_18 (fun H locs X => ?_)
      refine lv_if_eq (tgt := 42) hx hb dX11_letIn_21 (by decide) (fun c_13 => ?_) (fun c_13 => ?_)
      · have h := sd_ifp c_13 h
        refine lv_iconst (v := (-1 : Int32)) hx hb dX11_letIn_42 (by decide) ?_
        cases h
        exact sd_iret C X dX11_letIn_43
      · have h := sd_ifn c_13 h
        refine lv_aload_n hx hb dX11_letIn_24 rfl (lv_at hl 0 rfl) ?_
        refine lv_iload hx hb dX11_letIn_25 (lv_at hl 4 rfl) ?_
        obtain ⟨r_15, S_14, er_15, h⟩ := sd_cl_some h
        refine k_X11_isSet C X hl.1 er_15 sd_w36_13 (by decide) (Nat.le_of_ble_eq_true rfl) dX11_letIn_27 (fun H locs X => ?_)
        refine lv_if_eq (tgt := 42) hx hb dX11_letIn_30 (by decide) (fun c_16 => ?_) (fun c_16 => ?_)
        · have h := sd_ifp c_16 h
          refine lv_iconst (v := (-1 : Int32)) hx hb dX11_letIn_42 (by decide) ?_
          cases h
          exact sd_iret C X dX11_letIn_43
        · have h := sd_ifn c_16 h
          refine lv_aload_n hx hb dX11_letIn_33 rfl (lv_at hl 0 rfl) ?_
          refine lv_iload hx hb dX11_letIn_34 (lv_at hl 5 rfl) ?_
          obtain ⟨r_18, S_17, er_18, h⟩ := sd_cl_some h
          refine k_X11_isDate C X hl.1 er_18 sd_w26_12 (by decide) (Nat.le_of_ble_eq_true rfl) dX11_letIn_36 (fun H locs X => ?_)
          refine lv_if_ne (tgt := 44) hx hb dX11_letIn_39 (by decide) (fun c_19 => ?_) (fun c_19 => ?_)
          · have h := sd_ifn c_19 h
            refine lv_aload_n hx hb dX11_letIn_44 rfl (lv_at hl 0 rfl) ?_
            obtain ⟨r_21, S_20, er_21, h⟩ := sd_cl_some h
            refine k_X11_bringUpToDate C X hl.1 er_21 sd_w28_14 (by decide) (Nat.le_of_ble_eq_true rfl) dX11_letIn_45 (fun H locs X => ?_)
            refine lv_aload_n hx hb dX11_letIn_48 rfl (lv_at hl 0 rfl) ?_
            refine sd_g11_1 (k := 0) C X (by decide) sd_w1_20 dX11_letIn_49 ?_
            refine sd_g8_12 (k := 17) C X (by decide) sd_w28_18 dX11_letIn_52 ?_
            refine lv_iload_n hx hb dX11_letIn_55 rfl (lv_at hl 1 rfl) ?_
            obtain ⟨b_22, v_22, e_22, h⟩ := sd_ld_some h
            refine sd_iald C X (by decide) b_22 dX11_letIn_56 (sd_nmi e_22 ?_)
            refine lv_istore (lv' := [(6, .int v_22), (0, .ref (ad 0)), (1, .int x1), (2, .int x2), (3, .int x3), (4, .int x4), (5, .int x5)]) hx hb dX11_letIn_57 hl (by decide) rfl (fun ls hl => ?_)
            refine lv_aload_n hx hb dX11_letIn_59 rfl (lv_at hl 1 rfl) ?_
            refine sd_g11_1 (k := 0) C X (by decide) sd_w1_20 dX11_letIn_60 ?_
            refine sd_g8_13 (k := 17) C X (by decide) sd_w28_19 dX11_letIn_63 ?_
            refine lv_iload_n hx hb dX11_letIn_66 rfl (lv_at hl 2 rfl) ?_
            obtain ⟨b_23, v_23, e_23, h⟩ := sd_ld_some h
            refine sd_iald C X (by decide) b_23 dX11_letIn_67 (sd_nmi e_23 ?_)
            refine lv_istore (lv' := [(7, .int v_23), (6, .int v_22), (0, .ref (ad 0)), (1, .int x1), (2, .int x2), (3, .int x3), (4, .int x4), (5, .int x5)]) hx hb dX11_letIn_68 hl (by decide) rfl (fun ls hl => ?_)
            refine lv_iload hx hb dX11_letIn_70 (lv_at hl 0 rfl) ?_
            refine lv_iload_n hx hb dX11_letIn_72 rfl (lv_at hl 5 rfl) ?_
            refine lv_icmp_gt (tgt := 93) hx hb dX11_letIn_73 (by decide) (fun c_24 => ?_) (fun c_24 => ?_)
            · have h := sd_ifp c_24 h
              refine lv_iconst (v := (-1 : Int32)) hx hb dX11_letIn_93 (by decide) ?_
              cases h
              exact sd_iret C X dX11_letIn_94
            · have h := sd_ifn c_24 h
              refine lv_iload hx hb dX11_letIn_76 (lv_at hl 6 rfl) ?_
              refine lv_iload hx hb dX11_letIn_78 (lv_at hl 1 rfl) ?_
              obtain ⟨r_26, S_25, er_26, h⟩ := sd_cl_some h
              refine k_X11_has C X hl.1 er_26 sd_w27_0 (by decide) (Nat.le_of_ble_eq_true rfl) dX11_letIn_80 (fun H locs X => ?_)
              refine lv_if_eq (tgt := 95) hx hb dX11_letIn_83 (by decide) (fun c_27 => ?_) (fun c_27 => ?_)
              · have h := sd_ifp c_27 h
                exact t_X11_letIn_b95 C x2 x3 x4 x5 v_22 v_23 S_25 _ _ _ h X (lv_sub hl [2, 4, 5, 6, 7, 1, 0] rfl)
              · have h := sd_ifn c_27 h
                refine lv_iload hx hb dX11_letIn_86 (lv_at hl 0 rfl) ?_
                refine lv_iload hx hb dX11_letIn_88 (lv_at hl 7 rfl) ?_
                refine lv_icmp_ge (tgt := 95) hx hb dX11_letIn_90 (by decide) (fun c_28 => ?_) (fun c_28 => ?_)
                · have h := sd_ifp c_28 h
                  exact t_X11_letIn_b95 C x2 x3 x4 x5 v_22 v_23 S_25 _ _ _ h X (lv_sub hl [2, 4, 5, 6, 7, 1, 0] rfl)
                · have h := sd_ifn c_28 h
                  refine lv_iconst (v := (-1 : Int32)) hx hb dX11_letIn_93 (by decide) ?_
                  cases h
                  exact sd_iret C X dX11_letIn_94
          · have h := sd_ifp c_19 h
            refine lv_iconst (v := (-1 : Int32)) hx hb dX11_letIn_42 (by decide) ?_
            cases h
            exact sd_iret C X dX11_letIn_43
theorem k_X11_letIn (C : sd_C own cc nL rt D cy ad A b0 p s m args meth c) (X : sd_H D cy ad A s S H locs) (hls : ls.size = nL) {x1 : Int32} {x2 : Int32} {x3 : Int32} {x4 : Int32} {x5 : Int32} {S2 : sd_St} {r : Int32} (h : f_X11_letIn x1 x2 x3 x4 x5 S = some (r, S2)) (hlink : Cond.methodLink own index yX11_letIn ∈ sd_wl) (hR : 6 ≤ R.frames ∧ 227 ≤ R.locals ∧ cells ≤ R.cells ∧ slots ≤ R.slots) (hst : (rest.map fun v => v.category).sum ≤ 8) (hdg : decode cc pc = .ok (.invokevirtual index, 3)) (kk : ∀ (H1 : Heap) (locs1 : List Loc), sd_H D cy ad A s S2 H1 locs1 → W p l e R s m args below meth c H1 locs1 cells slots Q (F0 m (pc + 3) ls (.int r :: rest))) : W p l e R s m args below meth c H locs cells slots Q (F0 m pc ls (.int x5 :: .int x4 :: .int x3 :: .int x2 :: .int x1 :: .ref (ad 0) :: rest)) :=
  sd_goI X (sd_runV C X hls (n := 5) (k := 0) (As := [.int x1, .int x2, .int x3, .int x4, .int x5]) (c_X11_letIn (l := l) (b0 := b0) h) (sd_goodV hlink sd_w36_10 sd_w36_11 sd_w1_2 sd_w36_12) (ci := 11) rfl (by rw [(show sd_kd 0 = 11 by decide)]; decide) (sd_c11 (show sd_kd 0 = 11 by decide)) (by decide +kernel) rfl hR rfl hst hdg) kk
/-! ===== SecretDays.cut(III)I ===== -/
def f_X11_cut (x1 : Int32) (x2 : Int32) (x3 : Int32) (S : sd_St) : Option (Int32 × sd_St) := sd_cl (f_X11_isSecret x1 S) (fun r_2 S_1 => (if r_2 = 0 then (some ((-1 : Int32), S_1)) else sd_cl (f_X11_isPerson x2 S_1) (fun r_5 S_4 => (if r_5 = 0 then (some ((-1 : Int32), S_4)) else sd_cl (f_X11_isDate x3 S_4) (fun r_8 S_7 => (if r_8 = 0 then (some ((-1 : Int32), S_7)) else sd_ld S_7 26 x1 (fun v_10 => (if x2 = v_10 then (some ((-1 : Int32), S_7)) else sd_cl (f_X11_bringUpToDate S_7) (fun _ S_12 => sd_ld S_12 26 x1 (fun v_14 => sd_ld S_12 27 x1 (fun v_15 => sd_cl (f_X6_fewest 62 28 v_14 v_15 x2 x3 S_12) (fun r_17 S_16 => (some (r_17, S_16))))))))))))))
set_option maxHeartbeats 4000000 in
set_option maxRecDepth 100000 in
theorem c_X11_cut {x1 : Int32} {x2 : Int32} {x3 : Int32} {S S' : sd_St} {r : Int32} (h : f_X11_cut x1 x2 x3 S = some (r, S')) : Met l yX11_cut (Cond.code yX11_cut cX11_cut 4 (some .int) :: sd_wl) (sd_rm 5) (sd_P D cy ad A b0 [.ref (ad 0), .int x1, .int x2, .int x3] S) (sd_Qi D cy ad A r S') 0 0 A := by
  refine sd_met (by decide) (Nat.le_of_ble_eq_true rfl) (fun p e s m args below meth c ls C X hl => ?_)
  obtain ⟨hx, hb, -, hml, hown, hts, -, hG⟩ := id C
  replace C : sd_C RX11 cX11_cut 4 (some .int) D cy ad A b0 p s m args meth c := C
  replace hl : lv_has ls 4 [(0, .ref (ad 0)), (1, .int x1), (2, .int x2), (3, .int x3)] := hl
  unfold f_X11_cut at h
  refine lv_aload_n hx hb dX11_cut_0 rfl (lv_at hl 0 rfl) ?_
  refine lv_iload_n hx hb dX11_cut_1 rfl (lv_at hl 1 rfl) ?_
  obtain ⟨r_2, S_1, er_2, h⟩ := sd_cl_some h
  refine k_X11_isSecret C X hl.1 er_2 sd_w28_9 (by decide) (Nat.le_of_ble_eq_true rfl) dX11_cut_2 (fun H locs X => ?_)
  refine lv_if_eq (tgt := 37) hx hb dX11_cut_5 (by decide) (fun c_3 => ?_) (fun c_3 => ?_)
  · have h := sd_ifp c_3 h
    refine lv_iconst (v := (-1 : Int32)) hx hb dX11_cut_37 (by decide) ?_
    cases h
    exact sd_iret C X dX11_cut_38
  · have h := sd_ifn c_3 h
    refine lv_aload_n hx hb dX11_cut_8 rfl (lv_at hl 0 rfl) ?_
    refine lv_iload_n hx hb dX11_cut_9 rfl (lv_at hl 2 rfl) ?_
    obtain ⟨r_5, S_4, er_5, h⟩ := sd_cl_some h
    refine k_X11_isPerson C X hl.1 er_5 sd_w24_5 (by decide) (Nat.le_of_ble_eq_true rfl) dX11_cut_10 (fun H locs X => ?_)
    refine lv_if_eq (tgt := 37) hx hb dX11_cut_13 (by decide) (fun c_6 => ?_) (fun c_6 => ?_)
    · have h := sd_ifp c_6 h
      refine lv_iconst (v := (-1 : Int32)) hx hb dX11_cut_37 (by decide) ?_
      cases h
      exact sd_iret C X dX11_cut_38
    · have h := sd_ifn c_6 h
      refine lv_aload_n hx hb dX11_cut_16 rfl (lv_at hl 0 rfl) ?_
      refine lv_iload_n hx hb dX11_cut_17 rfl (lv_at hl 3 rfl) ?_
      obtain ⟨r_8, S_7, er_8, h⟩ := sd_cl_some h
      refine k_X11_isDate C X hl.1 er_8 sd_w26_12 (by decide) (Nat.le_of_ble_eq_true rfl) dX11_cut_18 (fun H locs X => ?_)
      refine lv_if_eq (tgt := 37) hx hb dX11_cut_21 (by decide) (fun c_9 => ?_) (fun c_9 => ?_)
      · have h := sd_ifp c_9 h
        refine lv_iconst (v := (-1 : Int32)) hx hb dX11_cut_37 (by decide) ?_
        cases h
        exact sd_iret C X dX11_cut_38
      · have h := sd_ifn c_9 h
        refine lv_iload_n hx hb dX11_cut_24 rfl (lv_at hl 2 rfl) ?_
        refine lv_aload_n hx hb dX11_cut_25 rfl (lv_at hl 0 rfl) ?_
        refine sd_g11_1 (k := 0) C X (by decide) sd_w1_20 dX11_cut_26 ?_
        refine sd_g8_12 (k := 17) C X (by decide) sd_w28_18 dX11_cut_29 ?_
        refine lv_iload_n hx hb dX11_cut_32 rfl (lv_at hl 1 rfl) ?_
        obtain ⟨b_10, v_10, e_10, h⟩ := sd_ld_some h
        refine sd_iald C X (by decide) b_10 dX11_cut_33 (sd_nmi e_10 ?_)
        refine lv_icmp_ne (tgt := 39) hx hb dX11_cut_34 (by decide) (fun c_11 => ?_) (fun c_11 => ?_)
        · have h := sd_ifn c_11 h
          refine lv_aload_n hx hb dX11_cut_39 rfl (lv_at hl 0 rfl) ?_
          obtain ⟨r_13, S_12, er_13, h⟩ := sd_cl_some h
          refine k_X11_bringUpToDate C X hl.1 er_13 sd_w28_14 (by decide) (Nat.le_of_ble_eq_true rfl) dX11_cut_40 (fun H locs X => ?_)
          refine lv_aload_n hx hb dX11_cut_43 rfl (lv_at hl 0 rfl) ?_
          refine sd_g11_6 (k := 0) C X (by decide) sd_w2_13 dX11_cut_44 ?_
          refine lv_aload_n hx hb dX11_cut_47 rfl (lv_at hl 0 rfl) ?_
          refine sd_g11_2 (k := 0) C X (by decide) sd_w2_0 dX11_cut_48 ?_
          refine lv_aload_n hx hb dX11_cut_51 rfl (lv_at hl 0 rfl) ?_
          refine sd_g11_1 (k := 0) C X (by decide) sd_w1_20 dX11_cut_52 ?_
          refine sd_g8_12 (k := 17) C X (by decide) sd_w28_18 dX11_cut_55 ?_
          refine lv_iload_n hx hb dX11_cut_58 rfl (lv_at hl 1 rfl) ?_
          obtain ⟨b_14, v_14, e_14, h⟩ := sd_ld_some h
          refine sd_iald C X (by decide) b_14 dX11_cut_59 (sd_nmi e_14 ?_)
          refine lv_aload_n hx hb dX11_cut_60 rfl (lv_at hl 0 rfl) ?_
          refine sd_g11_1 (k := 0) C X (by decide) sd_w1_20 dX11_cut_61 ?_
          refine sd_g8_13 (k := 17) C X (by decide) sd_w28_19 dX11_cut_64 ?_
          refine lv_iload_n hx hb dX11_cut_67 rfl (lv_at hl 1 rfl) ?_
          obtain ⟨b_15, v_15, e_15, h⟩ := sd_ld_some h
          refine sd_iald C X (by decide) b_15 dX11_cut_68 (sd_nmi e_15 ?_)
          refine lv_iload_n hx hb dX11_cut_69 rfl (lv_at hl 2 rfl) ?_
          refine lv_iload_n hx hb dX11_cut_70 rfl (lv_at hl 3 rfl) ?_
          obtain ⟨r_17, S_16, er_17, h⟩ := sd_cl_some h
          refine k_X6_fewest C X hl.1 (by decide) (by decide) er_17 sd_w38_4 (by decide) (Nat.le_of_ble_eq_true rfl) dX11_cut_71 (fun H locs X => ?_)
          cases h
          exact sd_iret C X dX11_cut_74
        · have h := sd_ifp c_11 h
          refine lv_iconst (v := (-1 : Int32)) hx hb dX11_cut_37 (by decide) ?_
          cases h
          exact sd_iret C X dX11_cut_38
theorem k_X11_cut (C : sd_C own cc nL rt D cy ad A b0 p s m args meth c) (X : sd_H D cy ad A s S H locs) (hls : ls.size = nL) {x1 : Int32} {x2 : Int32} {x3 : Int32} {S2 : sd_St} {r : Int32} (h : f_X11_cut x1 x2 x3 S = some (r, S2)) (hlink : Cond.methodLink own index yX11_cut ∈ sd_wl) (hR : 6 ≤ R.frames ∧ 223 ≤ R.locals ∧ cells ≤ R.cells ∧ slots ≤ R.slots) (hst : (rest.map fun v => v.category).sum ≤ 8) (hdg : decode cc pc = .ok (.invokevirtual index, 3)) (kk : ∀ (H1 : Heap) (locs1 : List Loc), sd_H D cy ad A s S2 H1 locs1 → W p l e R s m args below meth c H1 locs1 cells slots Q (F0 m (pc + 3) ls (.int r :: rest))) : W p l e R s m args below meth c H locs cells slots Q (F0 m pc ls (.int x3 :: .int x2 :: .int x1 :: .ref (ad 0) :: rest)) :=
  sd_goI X (sd_runV C X hls (n := 3) (k := 0) (As := [.int x1, .int x2, .int x3]) (c_X11_cut (l := l) (b0 := b0) h) (sd_goodV hlink sd_w38_1 sd_w38_2 sd_w1_2 sd_w38_3) (ci := 11) rfl (by rw [(show sd_kd 0 = 11 by decide)]; decide) (sd_c11 (show sd_kd 0 = 11 by decide)) (by decide +kernel) rfl hR rfl hst hdg) kk
/-! ===== SecretDays.isOneOfTwo(I)Z ===== -/
def f_X11_isOneOfTwo (x0 : Int32) (S : sd_St) : Option (Int32 × sd_St) := (if x0 = 0 then (some ((1 : Int32), S)) else (if x0 = (1 : Int32) then (some ((1 : Int32), S)) else (some ((0 : Int32), S))))
set_option maxHeartbeats 4000000 in
set_option maxRecDepth 100000 in
theorem c_X11_isOneOfTwo {x0 : Int32} {S S' : sd_St} {r : Int32} (h : f_X11_isOneOfTwo x0 S = some (r, S')) : Met l yX11_isOneOfTwo (Cond.code yX11_isOneOfTwo cX11_isOneOfTwo 1 (some .boolean) :: sd_wl) (sd_rm 0) (sd_P D cy ad A b0 [.int x0] S) (sd_Qi D cy ad A r S') 0 0 A := by
  refine sd_met (by decide) (Nat.le_of_ble_eq_true rfl) (fun p e s m args below meth c ls C X hl => ?_)
  obtain ⟨hx, hb, -, hml, hown, hts, -, hG⟩ := id C
  replace C : sd_C RX11 cX11_isOneOfTwo 1 (some .boolean) D cy ad A b0 p s m args meth c := C
  replace hl : lv_has ls 1 [(0, .int x0)] := hl
  unfold f_X11_isOneOfTwo at h
  refine lv_iload_n hx hb dX11_isOneOfTwo_0 rfl (lv_at hl 0 rfl) ?_
  refine lv_if_eq (tgt := 9) hx hb dX11_isOneOfTwo_1 (by decide) (fun c_1 => ?_) (fun c_1 => ?_)
  · have h := sd_ifp c_1 h
    refine lv_iconst (v := (1 : Int32)) hx hb dX11_isOneOfTwo_9 (by decide) ?_
    refine lv_goto (tgt := 14) hx hb dX11_isOneOfTwo_10 (by decide) ?_
    cases h
    exact sd_zret C X (by decide) dX11_isOneOfTwo_14
  · have h := sd_ifn c_1 h
    refine lv_iload_n hx hb dX11_isOneOfTwo_4 rfl (lv_at hl 0 rfl) ?_
    refine lv_iconst (v := (1 : Int32)) hx hb dX11_isOneOfTwo_5 (by decide) ?_
    refine lv_icmp_ne (tgt := 13) hx hb dX11_isOneOfTwo_6 (by decide) (fun c_2 => ?_) (fun c_2 => ?_)
    · have h := sd_ifn c_2 h
      refine lv_iconst (v := (0 : Int32)) hx hb dX11_isOneOfTwo_13 (by decide) ?_
      cases h
      exact sd_zret C X (by decide) dX11_isOneOfTwo_14
    · have h := sd_ifp c_2 h
      refine lv_iconst (v := (1 : Int32)) hx hb dX11_isOneOfTwo_9 (by decide) ?_
      refine lv_goto (tgt := 14) hx hb dX11_isOneOfTwo_10 (by decide) ?_
      cases h
      exact sd_zret C X (by decide) dX11_isOneOfTwo_14
theorem k_X11_isOneOfTwo (C : sd_C own cc nL rt D cy ad A b0 p s m args meth c) (X : sd_H D cy ad A s S H locs) (hls : ls.size = nL) {x0 : Int32} {S2 : sd_St} {r : Int32} (h : f_X11_isOneOfTwo x0 S = some (r, S2)) (hlink : Cond.methodLink own index yX11_isOneOfTwo ∈ sd_wl) (hR : 1 ≤ R.frames ∧ 20 ≤ R.locals ∧ cells ≤ R.cells ∧ slots ≤ R.slots) (hst : (rest.map fun v => v.category).sum ≤ 8) (hdg : decode cc pc = .ok (.invokestatic index, 3)) (kk : ∀ (H1 : Heap) (locs1 : List Loc), sd_H D cy ad A s S2 H1 locs1 → W p l e R s m args below meth c H1 locs1 cells slots Q (F0 m (pc + 3) ls (.int r :: rest))) : W p l e R s m args below meth c H locs cells slots Q (F0 m pc ls (.int x0 :: rest)) :=
  sd_goI X (sd_runJ C X hls (n := 1) (As := [.int x0]) (c_X11_isOneOfTwo (l := l) (b0 := b0) h) hlink sd_w41_9 sd_w1_2 sd_w41_10 (by decide +kernel) rfl hR rfl hst hdg) kk
/-! ===== SecretDays.meet(III)I ===== -/
def f_X11_meet_b123 (q43 : (Int32 → Int32 → Int32 → Int32 → Int32 → Int32 → sd_St → Option (Int32 × sd_St))) (x1 : Int32) (x2 : Int32) (x3 : Int32) (x4 : Int32) (x5 : Int32) (x6 : Int32) (S : sd_St) : Option (Int32 × sd_St) := q43 x1 x2 x3 x4 x5 (x6 + (1 : Int32)) S
set_option maxHeartbeats 4000000 in
set_option maxRecDepth 100000 in
theorem t_X11_meet_b123 (C : sd_C RX11 cX11_meet 10 (some .int) D cy ad A b0 p s m args meth c) {r : Int32} {S' : sd_St} {q43 : (Int32 → Int32 → Int32 → Int32 → Int32 → Int32 → sd_St → Option (Int32 × sd_St))} (hq43 : ∀ (x1 : Int32) (x2 : Int32) (x3 : Int32) (x4 : Int32) (x5 : Int32) (x6 : Int32) (S : sd_St) (H : Heap) (locs : List Loc) (ls : Array Slot), q43 x1 x2 x3 x4 x5 x6 S = some (r, S') → sd_H D cy ad A s S H locs → lv_has ls 10 [(0, .ref (ad 0)), (1, .int x1), (2, .int x2), (3, .int x3), (4, .int x4), (5, .int x5), (6, .int x6)] → W p l e (sd_rm 5) s m args below meth c H locs 0 0 (MQ below (sd_Qi D cy ad A r S') args s 0 0 A) (F0 m 43 ls [])) : ∀ (x1 : Int32) (x2 : Int32) (x3 : Int32) (x4 : Int32) (x5 : Int32) (x6 : Int32) (S : sd_St) (H : Heap) (locs : List Loc) (ls : Array Slot), f_X11_meet_b123 q43 x1 x2 x3 x4 x5 x6 S = some (r, S') → sd_H D cy ad A s S H locs → lv_has ls 10 [(0, .ref (ad 0)), (1, .int x1), (2, .int x2), (3, .int x3), (4, .int x4), (5, .int x5), (6, .int x6)] → W p l e (sd_rm 5) s m args below meth c H locs 0 0 (MQ below (sd_Qi D cy ad A r S') args s 0 0 A) (F0 m 123 ls []) := by
  obtain ⟨hx, hb, -, hml, hown, hts, -, hG⟩ := id C
  intro x1 x2 x3 x4 x5 x6 S H locs ls h X hl
  unfold f_X11_meet_b123 at h
  refine lv_iinc (v := (x6 + (1 : Int32))) (lv' := [(6, .int (x6 + (1 : Int32))), (0, .ref (ad 0)), (1, .int x1), (2, .int x2), (3, .int x3), (4, .int x4), (5, .int x5)]) hx hb dX11_meet_123 hl (k := 6) rfl rfl (by decide) rfl (fun ls hl => ?_)
  refine lv_goto (tgt := 43) hx hb dX11_meet_126 (by decide) ?_
  exact hq43 x1 x2 x3 x4 x5 (x6 + (1 : Int32)) S _ _ _ h X (lv_sub hl [1, 2, 3, 4, 5, 6, 0] rfl)
def f_X11_meet_b115 (q43 : (Int32 → Int32 → Int32 → Int32 → Int32 → Int32 → sd_St → Option (Int32 × sd_St))) (x1 : Int32) (x2 : Int32) (x3 : Int32) (x6 : Int32) (x9 : Int32) (S : sd_St) : Option (Int32 × sd_St) := f_X11_meet_b123 q43 x1 x2 x3 x9 x6 x6 S
set_option maxHeartbeats 4000000 in
set_option maxRecDepth 100000 in
theorem t_X11_meet_b115 (C : sd_C RX11 cX11_meet 10 (some .int) D cy ad A b0 p s m args meth c) {r : Int32} {S' : sd_St} {q43 : (Int32 → Int32 → Int32 → Int32 → Int32 → Int32 → sd_St → Option (Int32 × sd_St))} (hq43 : ∀ (x1 : Int32) (x2 : Int32) (x3 : Int32) (x4 : Int32) (x5 : Int32) (x6 : Int32) (S : sd_St) (H : Heap) (locs : List Loc) (ls : Array Slot), q43 x1 x2 x3 x4 x5 x6 S = some (r, S') → sd_H D cy ad A s S H locs → lv_has ls 10 [(0, .ref (ad 0)), (1, .int x1), (2, .int x2), (3, .int x3), (4, .int x4), (5, .int x5), (6, .int x6)] → W p l e (sd_rm 5) s m args below meth c H locs 0 0 (MQ below (sd_Qi D cy ad A r S') args s 0 0 A) (F0 m 43 ls [])) : ∀ (x1 : Int32) (x2 : Int32) (x3 : Int32) (x6 : Int32) (x9 : Int32) (S : sd_St) (H : Heap) (locs : List Loc) (ls : Array Slot), f_X11_meet_b115 q43 x1 x2 x3 x6 x9 S = some (r, S') → sd_H D cy ad A s S H locs → lv_has ls 10 [(0, .ref (ad 0)), (1, .int x1), (2, .int x2), (3, .int x3), (6, .int x6), (9, .int x9)] → W p l e (sd_rm 5) s m args below meth c H locs 0 0 (MQ below (sd_Qi D cy ad A r S') args s 0 0 A) (F0 m 115 ls []) := by
  obtain ⟨hx, hb, -, hml, hown, hts, -, hG⟩ := id C
  intro x1 x2 x3 x6 x9 S H locs ls h X hl
  unfold f_X11_meet_b115 at h
  refine lv_iload hx hb dX11_meet_115 (lv_at hl 5 rfl) ?_
  refine lv_istore (lv' := [(4, .int x9), (0, .ref (ad 0)), (1, .int x1), (2, .int x2), (3, .int x3), (6, .int x6), (9, .int x9)]) hx hb dX11_meet_117 hl (by decide) rfl (fun ls hl => ?_)
  refine lv_iload hx hb dX11_meet_119 (lv_at hl 5 rfl) ?_
  refine lv_istore (lv' := [(5, .int x6), (4, .int x9), (0, .ref (ad 0)), (1, .int x1), (2, .int x2), (3, .int x3), (6, .int x6), (9, .int x9)]) hx hb dX11_meet_121 hl (by decide) rfl (fun ls hl => ?_)
  exact t_X11_meet_b123 C hq43 x1 x2 x3 x9 x6 x6 S _ _ _ h X (lv_sub hl [2, 3, 4, 5, 1, 0, 6] rfl)
def f_X11_meet_l43 : Nat → Int32 → Int32 → Int32 → Int32 → Int32 → Int32 → sd_St → Option (Int32 × sd_St)
  | 0 => fun _ _ _ _ _ _ _ => none
  | n + 1 => fun x1 x2 x3 x4 x5 x6 S => (if (S.1 17 0) ≤ x6 then (if x3 = 0 then (some (x4, S)) else (some (x5, S))) else sd_in x1 (sd_al 33) (sd_nm (34 + 5 * x1.toNatClampNeg) (fun q_4 => sd_cl (f_X5_had q_4 x6 S) (fun r_6 S_5 => sd_in x2 (sd_al 33) (sd_nm (34 + 5 * x2.toNatClampNeg) (fun q_8 => sd_cl (f_X5_had q_8 x6 S_5) (fun r_10 S_9 => sd_nm (sd_mx r_6 r_10) (fun v_11 => (if r_6 = (-1 : Int32) then f_X11_meet_b123 (f_X11_meet_l43 n) x1 x2 x3 x4 x5 x6 S_9 else (if r_10 = (-1 : Int32) then f_X11_meet_b123 (f_X11_meet_l43 n) x1 x2 x3 x4 x5 x6 S_9 else (if x4 = (-1 : Int32) then f_X11_meet_b115 (f_X11_meet_l43 n) x1 x2 x3 x6 v_11 S_9 else (if x4 ≤ v_11 then f_X11_meet_b123 (f_X11_meet_l43 n) x1 x2 x3 x4 x5 x6 S_9 else f_X11_meet_b115 (f_X11_meet_l43 n) x1 x2 x3 x6 v_11 S_9))))))))))))
set_option maxHeartbeats 4000000 in
set_option maxRecDepth 100000 in
theorem t_X11_meet_l43 (C : sd_C RX11 cX11_meet 10 (some .int) D cy ad A b0 p s m args meth c) {r : Int32} {S' : sd_St} : ∀ (n : Nat) (x1 : Int32) (x2 : Int32) (x3 : Int32) (x4 : Int32) (x5 : Int32) (x6 : Int32) (S : sd_St) (H : Heap) (locs : List Loc) (ls : Array Slot), f_X11_meet_l43 n x1 x2 x3 x4 x5 x6 S = some (r, S') → sd_H D cy ad A s S H locs → lv_has ls 10 [(0, .ref (ad 0)), (1, .int x1), (2, .int x2), (3, .int x3), (4, .int x4), (5, .int x5), (6, .int x6)] → W p l e (sd_rm 5) s m args below meth c H locs 0 0 (MQ below (sd_Qi D cy ad A r S') args s 0 0 A) (F0 m 43 ls []) := by
  obtain ⟨hx, hb, -, hml, hown, hts, -, hG⟩ := id C
  intro n
  induction n with
  | zero => intro x1 x2 x3 x4 x5 x6 S H locs ls h; cases h
  | succ n ih =>
    intro x1 x2 x3 x4 x5 x6 S H locs ls h X hl
    unfold f_X11_meet_l43 at h
    refine lv_iload hx hb dX11_meet_43 (lv_at hl 6 rfl) ?_
    refine lv_aload_n hx hb dX11_meet_45 rfl (lv_at hl 0 rfl) ?_
    refine sd_g11_1 (k := 0) C X (by decide) sd_w1_20 dX11_meet_46 ?_
    refine sd_g8_0 C X (by decide) sd_w24_9 dX11_meet_49 ?_
    refine lv_icmp_ge (tgt := 129) hx hb dX11_meet_52 (by decide) (fun c_1 => ?_) (fun c_1 => ?_)
    · have h := sd_ifp c_1 h
      refine lv_iload_n hx hb dX11_meet_129 rfl (lv_at hl 3 rfl) ?_
      refine lv_if_ne (tgt := 138) hx hb dX11_meet_130 (by decide) (fun c_2 => ?_) (fun c_2 => ?_)
      · have h := sd_ifn c_2 h
        refine lv_iload hx hb dX11_meet_138 (lv_at hl 5 rfl) ?_
        cases h
        exact sd_iret C X dX11_meet_140
      · have h := sd_ifp c_2 h
        refine lv_iload hx hb dX11_meet_133 (lv_at hl 4 rfl) ?_
        refine lv_goto (tgt := 140) hx hb dX11_meet_135 (by decide) ?_
        cases h
        exact sd_iret C X dX11_meet_140
    · have h := sd_ifn c_1 h
      refine lv_aload_n hx hb dX11_meet_55 rfl (lv_at hl 0 rfl) ?_
      refine sd_g11_3 (k := 0) C X (by decide) sd_w2_2 dX11_meet_56 ?_
      refine lv_iload_n hx hb dX11_meet_59 rfl (lv_at hl 1 rfl) ?_
      obtain ⟨b_3, h⟩ := sd_in_some h
      obtain ⟨q_4, eq_4, h⟩ := sd_nm_some h
      have hq_4 : sd_kd q_4 = 5 := sd_e5 (by decide) b_3 eq_4
      refine sd_aald5 C X (by decide) b_3 dX11_meet_60 ?_
      rw [← eq_4]
      refine lv_iload hx hb dX11_meet_61 (lv_at hl 6 rfl) ?_
      obtain ⟨r_6, S_5, er_6, h⟩ := sd_cl_some h
      refine k_X5_had C X hl.1 hq_4 er_6 sd_w31_2 (by decide) (Nat.le_of_ble_eq_true rfl) dX11_meet_63 (fun H locs X => ?_)
      refine lv_istore (lv' := [(7, .int r_6), (0, .ref (ad 0)), (1, .int x1), (2, .int x2), (3, .int x3), (4, .int x4), (5, .int x5), (6, .int x6)]) hx hb dX11_meet_66 hl (by decide) rfl (fun ls hl => ?_)
      refine lv_aload_n hx hb dX11_meet_68 rfl (lv_at hl 1 rfl) ?_
      refine sd_g11_3 (k := 0) C X (by decide) sd_w2_2 dX11_meet_69 ?_
      refine lv_iload_n hx hb dX11_meet_72 rfl (lv_at hl 3 rfl) ?_
      obtain ⟨b_7, h⟩ := sd_in_some h
      obtain ⟨q_8, eq_8, h⟩ := sd_nm_some h
      have hq_8 : sd_kd q_8 = 5 := sd_e5 (by decide) b_7 eq_8
      refine sd_aald5 C X (by decide) b_7 dX11_meet_73 ?_
      rw [← eq_8]
      refine lv_iload hx hb dX11_meet_74 (lv_at hl 7 rfl) ?_
      obtain ⟨r_10, S_9, er_10, h⟩ := sd_cl_some h
      refine k_X5_had C X hl.1 hq_8 er_10 sd_w31_2 (by decide) (Nat.le_of_ble_eq_true rfl) dX11_meet_76 (fun H locs X => ?_)
      refine lv_istore (lv' := [(8, .int r_10), (7, .int r_6), (0, .ref (ad 0)), (1, .int x1), (2, .int x2), (3, .int x3), (4, .int x4), (5, .int x5), (6, .int x6)]) hx hb dX11_meet_79 hl (by decide) rfl (fun ls hl => ?_)
      refine lv_iload hx hb dX11_meet_81 (lv_at hl 1 rfl) ?_
      refine lv_iload hx hb dX11_meet_83 (lv_at hl 0 rfl) ?_
      obtain ⟨v_11, e_11, h⟩ := sd_nm_some h
      refine sd_max C hl.1 sd_w35_17 (by decide) (Nat.le_of_ble_eq_true rfl) dX11_meet_85 (sd_nmi e_11 ?_)
      refine lv_istore (lv' := [(9, .int v_11), (8, .int r_10), (7, .int r_6), (0, .ref (ad 0)), (1, .int x1), (2, .int x2), (3, .int x3), (4, .int x4), (5, .int x5), (6, .int x6)]) hx hb dX11_meet_88 hl (by decide) rfl (fun ls hl => ?_)
      refine lv_iload hx hb dX11_meet_90 (lv_at hl 2 rfl) ?_
      refine lv_iconst (v := (-1 : Int32)) hx hb dX11_meet_92 (by decide) ?_
      refine lv_icmp_eq (tgt := 123) hx hb dX11_meet_93 (by decide) (fun c_12 => ?_) (fun c_12 => ?_)
      · have h := sd_ifp c_12 h
        exact t_X11_meet_b123 C ih x1 x2 x3 x4 x5 x6 S_9 _ _ _ h X (lv_sub hl [3, 4, 5, 6, 7, 8, 9] rfl)
      · have h := sd_ifn c_12 h
        refine lv_iload hx hb dX11_meet_96 (lv_at hl 1 rfl) ?_
        refine lv_iconst (v := (-1 : Int32)) hx hb dX11_meet_98 (by decide) ?_
        refine lv_icmp_eq (tgt := 123) hx hb dX11_meet_99 (by decide) (fun c_13 => ?_) (fun c_13 => ?_)
        · have h := sd_ifp c_13 h
          exact t_X11_meet_b123 C ih x1 x2 x3 x4 x5 x6 S_9 _ _ _ h X (lv_sub hl [3, 4, 5, 6, 7, 8, 9] rfl)
        · have h := sd_ifn c_13 h
          refine lv_iload hx hb dX11_meet_102 (lv_at hl 7 rfl) ?_
          refine lv_iconst (v := (-1 : Int32)) hx hb dX11_meet_104 (by decide) ?_
          refine lv_icmp_eq (tgt := 115) hx hb dX11_meet_105 (by decide) (fun c_14 => ?_) (fun c_14 => ?_)
          · have h := sd_ifp c_14 h
            exact t_X11_meet_b115 C ih x1 x2 x3 x6 v_11 S_9 _ _ _ h X (lv_sub hl [3, 4, 5, 6, 9, 0] rfl)
          · have h := sd_ifn c_14 h
            refine lv_iload hx hb dX11_meet_108 (lv_at hl 0 rfl) ?_
            refine lv_iload hx hb dX11_meet_110 (lv_at hl 7 rfl) ?_
            refine lv_icmp_ge (tgt := 123) hx hb dX11_meet_112 (by decide) (fun c_15 => ?_) (fun c_15 => ?_)
            · have h := sd_ifp c_15 h
              exact t_X11_meet_b123 C ih x1 x2 x3 x4 x5 x6 S_9 _ _ _ h X (lv_sub hl [3, 4, 5, 6, 7, 8, 9] rfl)
            · have h := sd_ifn c_15 h
              exact t_X11_meet_b115 C ih x1 x2 x3 x6 v_11 S_9 _ _ _ h X (lv_sub hl [3, 4, 5, 6, 9, 0] rfl)
def f_X11_meet (x1 : Int32) (x2 : Int32) (x3 : Int32) (S : sd_St) : Option (Int32 × sd_St) := sd_cl (f_X11_isSecret x1 S) (fun r_17 S_16 => (if r_17 = 0 then (some ((-1 : Int32), S_16)) else sd_cl (f_X11_isSecret x2 S_16) (fun r_20 S_19 => (if r_20 = 0 then (some ((-1 : Int32), S_19)) else (if x1 = x2 then (some ((-1 : Int32), S_19)) else sd_cl (f_X11_isOneOfTwo x3 S_19) (fun r_24 S_23 => (if r_24 = 0 then (some ((-1 : Int32), S_23)) else sd_cl (f_X11_bringUpToDate S_23) (fun _ S_26 => f_X11_meet_l43 sd_FU x1 x2 x3 (-1 : Int32) (-1 : Int32) (0 : Int32) S_26))))))))
set_option maxHeartbeats 4000000 in
set_option maxRecDepth 100000 in
theorem c_X11_meet {x1 : Int32} {x2 : Int32} {x3 : Int32} {S S' : sd_St} {r : Int32} (h : f_X11_meet x1 x2 x3 S = some (r, S')) : Met l yX11_meet (Cond.code yX11_meet cX11_meet 10 (some .int) :: sd_wl) (sd_rm 5) (sd_P D cy ad A b0 [.ref (ad 0), .int x1, .int x2, .int x3] S) (sd_Qi D cy ad A r S') 0 0 A := by
  refine sd_met (by decide) (Nat.le_of_ble_eq_true rfl) (fun p e s m args below meth c ls C X hl => ?_)
  obtain ⟨hx, hb, -, hml, hown, hts, -, hG⟩ := id C
  replace C : sd_C RX11 cX11_meet 10 (some .int) D cy ad A b0 p s m args meth c := C
  replace hl : lv_has ls 10 [(0, .ref (ad 0)), (1, .int x1), (2, .int x2), (3, .int x3)] := hl
  unfold f_X11_meet at h
  refine lv_aload_n hx hb dX11_meet_0 rfl (lv_at hl 0 rfl) ?_
  refine lv_iload_n hx hb dX11_meet_1 rfl (lv_at hl 1 rfl) ?_
  obtain ⟨r_17, S_16, er_17, h⟩ := sd_cl_some h
  refine k_X11_isSecret C X hl.1 er_17 sd_w28_9 (by decide) (Nat.le_of_ble_eq_true rfl) dX11_meet_2 (fun H locs X => ?_)
  refine lv_if_eq (tgt := 28) hx hb dX11_meet_5 (by decide) (fun c_18 => ?_) (fun c_18 => ?_)
  · have h := sd_ifp c_18 h
    refine lv_iconst (v := (-1 : Int32)) hx hb dX11_meet_28 (by decide) ?_
    cases h
    exact sd_iret C X dX11_meet_29
  · have h := sd_ifn c_18 h
    refine lv_aload_n hx hb dX11_meet_8 rfl (lv_at hl 0 rfl) ?_
    refine lv_iload_n hx hb dX11_meet_9 rfl (lv_at hl 2 rfl) ?_
    obtain ⟨r_20, S_19, er_20, h⟩ := sd_cl_some h
    refine k_X11_isSecret C X hl.1 er_20 sd_w28_9 (by decide) (Nat.le_of_ble_eq_true rfl) dX11_meet_10 (fun H locs X => ?_)
    refine lv_if_eq (tgt := 28) hx hb dX11_meet_13 (by decide) (fun c_21 => ?_) (fun c_21 => ?_)
    · have h := sd_ifp c_21 h
      refine lv_iconst (v := (-1 : Int32)) hx hb dX11_meet_28 (by decide) ?_
      cases h
      exact sd_iret C X dX11_meet_29
    · have h := sd_ifn c_21 h
      refine lv_iload_n hx hb dX11_meet_16 rfl (lv_at hl 1 rfl) ?_
      refine lv_iload_n hx hb dX11_meet_17 rfl (lv_at hl 2 rfl) ?_
      refine lv_icmp_eq (tgt := 28) hx hb dX11_meet_18 (by decide) (fun c_22 => ?_) (fun c_22 => ?_)
      · have h := sd_ifp c_22 h
        refine lv_iconst (v := (-1 : Int32)) hx hb dX11_meet_28 (by decide) ?_
        cases h
        exact sd_iret C X dX11_meet_29
      · have h := sd_ifn c_22 h
        refine lv_iload_n hx hb dX11_meet_21 rfl (lv_at hl 3 rfl) ?_
        obtain ⟨r_24, S_23, er_24, h⟩ := sd_cl_some h
        refine k_X11_isOneOfTwo C X hl.1 er_24 sd_w41_8 (by decide) (Nat.le_of_ble_eq_true rfl) dX11_meet_22 (fun H locs X => ?_)
        refine lv_if_ne (tgt := 30) hx hb dX11_meet_25 (by decide) (fun c_25 => ?_) (fun c_25 => ?_)
        · have h := sd_ifn c_25 h
          refine lv_aload_n hx hb dX11_meet_30 rfl (lv_at hl 0 rfl) ?_
          obtain ⟨r_27, S_26, er_27, h⟩ := sd_cl_some h
          refine k_X11_bringUpToDate C X hl.1 er_27 sd_w28_14 (by decide) (Nat.le_of_ble_eq_true rfl) dX11_meet_31 (fun H locs X => ?_)
          refine lv_iconst (v := (-1 : Int32)) hx hb dX11_meet_34 (by decide) ?_
          refine lv_istore (lv' := [(4, .int (-1 : Int32)), (0, .ref (ad 0)), (1, .int x1), (2, .int x2), (3, .int x3)]) hx hb dX11_meet_35 hl (by decide) rfl (fun ls hl => ?_)
          refine lv_iconst (v := (-1 : Int32)) hx hb dX11_meet_37 (by decide) ?_
          refine lv_istore (lv' := [(5, .int (-1 : Int32)), (4, .int (-1 : Int32)), (0, .ref (ad 0)), (1, .int x1), (2, .int x2), (3, .int x3)]) hx hb dX11_meet_38 hl (by decide) rfl (fun ls hl => ?_)
          refine lv_iconst (v := (0 : Int32)) hx hb dX11_meet_40 (by decide) ?_
          refine lv_istore (lv' := [(6, .int (0 : Int32)), (5, .int (-1 : Int32)), (4, .int (-1 : Int32)), (0, .ref (ad 0)), (1, .int x1), (2, .int x2), (3, .int x3)]) hx hb dX11_meet_41 hl (by decide) rfl (fun ls hl => ?_)
          exact t_X11_meet_l43 C sd_FU x1 x2 x3 (-1 : Int32) (-1 : Int32) (0 : Int32) S_26 _ _ _ h X (lv_sub hl [3, 4, 5, 6, 2, 1, 0] rfl)
        · have h := sd_ifp c_25 h
          refine lv_iconst (v := (-1 : Int32)) hx hb dX11_meet_28 (by decide) ?_
          cases h
          exact sd_iret C X dX11_meet_29
theorem k_X11_meet (C : sd_C own cc nL rt D cy ad A b0 p s m args meth c) (X : sd_H D cy ad A s S H locs) (hls : ls.size = nL) {x1 : Int32} {x2 : Int32} {x3 : Int32} {S2 : sd_St} {r : Int32} (h : f_X11_meet x1 x2 x3 S = some (r, S2)) (hlink : Cond.methodLink own index yX11_meet ∈ sd_wl) (hR : 6 ≤ R.frames ∧ 229 ≤ R.locals ∧ cells ≤ R.cells ∧ slots ≤ R.slots) (hst : (rest.map fun v => v.category).sum ≤ 8) (hdg : decode cc pc = .ok (.invokevirtual index, 3)) (kk : ∀ (H1 : Heap) (locs1 : List Loc), sd_H D cy ad A s S2 H1 locs1 → W p l e R s m args below meth c H1 locs1 cells slots Q (F0 m (pc + 3) ls (.int r :: rest))) : W p l e R s m args below meth c H locs cells slots Q (F0 m pc ls (.int x3 :: .int x2 :: .int x1 :: .ref (ad 0) :: rest)) :=
  sd_goI X (sd_runV C X hls (n := 3) (k := 0) (As := [.int x1, .int x2, .int x3]) (c_X11_meet (l := l) (b0 := b0) h) (sd_goodV hlink sd_w41_5 sd_w41_6 sd_w1_2 sd_w41_7) (ci := 11) rfl (by rw [(show sd_kd 0 = 11 by decide)]; decide) (sd_c11 (show sd_kd 0 = 11 by decide)) (by decide +kernel) rfl hR rfl hst hdg) kk
/-! ===== SecretDays.newcomer(IIIII)I ===== -/
def f_X11_newcomer (x1 : Int32) (x2 : Int32) (x3 : Int32) (x4 : Int32) (x5 : Int32) (S : sd_St) : Option (Int32 × sd_St) := (if (S.1 17 0) = (12 : Int32) then (some ((-1 : Int32), S)) else sd_cl (f_X11_isSet x1 S) (fun r_3 S_2 => (if r_3 = 0 then (some ((-1 : Int32), S_2)) else sd_cl (f_X11_isSet x2 S_2) (fun r_6 S_5 => (if r_6 = 0 then (some ((-1 : Int32), S_5)) else sd_cl (f_X11_isSecret x3 S_5) (fun r_9 S_8 => (if r_9 = 0 then (some ((-1 : Int32), S_8)) else sd_cl (f_X11_isPerson x4 S_8) (fun r_12 S_11 => (if r_12 = 0 then (some ((-1 : Int32), S_11)) else sd_cl (f_X11_isOneOfTwo x5 S_11) (fun r_15 S_14 => (if r_15 = 0 then (some ((-1 : Int32), S_14)) else sd_cl (f_X10_tryNewcomer 101 17 x1 x2 x3 x4 S_14) (fun _ S_17 => (if x5 = 0 then (some ((S_17.1 101 6), S_17)) else (some ((S_17.1 101 7), S_17)))))))))))))))
set_option maxHeartbeats 4000000 in
set_option maxRecDepth 100000 in
theorem c_X11_newcomer {x1 : Int32} {x2 : Int32} {x3 : Int32} {x4 : Int32} {x5 : Int32} {S S' : sd_St} {r : Int32} (h : f_X11_newcomer x1 x2 x3 x4 x5 S = some (r, S')) : Met l yX11_newcomer (Cond.code yX11_newcomer cX11_newcomer 6 (some .int) :: sd_wl) (sd_rm 5) (sd_P D cy ad A b0 [.ref (ad 0), .int x1, .int x2, .int x3, .int x4, .int x5] S) (sd_Qi D cy ad A r S') 0 0 A := by
  refine sd_met (by decide) (Nat.le_of_ble_eq_true rfl) (fun p e s m args below meth c ls C X hl => ?_)
  obtain ⟨hx, hb, -, hml, hown, hts, -, hG⟩ := id C
  replace C : sd_C RX11 cX11_newcomer 6 (some .int) D cy ad A b0 p s m args meth c := C
  replace hl : lv_has ls 6 [(0, .ref (ad 0)), (1, .int x1), (2, .int x2), (3, .int x3), (4, .int x4), (5, .int x5)] := hl
  unfold f_X11_newcomer at h
  refine lv_aload_n hx hb dX11_newcomer_0 rfl (lv_at hl 0 rfl) ?_
  refine sd_g11_1 (k := 0) C X (by decide) sd_w1_20 dX11_newcomer_1 ?_
  refine sd_g8_0 C X (by decide) sd_w24_9 dX11_newcomer_4 ?_
  refine lv_bipush (v := (12 : Int32)) hx hb dX11_newcomer_7 (by decide) ?_
  refine lv_icmp_eq (tgt := 28) hx hb dX11_newcomer_9 (by decide) (fun c_1 => ?_) (fun c_1 => ?_)
  · have h := sd_ifp c_1 h
    refine lv_iconst (v := (-1 : Int32)) hx hb dX11_newcomer_28 (by decide) ?_
    cases h
    exact sd_iret C X dX11_newcomer_29
  · have h := sd_ifn c_1 h
    refine lv_aload_n hx hb dX11_newcomer_12 rfl (lv_at hl 0 rfl) ?_
    refine lv_iload_n hx hb dX11_newcomer_13 rfl (lv_at hl 1 rfl) ?_
    obtain ⟨r_3, S_2, er_3, h⟩ := sd_cl_some h
    refine k_X11_isSet C X hl.1 er_3 sd_w36_13 (by decide) (Nat.le_of_ble_eq_true rfl) dX11_newcomer_14 (fun H locs X => ?_)
    refine lv_if_eq (tgt := 28) hx hb dX11_newcomer_17 (by decide) (fun c_4 => ?_) (fun c_4 => ?_)
    · have h := sd_ifp c_4 h
      refine lv_iconst (v := (-1 : Int32)) hx hb dX11_newcomer_28 (by decide) ?_
      cases h
      exact sd_iret C X dX11_newcomer_29
    · have h := sd_ifn c_4 h
      refine lv_aload_n hx hb dX11_newcomer_20 rfl (lv_at hl 0 rfl) ?_
      refine lv_iload_n hx hb dX11_newcomer_21 rfl (lv_at hl 2 rfl) ?_
      obtain ⟨r_6, S_5, er_6, h⟩ := sd_cl_some h
      refine k_X11_isSet C X hl.1 er_6 sd_w36_13 (by decide) (Nat.le_of_ble_eq_true rfl) dX11_newcomer_22 (fun H locs X => ?_)
      refine lv_if_ne (tgt := 30) hx hb dX11_newcomer_25 (by decide) (fun c_7 => ?_) (fun c_7 => ?_)
      · have h := sd_ifn c_7 h
        refine lv_aload_n hx hb dX11_newcomer_30 rfl (lv_at hl 0 rfl) ?_
        refine lv_iload_n hx hb dX11_newcomer_31 rfl (lv_at hl 3 rfl) ?_
        obtain ⟨r_9, S_8, er_9, h⟩ := sd_cl_some h
        refine k_X11_isSecret C X hl.1 er_9 sd_w28_9 (by decide) (Nat.le_of_ble_eq_true rfl) dX11_newcomer_32 (fun H locs X => ?_)
        refine lv_if_eq (tgt := 55) hx hb dX11_newcomer_35 (by decide) (fun c_10 => ?_) (fun c_10 => ?_)
        · have h := sd_ifp c_10 h
          refine lv_iconst (v := (-1 : Int32)) hx hb dX11_newcomer_55 (by decide) ?_
          cases h
          exact sd_iret C X dX11_newcomer_56
        · have h := sd_ifn c_10 h
          refine lv_aload_n hx hb dX11_newcomer_38 rfl (lv_at hl 0 rfl) ?_
          refine lv_iload hx hb dX11_newcomer_39 (lv_at hl 4 rfl) ?_
          obtain ⟨r_12, S_11, er_12, h⟩ := sd_cl_some h
          refine k_X11_isPerson C X hl.1 er_12 sd_w24_5 (by decide) (Nat.le_of_ble_eq_true rfl) dX11_newcomer_41 (fun H locs X => ?_)
          refine lv_if_eq (tgt := 55) hx hb dX11_newcomer_44 (by decide) (fun c_13 => ?_) (fun c_13 => ?_)
          · have h := sd_ifp c_13 h
            refine lv_iconst (v := (-1 : Int32)) hx hb dX11_newcomer_55 (by decide) ?_
            cases h
            exact sd_iret C X dX11_newcomer_56
          · have h := sd_ifn c_13 h
            refine lv_iload hx hb dX11_newcomer_47 (lv_at hl 5 rfl) ?_
            obtain ⟨r_15, S_14, er_15, h⟩ := sd_cl_some h
            refine k_X11_isOneOfTwo C X hl.1 er_15 sd_w41_8 (by decide) (Nat.le_of_ble_eq_true rfl) dX11_newcomer_49 (fun H locs X => ?_)
            refine lv_if_ne (tgt := 57) hx hb dX11_newcomer_52 (by decide) (fun c_16 => ?_) (fun c_16 => ?_)
            · have h := sd_ifn c_16 h
              refine lv_aload_n hx hb dX11_newcomer_57 rfl (lv_at hl 0 rfl) ?_
              refine sd_g11_10 (k := 0) C X (by decide) sd_w3_5 dX11_newcomer_58 ?_
              refine lv_aload_n hx hb dX11_newcomer_61 rfl (lv_at hl 0 rfl) ?_
              refine sd_g11_1 (k := 0) C X (by decide) sd_w1_20 dX11_newcomer_62 ?_
              refine lv_iload_n hx hb dX11_newcomer_65 rfl (lv_at hl 1 rfl) ?_
              refine lv_iload_n hx hb dX11_newcomer_66 rfl (lv_at hl 2 rfl) ?_
              refine lv_iload_n hx hb dX11_newcomer_67 rfl (lv_at hl 3 rfl) ?_
              refine lv_iload hx hb dX11_newcomer_68 (lv_at hl 4 rfl) ?_
              obtain ⟨r_18, S_17, er_18, h⟩ := sd_cl_some h
              refine k_X10_tryNewcomer C X hl.1 (by decide) (by decide) er_18 sd_w41_21 (by decide) (Nat.le_of_ble_eq_true rfl) dX11_newcomer_70 (fun H locs X => ?_)
              refine lv_iload hx hb dX11_newcomer_73 (lv_at hl 5 rfl) ?_
              refine lv_if_ne (tgt := 88) hx hb dX11_newcomer_75 (by decide) (fun c_19 => ?_) (fun c_19 => ?_)
              · have h := sd_ifn c_19 h
                refine lv_aload_n hx hb dX11_newcomer_88 rfl (lv_at hl 0 rfl) ?_
                refine sd_g11_10 (k := 0) C X (by decide) sd_w3_5 dX11_newcomer_89 ?_
                refine sd_g10_7 C X (by decide) sd_w41_20 dX11_newcomer_92 ?_
                cases h
                exact sd_iret C X dX11_newcomer_95
              · have h := sd_ifp c_19 h
                refine lv_aload_n hx hb dX11_newcomer_78 rfl (lv_at hl 0 rfl) ?_
                refine sd_g11_10 (k := 0) C X (by decide) sd_w3_5 dX11_newcomer_79 ?_
                refine sd_g10_6 C X (by decide) sd_w41_19 dX11_newcomer_82 ?_
                refine lv_goto (tgt := 95) hx hb dX11_newcomer_85 (by decide) ?_
                cases h
                exact sd_iret C X dX11_newcomer_95
            · have h := sd_ifp c_16 h
              refine lv_iconst (v := (-1 : Int32)) hx hb dX11_newcomer_55 (by decide) ?_
              cases h
              exact sd_iret C X dX11_newcomer_56
      · have h := sd_ifp c_7 h
        refine lv_iconst (v := (-1 : Int32)) hx hb dX11_newcomer_28 (by decide) ?_
        cases h
        exact sd_iret C X dX11_newcomer_29
theorem k_X11_newcomer (C : sd_C own cc nL rt D cy ad A b0 p s m args meth c) (X : sd_H D cy ad A s S H locs) (hls : ls.size = nL) {x1 : Int32} {x2 : Int32} {x3 : Int32} {x4 : Int32} {x5 : Int32} {S2 : sd_St} {r : Int32} (h : f_X11_newcomer x1 x2 x3 x4 x5 S = some (r, S2)) (hlink : Cond.methodLink own index yX11_newcomer ∈ sd_wl) (hR : 6 ≤ R.frames ∧ 225 ≤ R.locals ∧ cells ≤ R.cells ∧ slots ≤ R.slots) (hst : (rest.map fun v => v.category).sum ≤ 8) (hdg : decode cc pc = .ok (.invokevirtual index, 3)) (kk : ∀ (H1 : Heap) (locs1 : List Loc), sd_H D cy ad A s S2 H1 locs1 → W p l e R s m args below meth c H1 locs1 cells slots Q (F0 m (pc + 3) ls (.int r :: rest))) : W p l e R s m args below meth c H locs cells slots Q (F0 m pc ls (.int x5 :: .int x4 :: .int x3 :: .int x2 :: .int x1 :: .ref (ad 0) :: rest)) :=
  sd_goI X (sd_runV C X hls (n := 5) (k := 0) (As := [.int x1, .int x2, .int x3, .int x4, .int x5]) (c_X11_newcomer (l := l) (b0 := b0) h) (sd_goodV hlink sd_w41_16 sd_w41_17 sd_w1_2 sd_w41_18) (ci := 11) rfl (by rw [(show sd_kd 0 = 11 by decide)]; decide) (sd_c11 (show sd_kd 0 = 11 by decide)) (by decide +kernel) rfl hR rfl hst hdg) kk
/-! ===== SecretDays.report(IIIZ)I ===== -/
def f_X11_report (x1 : Int32) (x2 : Int32) (x3 : Int32) (x4 : Int32) (S : sd_St) : Option (Int32 × sd_St) := sd_cl (f_X11_isPerson x1 S) (fun r_2 S_1 => (if r_2 = 0 then (some ((-1 : Int32), S_1)) else sd_cl (f_X11_isSecret x2 S_1) (fun r_5 S_4 => (if r_5 = 0 then (some ((-1 : Int32), S_4)) else sd_cl (f_X11_isDate x3 S_4) (fun r_8 S_7 => (if r_8 = 0 then (some ((-1 : Int32), S_7)) else (if (S_7.1 72 0) = (16 : Int32) then (some ((-1 : Int32), S_7)) else sd_cl (f_X4_add 72 x1 x2 x3 x4 S_7) (fun _ S_11 => sd_cl (f_X10_forget 101 S_11) (fun _ S_13 => (some ((S_13.1 72 0), S_13)))))))))))
set_option maxHeartbeats 4000000 in
set_option maxRecDepth 100000 in
theorem c_X11_report {x1 : Int32} {x2 : Int32} {x3 : Int32} {x4 : Int32} {S S' : sd_St} {r : Int32} (h : f_X11_report x1 x2 x3 x4 S = some (r, S')) : Met l yX11_report (Cond.code yX11_report cX11_report 5 (some .int) :: sd_wl) (sd_rm 2) (sd_P D cy ad A b0 [.ref (ad 0), .int x1, .int x2, .int x3, .int x4] S) (sd_Qi D cy ad A r S') 0 0 A := by
  refine sd_met (by decide) (Nat.le_of_ble_eq_true rfl) (fun p e s m args below meth c ls C X hl => ?_)
  obtain ⟨hx, hb, -, hml, hown, hts, -, hG⟩ := id C
  replace C : sd_C RX11 cX11_report 5 (some .int) D cy ad A b0 p s m args meth c := C
  replace hl : lv_has ls 5 [(0, .ref (ad 0)), (1, .int x1), (2, .int x2), (3, .int x3), (4, .int x4)] := hl
  unfold f_X11_report at h
  refine lv_aload_n hx hb dX11_report_0 rfl (lv_at hl 0 rfl) ?_
  refine lv_iload_n hx hb dX11_report_1 rfl (lv_at hl 1 rfl) ?_
  obtain ⟨r_2, S_1, er_2, h⟩ := sd_cl_some h
  refine k_X11_isPerson C X hl.1 er_2 sd_w24_5 (by decide) (Nat.le_of_ble_eq_true rfl) dX11_report_2 (fun H locs X => ?_)
  refine lv_if_eq (tgt := 36) hx hb dX11_report_5 (by decide) (fun c_3 => ?_) (fun c_3 => ?_)
  · have h := sd_ifp c_3 h
    refine lv_iconst (v := (-1 : Int32)) hx hb dX11_report_36 (by decide) ?_
    cases h
    exact sd_iret C X dX11_report_37
  · have h := sd_ifn c_3 h
    refine lv_aload_n hx hb dX11_report_8 rfl (lv_at hl 0 rfl) ?_
    refine lv_iload_n hx hb dX11_report_9 rfl (lv_at hl 2 rfl) ?_
    obtain ⟨r_5, S_4, er_5, h⟩ := sd_cl_some h
    refine k_X11_isSecret C X hl.1 er_5 sd_w28_9 (by decide) (Nat.le_of_ble_eq_true rfl) dX11_report_10 (fun H locs X => ?_)
    refine lv_if_eq (tgt := 36) hx hb dX11_report_13 (by decide) (fun c_6 => ?_) (fun c_6 => ?_)
    · have h := sd_ifp c_6 h
      refine lv_iconst (v := (-1 : Int32)) hx hb dX11_report_36 (by decide) ?_
      cases h
      exact sd_iret C X dX11_report_37
    · have h := sd_ifn c_6 h
      refine lv_aload_n hx hb dX11_report_16 rfl (lv_at hl 0 rfl) ?_
      refine lv_iload_n hx hb dX11_report_17 rfl (lv_at hl 3 rfl) ?_
      obtain ⟨r_8, S_7, er_8, h⟩ := sd_cl_some h
      refine k_X11_isDate C X hl.1 er_8 sd_w26_12 (by decide) (Nat.le_of_ble_eq_true rfl) dX11_report_18 (fun H locs X => ?_)
      refine lv_if_eq (tgt := 36) hx hb dX11_report_21 (by decide) (fun c_9 => ?_) (fun c_9 => ?_)
      · have h := sd_ifp c_9 h
        refine lv_iconst (v := (-1 : Int32)) hx hb dX11_report_36 (by decide) ?_
        cases h
        exact sd_iret C X dX11_report_37
      · have h := sd_ifn c_9 h
        refine lv_aload_n hx hb dX11_report_24 rfl (lv_at hl 0 rfl) ?_
        refine sd_g11_8 (k := 0) C X (by decide) sd_w2_21 dX11_report_25 ?_
        refine sd_g4_0 C X (by decide) sd_w43_18 dX11_report_28 ?_
        refine lv_bipush (v := (16 : Int32)) hx hb dX11_report_31 (by decide) ?_
        refine lv_icmp_ne (tgt := 38) hx hb dX11_report_33 (by decide) (fun c_10 => ?_) (fun c_10 => ?_)
        · have h := sd_ifn c_10 h
          refine lv_aload_n hx hb dX11_report_38 rfl (lv_at hl 0 rfl) ?_
          refine sd_g11_8 (k := 0) C X (by decide) sd_w2_21 dX11_report_39 ?_
          refine lv_iload_n hx hb dX11_report_42 rfl (lv_at hl 1 rfl) ?_
          refine lv_iload_n hx hb dX11_report_43 rfl (lv_at hl 2 rfl) ?_
          refine lv_iload_n hx hb dX11_report_44 rfl (lv_at hl 3 rfl) ?_
          refine lv_iload hx hb dX11_report_45 (lv_at hl 4 rfl) ?_
          obtain ⟨r_12, S_11, er_12, h⟩ := sd_cl_some h
          refine k_X4_add C X hl.1 (by decide) er_12 sd_w43_19 (by decide) (Nat.le_of_ble_eq_true rfl) dX11_report_47 (fun H locs X => ?_)
          refine lv_aload_n hx hb dX11_report_50 rfl (lv_at hl 0 rfl) ?_
          refine sd_g11_10 (k := 0) C X (by decide) sd_w3_5 dX11_report_51 ?_
          obtain ⟨r_14, S_13, er_14, h⟩ := sd_cl_some h
          refine k_X10_forget C X hl.1 (by decide) er_14 sd_w18_11 (by decide) (Nat.le_of_ble_eq_true rfl) dX11_report_54 (fun H locs X => ?_)
          refine lv_aload_n hx hb dX11_report_57 rfl (lv_at hl 0 rfl) ?_
          refine sd_g11_8 (k := 0) C X (by decide) sd_w2_21 dX11_report_58 ?_
          refine sd_g4_0 C X (by decide) sd_w43_18 dX11_report_61 ?_
          cases h
          exact sd_iret C X dX11_report_64
        · have h := sd_ifp c_10 h
          refine lv_iconst (v := (-1 : Int32)) hx hb dX11_report_36 (by decide) ?_
          cases h
          exact sd_iret C X dX11_report_37
theorem k_X11_report (C : sd_C own cc nL rt D cy ad A b0 p s m args meth c) (X : sd_H D cy ad A s S H locs) (hls : ls.size = nL) {x1 : Int32} {x2 : Int32} {x3 : Int32} {x4 : Int32} {S2 : sd_St} {r : Int32} (h : f_X11_report x1 x2 x3 x4 S = some (r, S2)) (hlink : Cond.methodLink own index yX11_report ∈ sd_wl) (hR : 3 ≤ R.frames ∧ 104 ≤ R.locals ∧ cells ≤ R.cells ∧ slots ≤ R.slots) (hst : (rest.map fun v => v.category).sum ≤ 8) (hdg : decode cc pc = .ok (.invokevirtual index, 3)) (kk : ∀ (H1 : Heap) (locs1 : List Loc), sd_H D cy ad A s S2 H1 locs1 → W p l e R s m args below meth c H1 locs1 cells slots Q (F0 m (pc + 3) ls (.int r :: rest))) : W p l e R s m args below meth c H locs cells slots Q (F0 m pc ls (.int x4 :: .int x3 :: .int x2 :: .int x1 :: .ref (ad 0) :: rest)) :=
  sd_goI X (sd_runV C X hls (n := 4) (k := 0) (As := [.int x1, .int x2, .int x3, .int x4]) (c_X11_report (l := l) (b0 := b0) h) (sd_goodV hlink sd_w43_15 sd_w43_16 sd_w1_2 sd_w43_17) (ci := 11) rfl (by rw [(show sd_kd 0 = 11 by decide)]; decide) (sd_c11 (show sd_kd 0 = 11 by decide)) (by decide +kernel) rfl hR rfl hst hdg) kk
/-! ===== SecretDays.clear()Z ===== -/
def f_X11_clear (S : sd_St) : Option (Int32 × sd_St) := sd_cl (f_X4_wipe 72 S) (fun _ S_1 => sd_cl (f_X10_forget 101 S_1) (fun _ S_3 => (some ((1 : Int32), S_3))))
set_option maxHeartbeats 4000000 in
set_option maxRecDepth 100000 in
theorem c_X11_clear {S S' : sd_St} {r : Int32} (h : f_X11_clear S = some (r, S')) : Met l yX11_clear (Cond.code yX11_clear cX11_clear 1 (some .boolean) :: sd_wl) (sd_rm 2) (sd_P D cy ad A b0 [.ref (ad 0)] S) (sd_Qi D cy ad A r S') 0 0 A := by
  refine sd_met (by decide) (Nat.le_of_ble_eq_true rfl) (fun p e s m args below meth c ls C X hl => ?_)
  obtain ⟨hx, hb, -, hml, hown, hts, -, hG⟩ := id C
  replace C : sd_C RX11 cX11_clear 1 (some .boolean) D cy ad A b0 p s m args meth c := C
  replace hl : lv_has ls 1 [(0, .ref (ad 0))] := hl
  unfold f_X11_clear at h
  refine lv_aload_n hx hb dX11_clear_0 rfl (lv_at hl 0 rfl) ?_
  refine sd_g11_8 (k := 0) C X (by decide) sd_w2_21 dX11_clear_1 ?_
  obtain ⟨r_2, S_1, er_2, h⟩ := sd_cl_some h
  refine k_X4_wipe C X hl.1 (by decide) er_2 sd_w17_21 (by decide) (Nat.le_of_ble_eq_true rfl) dX11_clear_4 (fun H locs X => ?_)
  refine lv_aload_n hx hb dX11_clear_7 rfl (lv_at hl 0 rfl) ?_
  refine sd_g11_10 (k := 0) C X (by decide) sd_w3_5 dX11_clear_8 ?_
  obtain ⟨r_4, S_3, er_4, h⟩ := sd_cl_some h
  refine k_X10_forget C X hl.1 (by decide) er_4 sd_w18_11 (by decide) (Nat.le_of_ble_eq_true rfl) dX11_clear_11 (fun H locs X => ?_)
  refine lv_iconst (v := (1 : Int32)) hx hb dX11_clear_14 (by decide) ?_
  cases h
  exact sd_zret C X (by decide) dX11_clear_15
theorem k_X11_clear (C : sd_C own cc nL rt D cy ad A b0 p s m args meth c) (X : sd_H D cy ad A s S H locs) (hls : ls.size = nL) {S2 : sd_St} {r : Int32} (h : f_X11_clear S = some (r, S2)) (hlink : Cond.methodLink own index yX11_clear ∈ sd_wl) (hR : 3 ≤ R.frames ∧ 100 ≤ R.locals ∧ cells ≤ R.cells ∧ slots ≤ R.slots) (hst : (rest.map fun v => v.category).sum ≤ 8) (hdg : decode cc pc = .ok (.invokevirtual index, 3)) (kk : ∀ (H1 : Heap) (locs1 : List Loc), sd_H D cy ad A s S2 H1 locs1 → W p l e R s m args below meth c H1 locs1 cells slots Q (F0 m (pc + 3) ls (.int r :: rest))) : W p l e R s m args below meth c H locs cells slots Q (F0 m pc ls (.ref (ad 0) :: rest)) :=
  sd_goI X (sd_runV C X hls (n := 0) (k := 0) (As := []) (c_X11_clear (l := l) (b0 := b0) h) (sd_goodV hlink sd_w44_8 sd_w44_9 sd_w1_2 sd_w44_10) (ci := 11) rfl (by rw [(show sd_kd 0 = 11 by decide)]; decide) (sd_c11 (show sd_kd 0 = 11 by decide)) (by decide +kernel) rfl hR rfl hst hdg) kk
/-! ===== SecretDays.holds()I ===== -/
def f_X11_holds_l6 : Nat → Int32 → sd_St → Option (Int32 × sd_St)
  | 0 => fun _ _ => none
  | n + 1 => fun x1 S => (if (S.1 17 11) ≤ x1 then (some ((1 : Int32), S)) else sd_in x1 (sd_al 33) (sd_nm (34 + 5 * x1.toNatClampNeg) (fun q_3 => sd_cl (f_X4_agree 72 q_3 x1 S) (fun r_5 S_4 => (if r_5 = 0 then (some ((0 : Int32), S_4)) else (f_X11_holds_l6 n) (x1 + (1 : Int32)) S_4)))))
set_option maxHeartbeats 4000000 in
set_option maxRecDepth 100000 in
theorem t_X11_holds_l6 (C : sd_C RX11 cX11_holds 2 (some .int) D cy ad A b0 p s m args meth c) {r : Int32} {S' : sd_St} : ∀ (n : Nat) (x1 : Int32) (S : sd_St) (H : Heap) (locs : List Loc) (ls : Array Slot), f_X11_holds_l6 n x1 S = some (r, S') → sd_H D cy ad A s S H locs → lv_has ls 2 [(0, .ref (ad 0)), (1, .int x1)] → W p l e (sd_rm 5) s m args below meth c H locs 0 0 (MQ below (sd_Qi D cy ad A r S') args s 0 0 A) (F0 m 6 ls []) := by
  obtain ⟨hx, hb, -, hml, hown, hts, -, hG⟩ := id C
  intro n
  induction n with
  | zero => intro x1 S H locs ls h; cases h
  | succ n ih =>
    intro x1 S H locs ls h X hl
    unfold f_X11_holds_l6 at h
    refine lv_iload_n hx hb dX11_holds_6 rfl (lv_at hl 1 rfl) ?_
    refine lv_aload_n hx hb dX11_holds_7 rfl (lv_at hl 0 rfl) ?_
    refine sd_g11_1 (k := 0) C X (by decide) sd_w1_20 dX11_holds_8 ?_
    refine sd_g8_11 C X (by decide) sd_w28_13 dX11_holds_11 ?_
    refine lv_icmp_ge (tgt := 42) hx hb dX11_holds_14 (by decide) (fun c_1 => ?_) (fun c_1 => ?_)
    · have h := sd_ifp c_1 h
      refine lv_iconst (v := (1 : Int32)) hx hb dX11_holds_42 (by decide) ?_
      cases h
      exact sd_iret C X dX11_holds_43
    · have h := sd_ifn c_1 h
      refine lv_aload_n hx hb dX11_holds_17 rfl (lv_at hl 0 rfl) ?_
      refine sd_g11_8 (k := 0) C X (by decide) sd_w2_21 dX11_holds_18 ?_
      refine lv_iload_n hx hb dX11_holds_21 rfl (lv_at hl 1 rfl) ?_
      refine lv_aload_n hx hb dX11_holds_22 rfl (lv_at hl 0 rfl) ?_
      refine sd_g11_3 (k := 0) C X (by decide) sd_w2_2 dX11_holds_23 ?_
      refine lv_iload_n hx hb dX11_holds_26 rfl (lv_at hl 1 rfl) ?_
      obtain ⟨b_2, h⟩ := sd_in_some h
      obtain ⟨q_3, eq_3, h⟩ := sd_nm_some h
      have hq_3 : sd_kd q_3 = 5 := sd_e5 (by decide) b_2 eq_3
      refine sd_aald5 C X (by decide) b_2 dX11_holds_27 ?_
      rw [← eq_3]
      obtain ⟨r_5, S_4, er_5, h⟩ := sd_cl_some h
      refine k_X4_agree C X hl.1 (by decide) hq_3 er_5 sd_w44_19 (by decide) (Nat.le_of_ble_eq_true rfl) dX11_holds_28 (fun H locs X => ?_)
      refine lv_if_ne (tgt := 36) hx hb dX11_holds_31 (by decide) (fun c_6 => ?_) (fun c_6 => ?_)
      · have h := sd_ifn c_6 h
        refine lv_iinc (v := (x1 + (1 : Int32))) (lv' := [(1, .int (x1 + (1 : Int32))), (0, .ref (ad 0))]) hx hb dX11_holds_36 hl (k := 1) rfl rfl (by decide) rfl (fun ls hl => ?_)
        refine lv_goto (tgt := 6) hx hb dX11_holds_39 (by decide) ?_
        exact ih (x1 + (1 : Int32)) S_4 _ _ _ h X (lv_sub hl [1, 0] rfl)
      · have h := sd_ifp c_6 h
        refine lv_iconst (v := (0 : Int32)) hx hb dX11_holds_34 (by decide) ?_
        cases h
        exact sd_iret C X dX11_holds_35
def f_X11_holds (S : sd_St) : Option (Int32 × sd_St) := sd_cl (f_X11_bringUpToDate S) (fun _ S_7 => f_X11_holds_l6 sd_FU (0 : Int32) S_7)
set_option maxHeartbeats 4000000 in
set_option maxRecDepth 100000 in
theorem c_X11_holds {S S' : sd_St} {r : Int32} (h : f_X11_holds S = some (r, S')) : Met l yX11_holds (Cond.code yX11_holds cX11_holds 2 (some .int) :: sd_wl) (sd_rm 5) (sd_P D cy ad A b0 [.ref (ad 0)] S) (sd_Qi D cy ad A r S') 0 0 A := by
  refine sd_met (by decide) (Nat.le_of_ble_eq_true rfl) (fun p e s m args below meth c ls C X hl => ?_)
  obtain ⟨hx, hb, -, hml, hown, hts, -, hG⟩ := id C
  replace C : sd_C RX11 cX11_holds 2 (some .int) D cy ad A b0 p s m args meth c := C
  replace hl : lv_has ls 2 [(0, .ref (ad 0))] := hl
  unfold f_X11_holds at h
  refine lv_aload_n hx hb dX11_holds_0 rfl (lv_at hl 0 rfl) ?_
  obtain ⟨r_8, S_7, er_8, h⟩ := sd_cl_some h
  refine k_X11_bringUpToDate C X hl.1 er_8 sd_w28_14 (by decide) (Nat.le_of_ble_eq_true rfl) dX11_holds_1 (fun H locs X => ?_)
  refine lv_iconst (v := (0 : Int32)) hx hb dX11_holds_4 (by decide) ?_
  refine lv_istore_n (lv' := [(1, .int (0 : Int32)), (0, .ref (ad 0))]) hx hb dX11_holds_5 rfl hl (by decide) rfl (fun ls hl => ?_)
  exact t_X11_holds_l6 C sd_FU (0 : Int32) S_7 _ _ _ h X (lv_sub hl [1, 0] rfl)
theorem k_X11_holds (C : sd_C own cc nL rt D cy ad A b0 p s m args meth c) (X : sd_H D cy ad A s S H locs) (hls : ls.size = nL) {S2 : sd_St} {r : Int32} (h : f_X11_holds S = some (r, S2)) (hlink : Cond.methodLink own index yX11_holds ∈ sd_wl) (hR : 6 ≤ R.frames ∧ 221 ≤ R.locals ∧ cells ≤ R.cells ∧ slots ≤ R.slots) (hst : (rest.map fun v => v.category).sum ≤ 8) (hdg : decode cc pc = .ok (.invokevirtual index, 3)) (kk : ∀ (H1 : Heap) (locs1 : List Loc), sd_H D cy ad A s S2 H1 locs1 → W p l e R s m args below meth c H1 locs1 cells slots Q (F0 m (pc + 3) ls (.int r :: rest))) : W p l e R s m args below meth c H locs cells slots Q (F0 m pc ls (.ref (ad 0) :: rest)) :=
  sd_goI X (sd_runV C X hls (n := 0) (k := 0) (As := []) (c_X11_holds (l := l) (b0 := b0) h) (sd_goodV hlink sd_w44_16 sd_w44_17 sd_w1_2 sd_w44_18) (ci := 11) rfl (by rw [(show sd_kd 0 = 11 by decide)]; decide) (sd_c11 (show sd_kd 0 = 11 by decide)) (by decide +kernel) rfl hR rfl hst hdg) kk
/-! ===== SecretDays.began(I)I ===== -/
def f_X11_began_b85 (q28 : (Int32 → Int32 → Int32 → Int32 → sd_St → Option (Int32 × sd_St))) (x1 : Int32) (x2 : Int32) (x3 : Int32) (x4 : Int32) (S : sd_St) : Option (Int32 × sd_St) := q28 x1 x2 x3 (x4 + (1 : Int32)) S
set_option maxHeartbeats 4000000 in
set_option maxRecDepth 100000 in
theorem t_X11_began_b85 (C : sd_C RX11 cX11_began 5 (some .int) D cy ad A b0 p s m args meth c) {r : Int32} {S' : sd_St} {q28 : (Int32 → Int32 → Int32 → Int32 → sd_St → Option (Int32 × sd_St))} (hq28 : ∀ (x1 : Int32) (x2 : Int32) (x3 : Int32) (x4 : Int32) (S : sd_St) (H : Heap) (locs : List Loc) (ls : Array Slot), q28 x1 x2 x3 x4 S = some (r, S') → sd_H D cy ad A s S H locs → lv_has ls 5 [(0, .ref (ad 0)), (1, .int x1), (2, .int x2), (3, .int x3), (4, .int x4)] → W p l e (sd_rm 5) s m args below meth c H locs 0 0 (MQ below (sd_Qi D cy ad A r S') args s 0 0 A) (F0 m 28 ls [])) : ∀ (x1 : Int32) (x2 : Int32) (x3 : Int32) (x4 : Int32) (S : sd_St) (H : Heap) (locs : List Loc) (ls : Array Slot), f_X11_began_b85 q28 x1 x2 x3 x4 S = some (r, S') → sd_H D cy ad A s S H locs → lv_has ls 5 [(0, .ref (ad 0)), (1, .int x1), (2, .int x2), (3, .int x3), (4, .int x4)] → W p l e (sd_rm 5) s m args below meth c H locs 0 0 (MQ below (sd_Qi D cy ad A r S') args s 0 0 A) (F0 m 85 ls []) := by
  obtain ⟨hx, hb, -, hml, hown, hts, -, hG⟩ := id C
  intro x1 x2 x3 x4 S H locs ls h X hl
  unfold f_X11_began_b85 at h
  refine lv_iinc (v := (x4 + (1 : Int32))) (lv' := [(4, .int (x4 + (1 : Int32))), (0, .ref (ad 0)), (1, .int x1), (2, .int x2), (3, .int x3)]) hx hb dX11_began_85 hl (k := 4) rfl rfl (by decide) rfl (fun ls hl => ?_)
  refine lv_goto (tgt := 28) hx hb dX11_began_88 (by decide) ?_
  exact hq28 x1 x2 x3 (x4 + (1 : Int32)) S _ _ _ h X (lv_sub hl [1, 2, 3, 4, 0] rfl)
def f_X11_began_l28 : Nat → Int32 → Int32 → Int32 → Int32 → sd_St → Option (Int32 × sd_St)
  | 0 => fun _ _ _ _ _ => none
  | n + 1 => fun x1 x2 x3 x4 S => (if (S.1 17 0) ≤ x4 then (some (x3, S)) else sd_ld S 27 x1 (fun v_2 => sd_cl (f_X5_spread 54 28 x4 v_2 x2 S) (fun _ S_3 => sd_cl (f_X4_agree 72 54 x1 S_3) (fun r_6 S_5 => (if r_6 = 0 then f_X11_began_b85 (f_X11_began_l28 n) x1 x2 x3 x4 S_5 else sd_nm ((x3 ||| ((1 : Int32) <<< (x4 &&& 31)))) (fun v_8 => f_X11_began_b85 (f_X11_began_l28 n) x1 x2 v_8 x4 S_5))))))
set_option maxHeartbeats 4000000 in
set_option maxRecDepth 100000 in
theorem t_X11_began_l28 (C : sd_C RX11 cX11_began 5 (some .int) D cy ad A b0 p s m args meth c) {r : Int32} {S' : sd_St} : ∀ (n : Nat) (x1 : Int32) (x2 : Int32) (x3 : Int32) (x4 : Int32) (S : sd_St) (H : Heap) (locs : List Loc) (ls : Array Slot), f_X11_began_l28 n x1 x2 x3 x4 S = some (r, S') → sd_H D cy ad A s S H locs → lv_has ls 5 [(0, .ref (ad 0)), (1, .int x1), (2, .int x2), (3, .int x3), (4, .int x4)] → W p l e (sd_rm 5) s m args below meth c H locs 0 0 (MQ below (sd_Qi D cy ad A r S') args s 0 0 A) (F0 m 28 ls []) := by
  obtain ⟨hx, hb, -, hml, hown, hts, -, hG⟩ := id C
  intro n
  induction n with
  | zero => intro x1 x2 x3 x4 S H locs ls h; cases h
  | succ n ih =>
    intro x1 x2 x3 x4 S H locs ls h X hl
    unfold f_X11_began_l28 at h
    refine lv_iload hx hb dX11_began_28 (lv_at hl 4 rfl) ?_
    refine lv_aload_n hx hb dX11_began_30 rfl (lv_at hl 0 rfl) ?_
    refine sd_g11_1 (k := 0) C X (by decide) sd_w1_20 dX11_began_31 ?_
    refine sd_g8_0 C X (by decide) sd_w24_9 dX11_began_34 ?_
    refine lv_icmp_ge (tgt := 91) hx hb dX11_began_37 (by decide) (fun c_1 => ?_) (fun c_1 => ?_)
    · have h := sd_ifp c_1 h
      refine lv_iload_n hx hb dX11_began_91 rfl (lv_at hl 3 rfl) ?_
      cases h
      exact sd_iret C X dX11_began_92
    · have h := sd_ifn c_1 h
      refine lv_aload_n hx hb dX11_began_40 rfl (lv_at hl 0 rfl) ?_
      refine sd_g11_4 (k := 0) C X (by decide) sd_w2_5 dX11_began_41 ?_
      refine lv_aload_n hx hb dX11_began_44 rfl (lv_at hl 0 rfl) ?_
      refine sd_g11_2 (k := 0) C X (by decide) sd_w2_0 dX11_began_45 ?_
      refine lv_iload hx hb dX11_began_48 (lv_at hl 4 rfl) ?_
      refine lv_aload_n hx hb dX11_began_50 rfl (lv_at hl 0 rfl) ?_
      refine sd_g11_1 (k := 0) C X (by decide) sd_w1_20 dX11_began_51 ?_
      refine sd_g8_13 (k := 17) C X (by decide) sd_w28_19 dX11_began_54 ?_
      refine lv_iload_n hx hb dX11_began_57 rfl (lv_at hl 1 rfl) ?_
      obtain ⟨b_2, v_2, e_2, h⟩ := sd_ld_some h
      refine sd_iald C X (by decide) b_2 dX11_began_58 (sd_nmi e_2 ?_)
      refine lv_iload_n hx hb dX11_began_59 rfl (lv_at hl 2 rfl) ?_
      obtain ⟨r_4, S_3, er_4, h⟩ := sd_cl_some h
      refine k_X5_spread C X hl.1 (by decide) (by decide) er_4 sd_w29_22 (by decide) (Nat.le_of_ble_eq_true rfl) dX11_began_60 (fun H locs X => ?_)
      refine lv_aload_n hx hb dX11_began_63 rfl (lv_at hl 0 rfl) ?_
      refine sd_g11_8 (k := 0) C X (by decide) sd_w2_21 dX11_began_64 ?_
      refine lv_iload_n hx hb dX11_began_67 rfl (lv_at hl 1 rfl) ?_
      refine lv_aload_n hx hb dX11_began_68 rfl (lv_at hl 0 rfl) ?_
      refine sd_g11_4 (k := 0) C X (by decide) sd_w2_5 dX11_began_69 ?_
      obtain ⟨r_6, S_5, er_6, h⟩ := sd_cl_some h
      refine k_X4_agree C X hl.1 (by decide) (by decide) er_6 sd_w44_19 (by decide) (Nat.le_of_ble_eq_true rfl) dX11_began_72 (fun H locs X => ?_)
      refine lv_if_eq (tgt := 85) hx hb dX11_began_75 (by decide) (fun c_7 => ?_) (fun c_7 => ?_)
      · have h := sd_ifp c_7 h
        exact t_X11_began_b85 C ih x1 x2 x3 x4 S_5 _ _ _ h X (lv_sub hl [0, 1, 2, 3, 4] rfl)
      · have h := sd_ifn c_7 h
        refine lv_iload_n hx hb dX11_began_78 rfl (lv_at hl 3 rfl) ?_
        refine lv_iconst (v := (1 : Int32)) hx hb dX11_began_79 (by decide) ?_
        refine lv_iload hx hb dX11_began_80 (lv_at hl 4 rfl) ?_
        refine lv_ishl hx hb dX11_began_82 ?_
        refine lv_ior hx hb dX11_began_83 ?_
        obtain ⟨v_8, e_8, h⟩ := sd_nm_some h
        refine sd_nmi e_8 ?_
        refine lv_istore_n (lv' := [(3, .int v_8), (0, .ref (ad 0)), (1, .int x1), (2, .int x2), (4, .int x4)]) hx hb dX11_began_84 rfl hl (by decide) rfl (fun ls hl => ?_)
        exact t_X11_began_b85 C ih x1 x2 v_8 x4 S_5 _ _ _ h X (lv_sub hl [1, 2, 3, 0, 4] rfl)
def f_X11_began (x1 : Int32) (S : sd_St) : Option (Int32 × sd_St) := sd_cl (f_X11_isSecret x1 S) (fun r_10 S_9 => (if r_10 = 0 then (some ((-1 : Int32), S_9)) else sd_cl (f_X11_bringUpToDate S_9) (fun _ S_12 => sd_cl (f_X4_lastAbout 72 x1 S_12) (fun r_15 S_14 => f_X11_began_l28 sd_FU x1 r_15 (0 : Int32) (0 : Int32) S_14))))
set_option maxHeartbeats 4000000 in
set_option maxRecDepth 100000 in
theorem c_X11_began {x1 : Int32} {S S' : sd_St} {r : Int32} (h : f_X11_began x1 S = some (r, S')) : Met l yX11_began (Cond.code yX11_began cX11_began 5 (some .int) :: sd_wl) (sd_rm 5) (sd_P D cy ad A b0 [.ref (ad 0), .int x1] S) (sd_Qi D cy ad A r S') 0 0 A := by
  refine sd_met (by decide) (Nat.le_of_ble_eq_true rfl) (fun p e s m args below meth c ls C X hl => ?_)
  obtain ⟨hx, hb, -, hml, hown, hts, -, hG⟩ := id C
  replace C : sd_C RX11 cX11_began 5 (some .int) D cy ad A b0 p s m args meth c := C
  replace hl : lv_has ls 5 [(0, .ref (ad 0)), (1, .int x1)] := hl
  unfold f_X11_began at h
  refine lv_aload_n hx hb dX11_began_0 rfl (lv_at hl 0 rfl) ?_
  refine lv_iload_n hx hb dX11_began_1 rfl (lv_at hl 1 rfl) ?_
  obtain ⟨r_10, S_9, er_10, h⟩ := sd_cl_some h
  refine k_X11_isSecret C X hl.1 er_10 sd_w28_9 (by decide) (Nat.le_of_ble_eq_true rfl) dX11_began_2 (fun H locs X => ?_)
  refine lv_if_ne (tgt := 10) hx hb dX11_began_5 (by decide) (fun c_11 => ?_) (fun c_11 => ?_)
  · have h := sd_ifn c_11 h
    refine lv_aload_n hx hb dX11_began_10 rfl (lv_at hl 0 rfl) ?_
    obtain ⟨r_13, S_12, er_13, h⟩ := sd_cl_some h
    refine k_X11_bringUpToDate C X hl.1 er_13 sd_w28_14 (by decide) (Nat.le_of_ble_eq_true rfl) dX11_began_11 (fun H locs X => ?_)
    refine lv_aload_n hx hb dX11_began_14 rfl (lv_at hl 0 rfl) ?_
    refine sd_g11_8 (k := 0) C X (by decide) sd_w2_21 dX11_began_15 ?_
    refine lv_iload_n hx hb dX11_began_18 rfl (lv_at hl 1 rfl) ?_
    obtain ⟨r_15, S_14, er_15, h⟩ := sd_cl_some h
    refine k_X4_lastAbout C X hl.1 (by decide) er_15 sd_w45_16 (by decide) (Nat.le_of_ble_eq_true rfl) dX11_began_19 (fun H locs X => ?_)
    refine lv_istore_n (lv' := [(2, .int r_15), (0, .ref (ad 0)), (1, .int x1)]) hx hb dX11_began_22 rfl hl (by decide) rfl (fun ls hl => ?_)
    refine lv_iconst (v := (0 : Int32)) hx hb dX11_began_23 (by decide) ?_
    refine lv_istore_n (lv' := [(3, .int (0 : Int32)), (2, .int r_15), (0, .ref (ad 0)), (1, .int x1)]) hx hb dX11_began_24 rfl hl (by decide) rfl (fun ls hl => ?_)
    refine lv_iconst (v := (0 : Int32)) hx hb dX11_began_25 (by decide) ?_
    refine lv_istore (lv' := [(4, .int (0 : Int32)), (3, .int (0 : Int32)), (2, .int r_15), (0, .ref (ad 0)), (1, .int x1)]) hx hb dX11_began_26 hl (by decide) rfl (fun ls hl => ?_)
    exact t_X11_began_l28 C sd_FU x1 r_15 (0 : Int32) (0 : Int32) S_14 _ _ _ h X (lv_sub hl [3, 4, 2, 1, 0] rfl)
  · have h := sd_ifp c_11 h
    refine lv_iconst (v := (-1 : Int32)) hx hb dX11_began_8 (by decide) ?_
    cases h
    exact sd_iret C X dX11_began_9
theorem k_X11_began (C : sd_C own cc nL rt D cy ad A b0 p s m args meth c) (X : sd_H D cy ad A s S H locs) (hls : ls.size = nL) {x1 : Int32} {S2 : sd_St} {r : Int32} (h : f_X11_began x1 S = some (r, S2)) (hlink : Cond.methodLink own index yX11_began ∈ sd_wl) (hR : 6 ≤ R.frames ∧ 224 ≤ R.locals ∧ cells ≤ R.cells ∧ slots ≤ R.slots) (hst : (rest.map fun v => v.category).sum ≤ 8) (hdg : decode cc pc = .ok (.invokevirtual index, 3)) (kk : ∀ (H1 : Heap) (locs1 : List Loc), sd_H D cy ad A s S2 H1 locs1 → W p l e R s m args below meth c H1 locs1 cells slots Q (F0 m (pc + 3) ls (.int r :: rest))) : W p l e R s m args below meth c H locs cells slots Q (F0 m pc ls (.int x1 :: .ref (ad 0) :: rest)) :=
  sd_goI X (sd_runV C X hls (n := 1) (k := 0) (As := [.int x1]) (c_X11_began (l := l) (b0 := b0) h) (sd_goodV hlink sd_w45_13 sd_w45_14 sd_w1_2 sd_w45_15) (ci := 11) rfl (by rw [(show sd_kd 0 = 11 by decide)]; decide) (sd_c11 (show sd_kd 0 = 11 by decide)) (by decide +kernel) rfl hR rfl hst hdg) kk
/-! ===== SecretDays.wrong()I ===== -/
def f_X11_wrong_b41 (q4 : (Int32 → Int32 → sd_St → Option (Int32 × sd_St))) (x1 : Int32) (x2 : Int32) (S : sd_St) : Option (Int32 × sd_St) := q4 x1 (x2 + (1 : Int32)) S
set_option maxHeartbeats 4000000 in
set_option maxRecDepth 100000 in
theorem t_X11_wrong_b41 (C : sd_C RX11 cX11_wrong 3 (some .int) D cy ad A b0 p s m args meth c) {r : Int32} {S' : sd_St} {q4 : (Int32 → Int32 → sd_St → Option (Int32 × sd_St))} (hq4 : ∀ (x1 : Int32) (x2 : Int32) (S : sd_St) (H : Heap) (locs : List Loc) (ls : Array Slot), q4 x1 x2 S = some (r, S') → sd_H D cy ad A s S H locs → lv_has ls 3 [(0, .ref (ad 0)), (1, .int x1), (2, .int x2)] → W p l e (sd_rm 6) s m args below meth c H locs 0 0 (MQ below (sd_Qi D cy ad A r S') args s 0 0 A) (F0 m 4 ls [])) : ∀ (x1 : Int32) (x2 : Int32) (S : sd_St) (H : Heap) (locs : List Loc) (ls : Array Slot), f_X11_wrong_b41 q4 x1 x2 S = some (r, S') → sd_H D cy ad A s S H locs → lv_has ls 3 [(0, .ref (ad 0)), (1, .int x1), (2, .int x2)] → W p l e (sd_rm 6) s m args below meth c H locs 0 0 (MQ below (sd_Qi D cy ad A r S') args s 0 0 A) (F0 m 41 ls []) := by
  obtain ⟨hx, hb, -, hml, hown, hts, -, hG⟩ := id C
  intro x1 x2 S H locs ls h X hl
  unfold f_X11_wrong_b41 at h
  refine lv_iinc (v := (x2 + (1 : Int32))) (lv' := [(2, .int (x2 + (1 : Int32))), (0, .ref (ad 0)), (1, .int x1)]) hx hb dX11_wrong_41 hl (k := 2) rfl rfl (by decide) rfl (fun ls hl => ?_)
  refine lv_goto (tgt := 4) hx hb dX11_wrong_44 (by decide) ?_
  exact hq4 x1 (x2 + (1 : Int32)) S _ _ _ h X (lv_sub hl [1, 2, 0] rfl)
def f_X11_wrong_l4 : Nat → Int32 → Int32 → sd_St → Option (Int32 × sd_St)
  | 0 => fun _ _ _ => none
  | n + 1 => fun x1 x2 S => (if (S.1 17 0) ≤ x2 then (some (x1, S)) else sd_cl (f_X10_otherBirthday 101 17 72 x2 S) (fun r_3 S_2 => (if r_3 = (-1 : Int32) then f_X11_wrong_b41 (f_X11_wrong_l4 n) x1 x2 S_2 else sd_nm ((x1 ||| ((1 : Int32) <<< (x2 &&& 31)))) (fun v_5 => f_X11_wrong_b41 (f_X11_wrong_l4 n) v_5 x2 S_2))))
set_option maxHeartbeats 4000000 in
set_option maxRecDepth 100000 in
theorem t_X11_wrong_l4 (C : sd_C RX11 cX11_wrong 3 (some .int) D cy ad A b0 p s m args meth c) {r : Int32} {S' : sd_St} : ∀ (n : Nat) (x1 : Int32) (x2 : Int32) (S : sd_St) (H : Heap) (locs : List Loc) (ls : Array Slot), f_X11_wrong_l4 n x1 x2 S = some (r, S') → sd_H D cy ad A s S H locs → lv_has ls 3 [(0, .ref (ad 0)), (1, .int x1), (2, .int x2)] → W p l e (sd_rm 6) s m args below meth c H locs 0 0 (MQ below (sd_Qi D cy ad A r S') args s 0 0 A) (F0 m 4 ls []) := by
  obtain ⟨hx, hb, -, hml, hown, hts, -, hG⟩ := id C
  intro n
  induction n with
  | zero => intro x1 x2 S H locs ls h; cases h
  | succ n ih =>
    intro x1 x2 S H locs ls h X hl
    unfold f_X11_wrong_l4 at h
    refine lv_iload_n hx hb dX11_wrong_4 rfl (lv_at hl 2 rfl) ?_
    refine lv_aload_n hx hb dX11_wrong_5 rfl (lv_at hl 0 rfl) ?_
    refine sd_g11_1 (k := 0) C X (by decide) sd_w1_20 dX11_wrong_6 ?_
    refine sd_g8_0 C X (by decide) sd_w24_9 dX11_wrong_9 ?_
    refine lv_icmp_ge (tgt := 47) hx hb dX11_wrong_12 (by decide) (fun c_1 => ?_) (fun c_1 => ?_)
    · have h := sd_ifp c_1 h
      refine lv_iload_n hx hb dX11_wrong_47 rfl (lv_at hl 1 rfl) ?_
      cases h
      exact sd_iret C X dX11_wrong_48
    · have h := sd_ifn c_1 h
      refine lv_aload_n hx hb dX11_wrong_15 rfl (lv_at hl 0 rfl) ?_
      refine sd_g11_10 (k := 0) C X (by decide) sd_w3_5 dX11_wrong_16 ?_
      refine lv_aload_n hx hb dX11_wrong_19 rfl (lv_at hl 0 rfl) ?_
      refine sd_g11_1 (k := 0) C X (by decide) sd_w1_20 dX11_wrong_20 ?_
      refine lv_aload_n hx hb dX11_wrong_23 rfl (lv_at hl 0 rfl) ?_
      refine sd_g11_8 (k := 0) C X (by decide) sd_w2_21 dX11_wrong_24 ?_
      refine lv_iload_n hx hb dX11_wrong_27 rfl (lv_at hl 2 rfl) ?_
      obtain ⟨r_3, S_2, er_3, h⟩ := sd_cl_some h
      refine k_X10_otherBirthday C X hl.1 (by decide) (by decide) (by decide) er_3 sd_w46_5 (by decide) (Nat.le_of_ble_eq_true rfl) dX11_wrong_28 (fun H locs X => ?_)
      refine lv_iconst (v := (-1 : Int32)) hx hb dX11_wrong_31 (by decide) ?_
      refine lv_icmp_eq (tgt := 41) hx hb dX11_wrong_32 (by decide) (fun c_4 => ?_) (fun c_4 => ?_)
      · have h := sd_ifp c_4 h
        exact t_X11_wrong_b41 C ih x1 x2 S_2 _ _ _ h X (lv_sub hl [0, 1, 2] rfl)
      · have h := sd_ifn c_4 h
        refine lv_iload_n hx hb dX11_wrong_35 rfl (lv_at hl 1 rfl) ?_
        refine lv_iconst (v := (1 : Int32)) hx hb dX11_wrong_36 (by decide) ?_
        refine lv_iload_n hx hb dX11_wrong_37 rfl (lv_at hl 2 rfl) ?_
        refine lv_ishl hx hb dX11_wrong_38 ?_
        refine lv_ior hx hb dX11_wrong_39 ?_
        obtain ⟨v_5, e_5, h⟩ := sd_nm_some h
        refine sd_nmi e_5 ?_
        refine lv_istore_n (lv' := [(1, .int v_5), (0, .ref (ad 0)), (2, .int x2)]) hx hb dX11_wrong_40 rfl hl (by decide) rfl (fun ls hl => ?_)
        exact t_X11_wrong_b41 C ih v_5 x2 S_2 _ _ _ h X (lv_sub hl [1, 0, 2] rfl)
def f_X11_wrong (S : sd_St) : Option (Int32 × sd_St) := f_X11_wrong_l4 sd_FU (0 : Int32) (0 : Int32) S
set_option maxHeartbeats 4000000 in
set_option maxRecDepth 100000 in
theorem c_X11_wrong {S S' : sd_St} {r : Int32} (h : f_X11_wrong S = some (r, S')) : Met l yX11_wrong (Cond.code yX11_wrong cX11_wrong 3 (some .int) :: sd_wl) (sd_rm 6) (sd_P D cy ad A b0 [.ref (ad 0)] S) (sd_Qi D cy ad A r S') 0 0 A := by
  refine sd_met (by decide) (Nat.le_of_ble_eq_true rfl) (fun p e s m args below meth c ls C X hl => ?_)
  obtain ⟨hx, hb, -, hml, hown, hts, -, hG⟩ := id C
  replace C : sd_C RX11 cX11_wrong 3 (some .int) D cy ad A b0 p s m args meth c := C
  replace hl : lv_has ls 3 [(0, .ref (ad 0))] := hl
  unfold f_X11_wrong at h
  refine lv_iconst (v := (0 : Int32)) hx hb dX11_wrong_0 (by decide) ?_
  refine lv_istore_n (lv' := [(1, .int (0 : Int32)), (0, .ref (ad 0))]) hx hb dX11_wrong_1 rfl hl (by decide) rfl (fun ls hl => ?_)
  refine lv_iconst (v := (0 : Int32)) hx hb dX11_wrong_2 (by decide) ?_
  refine lv_istore_n (lv' := [(2, .int (0 : Int32)), (1, .int (0 : Int32)), (0, .ref (ad 0))]) hx hb dX11_wrong_3 rfl hl (by decide) rfl (fun ls hl => ?_)
  exact t_X11_wrong_l4 C sd_FU (0 : Int32) (0 : Int32) S _ _ _ h X (lv_sub hl [2, 1, 0] rfl)
theorem k_X11_wrong (C : sd_C own cc nL rt D cy ad A b0 p s m args meth c) (X : sd_H D cy ad A s S H locs) (hls : ls.size = nL) {S2 : sd_St} {r : Int32} (h : f_X11_wrong S = some (r, S2)) (hlink : Cond.methodLink own index yX11_wrong ∈ sd_wl) (hR : 7 ≤ R.frames ∧ 262 ≤ R.locals ∧ cells ≤ R.cells ∧ slots ≤ R.slots) (hst : (rest.map fun v => v.category).sum ≤ 8) (hdg : decode cc pc = .ok (.invokevirtual index, 3)) (kk : ∀ (H1 : Heap) (locs1 : List Loc), sd_H D cy ad A s S2 H1 locs1 → W p l e R s m args below meth c H1 locs1 cells slots Q (F0 m (pc + 3) ls (.int r :: rest))) : W p l e R s m args below meth c H locs cells slots Q (F0 m pc ls (.ref (ad 0) :: rest)) :=
  sd_goI X (sd_runV C X hls (n := 0) (k := 0) (As := []) (c_X11_wrong (l := l) (b0 := b0) h) (sd_goodV hlink sd_w46_2 sd_w46_3 sd_w1_2 sd_w46_4) (ci := 11) rfl (by rw [(show sd_kd 0 = 11 by decide)]; decide) (sd_c11 (show sd_kd 0 = 11 by decide)) (by decide +kernel) rfl hR rfl hst hdg) kk
/-! ===== SecretDays.instead(I)I ===== -/
def f_X11_instead (x1 : Int32) (S : sd_St) : Option (Int32 × sd_St) := sd_cl (f_X11_isPerson x1 S) (fun r_2 S_1 => (if r_2 = 0 then (some ((-1 : Int32), S_1)) else sd_cl (f_X10_otherBirthday 101 17 72 x1 S_1) (fun r_5 S_4 => (some (r_5, S_4)))))
set_option maxHeartbeats 4000000 in
set_option maxRecDepth 100000 in
theorem c_X11_instead {x1 : Int32} {S S' : sd_St} {r : Int32} (h : f_X11_instead x1 S = some (r, S')) : Met l yX11_instead (Cond.code yX11_instead cX11_instead 2 (some .int) :: sd_wl) (sd_rm 6) (sd_P D cy ad A b0 [.ref (ad 0), .int x1] S) (sd_Qi D cy ad A r S') 0 0 A := by
  refine sd_met (by decide) (Nat.le_of_ble_eq_true rfl) (fun p e s m args below meth c ls C X hl => ?_)
  obtain ⟨hx, hb, -, hml, hown, hts, -, hG⟩ := id C
  replace C : sd_C RX11 cX11_instead 2 (some .int) D cy ad A b0 p s m args meth c := C
  replace hl : lv_has ls 2 [(0, .ref (ad 0)), (1, .int x1)] := hl
  unfold f_X11_instead at h
  refine lv_aload_n hx hb dX11_instead_0 rfl (lv_at hl 0 rfl) ?_
  refine lv_iload_n hx hb dX11_instead_1 rfl (lv_at hl 1 rfl) ?_
  obtain ⟨r_2, S_1, er_2, h⟩ := sd_cl_some h
  refine k_X11_isPerson C X hl.1 er_2 sd_w24_5 (by decide) (Nat.le_of_ble_eq_true rfl) dX11_instead_2 (fun H locs X => ?_)
  refine lv_if_eq (tgt := 27) hx hb dX11_instead_5 (by decide) (fun c_3 => ?_) (fun c_3 => ?_)
  · have h := sd_ifp c_3 h
    refine lv_iconst (v := (-1 : Int32)) hx hb dX11_instead_27 (by decide) ?_
    cases h
    exact sd_iret C X dX11_instead_28
  · have h := sd_ifn c_3 h
    refine lv_aload_n hx hb dX11_instead_8 rfl (lv_at hl 0 rfl) ?_
    refine sd_g11_10 (k := 0) C X (by decide) sd_w3_5 dX11_instead_9 ?_
    refine lv_aload_n hx hb dX11_instead_12 rfl (lv_at hl 0 rfl) ?_
    refine sd_g11_1 (k := 0) C X (by decide) sd_w1_20 dX11_instead_13 ?_
    refine lv_aload_n hx hb dX11_instead_16 rfl (lv_at hl 0 rfl) ?_
    refine sd_g11_8 (k := 0) C X (by decide) sd_w2_21 dX11_instead_17 ?_
    refine lv_iload_n hx hb dX11_instead_20 rfl (lv_at hl 1 rfl) ?_
    obtain ⟨r_5, S_4, er_5, h⟩ := sd_cl_some h
    refine k_X10_otherBirthday C X hl.1 (by decide) (by decide) (by decide) er_5 sd_w46_5 (by decide) (Nat.le_of_ble_eq_true rfl) dX11_instead_21 (fun H locs X => ?_)
    refine lv_goto (tgt := 28) hx hb dX11_instead_24 (by decide) ?_
    cases h
    exact sd_iret C X dX11_instead_28
theorem k_X11_instead (C : sd_C own cc nL rt D cy ad A b0 p s m args meth c) (X : sd_H D cy ad A s S H locs) (hls : ls.size = nL) {x1 : Int32} {S2 : sd_St} {r : Int32} (h : f_X11_instead x1 S = some (r, S2)) (hlink : Cond.methodLink own index yX11_instead ∈ sd_wl) (hR : 7 ≤ R.frames ∧ 261 ≤ R.locals ∧ cells ≤ R.cells ∧ slots ≤ R.slots) (hst : (rest.map fun v => v.category).sum ≤ 8) (hdg : decode cc pc = .ok (.invokevirtual index, 3)) (kk : ∀ (H1 : Heap) (locs1 : List Loc), sd_H D cy ad A s S2 H1 locs1 → W p l e R s m args below meth c H1 locs1 cells slots Q (F0 m (pc + 3) ls (.int r :: rest))) : W p l e R s m args below meth c H locs cells slots Q (F0 m pc ls (.int x1 :: .ref (ad 0) :: rest)) :=
  sd_goI X (sd_runV C X hls (n := 1) (k := 0) (As := [.int x1]) (c_X11_instead (l := l) (b0 := b0) h) (sd_goodV hlink sd_w47_6 sd_w47_7 sd_w1_2 sd_w47_8) (ci := 11) rfl (by rw [(show sd_kd 0 = 11 by decide)]; decide) (sd_c11 (show sd_kd 0 = 11 by decide)) (by decide +kernel) rfl hR rfl hst hdg) kk
/-! ===== SecretDays.runs(IIIIII)I ===== -/
def f_X11_runs_b138 (q81 : (Int32 → Int32 → Int32 → Int32 → Int32 → Int32 → Int32 → Int32 → sd_St → Option (Int32 × sd_St))) (x2 : Int32) (x3 : Int32) (x4 : Int32) (x5 : Int32) (x6 : Int32) (x7 : Int32) (x8 : Int32) (x9 : Int32) (S : sd_St) : Option (Int32 × sd_St) := q81 x2 x3 x4 x5 x6 x7 x8 (x9 + (1 : Int32)) S
set_option maxHeartbeats 4000000 in
set_option maxRecDepth 100000 in
theorem t_X11_runs_b138 (C : sd_C RX11 cX11_runs 10 (some .int) D cy ad A b0 p s m args meth c) {r : Int32} {S' : sd_St} {q81 : (Int32 → Int32 → Int32 → Int32 → Int32 → Int32 → Int32 → Int32 → sd_St → Option (Int32 × sd_St))} (hq81 : ∀ (x2 : Int32) (x3 : Int32) (x4 : Int32) (x5 : Int32) (x6 : Int32) (x7 : Int32) (x8 : Int32) (x9 : Int32) (S : sd_St) (H : Heap) (locs : List Loc) (ls : Array Slot), q81 x2 x3 x4 x5 x6 x7 x8 x9 S = some (r, S') → sd_H D cy ad A s S H locs → lv_has ls 10 [(0, .ref (ad 0)), (2, .int x2), (3, .int x3), (4, .int x4), (5, .int x5), (6, .int x6), (7, .int x7), (8, .int x8), (9, .int x9)] → W p l e (sd_rm 5) s m args below meth c H locs 0 0 (MQ below (sd_Qi D cy ad A r S') args s 0 0 A) (F0 m 81 ls [])) : ∀ (x2 : Int32) (x3 : Int32) (x4 : Int32) (x5 : Int32) (x6 : Int32) (x7 : Int32) (x8 : Int32) (x9 : Int32) (S : sd_St) (H : Heap) (locs : List Loc) (ls : Array Slot), f_X11_runs_b138 q81 x2 x3 x4 x5 x6 x7 x8 x9 S = some (r, S') → sd_H D cy ad A s S H locs → lv_has ls 10 [(0, .ref (ad 0)), (2, .int x2), (3, .int x3), (4, .int x4), (5, .int x5), (6, .int x6), (7, .int x7), (8, .int x8), (9, .int x9)] → W p l e (sd_rm 5) s m args below meth c H locs 0 0 (MQ below (sd_Qi D cy ad A r S') args s 0 0 A) (F0 m 138 ls []) := by
  obtain ⟨hx, hb, -, hml, hown, hts, -, hG⟩ := id C
  intro x2 x3 x4 x5 x6 x7 x8 x9 S H locs ls h X hl
  unfold f_X11_runs_b138 at h
  refine lv_iinc (v := (x9 + (1 : Int32))) (lv' := [(9, .int (x9 + (1 : Int32))), (0, .ref (ad 0)), (2, .int x2), (3, .int x3), (4, .int x4), (5, .int x5), (6, .int x6), (7, .int x7), (8, .int x8)]) hx hb dX11_runs_138 hl (k := 8) rfl rfl (by decide) rfl (fun ls hl => ?_)
  refine lv_goto (tgt := 81) hx hb dX11_runs_141 (by decide) ?_
  exact hq81 x2 x3 x4 x5 x6 x7 x8 (x9 + (1 : Int32)) S _ _ _ h X (lv_sub hl [1, 2, 3, 4, 5, 6, 7, 8, 0] rfl)
def f_X11_runs_l81 : Nat → Int32 → Int32 → Int32 → Int32 → Int32 → Int32 → Int32 → Int32 → sd_St → Option (Int32 × sd_St)
  | 0 => fun _ _ _ _ _ _ _ _ _ => none
  | n + 1 => fun x2 x3 x4 x5 x6 x7 x8 x9 S => (if x2 ≤ x9 then (if x6 = 0 then (some (x7, S)) else (some (x8, S))) else sd_cl (f_X0_liveThrough 71 17 28 54 x3 S) (fun _ S_3 => sd_cl (f_X5_hadBy 54 x4 x5 S_3) (fun r_6 S_5 => (if r_6 = 0 then f_X11_runs_b138 (f_X11_runs_l81 n) x2 x3 x4 x5 x6 x7 x8 x9 S_5 else sd_cl (f_X5_had 54 x4 S_5) (fun r_9 S_8 => sd_nm ((x8 + r_9)) (fun v_10 => f_X11_runs_b138 (f_X11_runs_l81 n) x2 x3 x4 x5 x6 (x7 + (1 : Int32)) v_10 x9 S_8))))))
set_option maxHeartbeats 4000000 in
set_option maxRecDepth 100000 in
theorem t_X11_runs_l81 (C : sd_C RX11 cX11_runs 10 (some .int) D cy ad A b0 p s m args meth c) {r : Int32} {S' : sd_St} : ∀ (n : Nat) (x2 : Int32) (x3 : Int32) (x4 : Int32) (x5 : Int32) (x6 : Int32) (x7 : Int32) (x8 : Int32) (x9 : Int32) (S : sd_St) (H : Heap) (locs : List Loc) (ls : Array Slot), f_X11_runs_l81 n x2 x3 x4 x5 x6 x7 x8 x9 S = some (r, S') → sd_H D cy ad A s S H locs → lv_has ls 10 [(0, .ref (ad 0)), (2, .int x2), (3, .int x3), (4, .int x4), (5, .int x5), (6, .int x6), (7, .int x7), (8, .int x8), (9, .int x9)] → W p l e (sd_rm 5) s m args below meth c H locs 0 0 (MQ below (sd_Qi D cy ad A r S') args s 0 0 A) (F0 m 81 ls []) := by
  obtain ⟨hx, hb, -, hml, hown, hts, -, hG⟩ := id C
  intro n
  induction n with
  | zero => intro x2 x3 x4 x5 x6 x7 x8 x9 S H locs ls h; cases h
  | succ n ih =>
    intro x2 x3 x4 x5 x6 x7 x8 x9 S H locs ls h X hl
    unfold f_X11_runs_l81 at h
    refine lv_iload hx hb dX11_runs_81 (lv_at hl 8 rfl) ?_
    refine lv_iload_n hx hb dX11_runs_83 rfl (lv_at hl 1 rfl) ?_
    refine lv_icmp_ge (tgt := 144) hx hb dX11_runs_84 (by decide) (fun c_1 => ?_) (fun c_1 => ?_)
    · have h := sd_ifp c_1 h
      refine lv_iload hx hb dX11_runs_144 (lv_at hl 5 rfl) ?_
      refine lv_if_ne (tgt := 154) hx hb dX11_runs_146 (by decide) (fun c_2 => ?_) (fun c_2 => ?_)
      · have h := sd_ifn c_2 h
        refine lv_iload hx hb dX11_runs_154 (lv_at hl 7 rfl) ?_
        cases h
        exact sd_iret C X dX11_runs_156
      · have h := sd_ifp c_2 h
        refine lv_iload hx hb dX11_runs_149 (lv_at hl 6 rfl) ?_
        refine lv_goto (tgt := 156) hx hb dX11_runs_151 (by decide) ?_
        cases h
        exact sd_iret C X dX11_runs_156
    · have h := sd_ifn c_1 h
      refine lv_aload_n hx hb dX11_runs_87 rfl (lv_at hl 0 rfl) ?_
      refine sd_g11_7 (k := 0) C X (by decide) sd_w2_17 dX11_runs_88 ?_
      refine lv_aload_n hx hb dX11_runs_91 rfl (lv_at hl 0 rfl) ?_
      refine sd_g11_1 (k := 0) C X (by decide) sd_w1_20 dX11_runs_92 ?_
      refine lv_aload_n hx hb dX11_runs_95 rfl (lv_at hl 0 rfl) ?_
      refine sd_g11_2 (k := 0) C X (by decide) sd_w2_0 dX11_runs_96 ?_
      refine lv_iload_n hx hb dX11_runs_99 rfl (lv_at hl 2 rfl) ?_
      refine lv_aload_n hx hb dX11_runs_100 rfl (lv_at hl 0 rfl) ?_
      refine sd_g11_4 (k := 0) C X (by decide) sd_w2_5 dX11_runs_101 ?_
      obtain ⟨r_4, S_3, er_4, h⟩ := sd_cl_some h
      refine k_X0_liveThrough C X hl.1 (by decide) (by decide) (by decide) (by decide) er_4 sd_w47_22 (by decide) (Nat.le_of_ble_eq_true rfl) dX11_runs_104 (fun H locs X => ?_)
      refine lv_aload_n hx hb dX11_runs_107 rfl (lv_at hl 0 rfl) ?_
      refine sd_g11_4 (k := 0) C X (by decide) sd_w2_5 dX11_runs_108 ?_
      refine lv_iload hx hb dX11_runs_111 (lv_at hl 3 rfl) ?_
      refine lv_iload hx hb dX11_runs_113 (lv_at hl 4 rfl) ?_
      obtain ⟨r_6, S_5, er_6, h⟩ := sd_cl_some h
      refine k_X5_hadBy C X hl.1 (by decide) er_6 sd_w35_0 (by decide) (Nat.le_of_ble_eq_true rfl) dX11_runs_115 (fun H locs X => ?_)
      refine lv_if_eq (tgt := 138) hx hb dX11_runs_118 (by decide) (fun c_7 => ?_) (fun c_7 => ?_)
      · have h := sd_ifp c_7 h
        exact t_X11_runs_b138 C ih x2 x3 x4 x5 x6 x7 x8 x9 S_5 _ _ _ h X (lv_sub hl [0, 1, 2, 3, 4, 5, 6, 7, 8] rfl)
      · have h := sd_ifn c_7 h
        refine lv_iinc (v := (x7 + (1 : Int32))) (lv' := [(7, .int (x7 + (1 : Int32))), (0, .ref (ad 0)), (2, .int x2), (3, .int x3), (4, .int x4), (5, .int x5), (6, .int x6), (8, .int x8), (9, .int x9)]) hx hb dX11_runs_121 hl (k := 6) rfl rfl (by decide) rfl (fun ls hl => ?_)
        refine lv_iload hx hb dX11_runs_124 (lv_at hl 7 rfl) ?_
        refine lv_aload_n hx hb dX11_runs_126 rfl (lv_at hl 1 rfl) ?_
        refine sd_g11_4 (k := 0) C X (by decide) sd_w2_5 dX11_runs_127 ?_
        refine lv_iload hx hb dX11_runs_130 (lv_at hl 4 rfl) ?_
        obtain ⟨r_9, S_8, er_9, h⟩ := sd_cl_some h
        refine k_X5_had C X hl.1 (by decide) er_9 sd_w31_2 (by decide) (Nat.le_of_ble_eq_true rfl) dX11_runs_132 (fun H locs X => ?_)
        refine lv_iadd hx hb dX11_runs_135 ?_
        obtain ⟨v_10, e_10, h⟩ := sd_nm_some h
        refine sd_nmi e_10 ?_
        refine lv_istore (lv' := [(8, .int v_10), (7, .int (x7 + (1 : Int32))), (0, .ref (ad 0)), (2, .int x2), (3, .int x3), (4, .int x4), (5, .int x5), (6, .int x6), (9, .int x9)]) hx hb dX11_runs_136 hl (by decide) rfl (fun ls hl => ?_)
        exact t_X11_runs_b138 C ih x2 x3 x4 x5 x6 (x7 + (1 : Int32)) v_10 x9 S_8 _ _ _ h X (lv_sub hl [2, 3, 4, 5, 6, 7, 1, 0, 8] rfl)
def f_X11_runs (x1 : Int32) (x2 : Int32) (x3 : Int32) (x4 : Int32) (x5 : Int32) (x6 : Int32) (S : sd_St) : Option (Int32 × sd_St) := (if x1 < 0 then (some ((-1 : Int32), S)) else (if (9999 : Int32) < x1 then (some ((-1 : Int32), S)) else (if x2 < (1 : Int32) then (some ((-1 : Int32), S)) else (if (20 : Int32) < x2 then (some ((-1 : Int32), S)) else sd_cl (f_X11_isOneOfTwo x6 S) (fun r_16 S_15 => (if r_16 = 0 then (some ((-1 : Int32), S_15)) else sd_cl (f_X11_isSecret x3 S_15) (fun r_19 S_18 => (if r_19 = 0 then (some ((-1 : Int32), S_18)) else sd_cl (f_X11_isPerson x4 S_18) (fun r_22 S_21 => (if r_22 = 0 then (some ((-1 : Int32), S_21)) else sd_cl (f_X11_isDate x5 S_21) (fun r_25 S_24 => (if r_25 = 0 then (some ((-1 : Int32), S_24)) else sd_cl (f_X11_bringUpToDate S_24) (fun _ S_27 => sd_cl (f_X0_start 71 x1 S_27) (fun _ S_29 => f_X11_runs_l81 sd_FU x2 x3 x4 x5 x6 (0 : Int32) (0 : Int32) (0 : Int32) S_29))))))))))))))
set_option maxHeartbeats 4000000 in
set_option maxRecDepth 100000 in
theorem c_X11_runs {x1 : Int32} {x2 : Int32} {x3 : Int32} {x4 : Int32} {x5 : Int32} {x6 : Int32} {S S' : sd_St} {r : Int32} (h : f_X11_runs x1 x2 x3 x4 x5 x6 S = some (r, S')) : Met l yX11_runs (Cond.code yX11_runs cX11_runs 10 (some .int) :: sd_wl) (sd_rm 5) (sd_P D cy ad A b0 [.ref (ad 0), .int x1, .int x2, .int x3, .int x4, .int x5, .int x6] S) (sd_Qi D cy ad A r S') 0 0 A := by
  refine sd_met (by decide) (Nat.le_of_ble_eq_true rfl) (fun p e s m args below meth c ls C X hl => ?_)
  obtain ⟨hx, hb, -, hml, hown, hts, -, hG⟩ := id C
  replace C : sd_C RX11 cX11_runs 10 (some .int) D cy ad A b0 p s m args meth c := C
  replace hl : lv_has ls 10 [(0, .ref (ad 0)), (1, .int x1), (2, .int x2), (3, .int x3), (4, .int x4), (5, .int x5), (6, .int x6)] := hl
  unfold f_X11_runs at h
  refine lv_iload_n hx hb dX11_runs_0 rfl (lv_at hl 1 rfl) ?_
  refine lv_if_lt (tgt := 30) hx hb dX11_runs_1 (by decide) (fun c_11 => ?_) (fun c_11 => ?_)
  · have h := sd_ifp c_11 h
    refine lv_iconst (v := (-1 : Int32)) hx hb dX11_runs_30 (by decide) ?_
    cases h
    exact sd_iret C X dX11_runs_31
  · have h := sd_ifn c_11 h
    refine lv_iload_n hx hb dX11_runs_4 rfl (lv_at hl 1 rfl) ?_
    refine lv_sipush (v := (9999 : Int32)) hx hb dX11_runs_5 (by decide) ?_
    refine lv_icmp_gt (tgt := 30) hx hb dX11_runs_8 (by decide) (fun c_12 => ?_) (fun c_12 => ?_)
    · have h := sd_ifp c_12 h
      refine lv_iconst (v := (-1 : Int32)) hx hb dX11_runs_30 (by decide) ?_
      cases h
      exact sd_iret C X dX11_runs_31
    · have h := sd_ifn c_12 h
      refine lv_iload_n hx hb dX11_runs_11 rfl (lv_at hl 2 rfl) ?_
      refine lv_iconst (v := (1 : Int32)) hx hb dX11_runs_12 (by decide) ?_
      refine lv_icmp_lt (tgt := 30) hx hb dX11_runs_13 (by decide) (fun c_13 => ?_) (fun c_13 => ?_)
      · have h := sd_ifp c_13 h
        refine lv_iconst (v := (-1 : Int32)) hx hb dX11_runs_30 (by decide) ?_
        cases h
        exact sd_iret C X dX11_runs_31
      · have h := sd_ifn c_13 h
        refine lv_iload_n hx hb dX11_runs_16 rfl (lv_at hl 2 rfl) ?_
        refine lv_bipush (v := (20 : Int32)) hx hb dX11_runs_17 (by decide) ?_
        refine lv_icmp_gt (tgt := 30) hx hb dX11_runs_19 (by decide) (fun c_14 => ?_) (fun c_14 => ?_)
        · have h := sd_ifp c_14 h
          refine lv_iconst (v := (-1 : Int32)) hx hb dX11_runs_30 (by decide) ?_
          cases h
          exact sd_iret C X dX11_runs_31
        · have h := sd_ifn c_14 h
          refine lv_iload hx hb dX11_runs_22 (lv_at hl 6 rfl) ?_
          obtain ⟨r_16, S_15, er_16, h⟩ := sd_cl_some h
          refine k_X11_isOneOfTwo C X hl.1 er_16 sd_w41_8 (by decide) (Nat.le_of_ble_eq_true rfl) dX11_runs_24 (fun H locs X => ?_)
          refine lv_if_ne (tgt := 32) hx hb dX11_runs_27 (by decide) (fun c_17 => ?_) (fun c_17 => ?_)
          · have h := sd_ifn c_17 h
            refine lv_aload_n hx hb dX11_runs_32 rfl (lv_at hl 0 rfl) ?_
            refine lv_iload_n hx hb dX11_runs_33 rfl (lv_at hl 3 rfl) ?_
            obtain ⟨r_19, S_18, er_19, h⟩ := sd_cl_some h
            refine k_X11_isSecret C X hl.1 er_19 sd_w28_9 (by decide) (Nat.le_of_ble_eq_true rfl) dX11_runs_34 (fun H locs X => ?_)
            refine lv_if_eq (tgt := 58) hx hb dX11_runs_37 (by decide) (fun c_20 => ?_) (fun c_20 => ?_)
            · have h := sd_ifp c_20 h
              refine lv_iconst (v := (-1 : Int32)) hx hb dX11_runs_58 (by decide) ?_
              cases h
              exact sd_iret C X dX11_runs_59
            · have h := sd_ifn c_20 h
              refine lv_aload_n hx hb dX11_runs_40 rfl (lv_at hl 0 rfl) ?_
              refine lv_iload hx hb dX11_runs_41 (lv_at hl 4 rfl) ?_
              obtain ⟨r_22, S_21, er_22, h⟩ := sd_cl_some h
              refine k_X11_isPerson C X hl.1 er_22 sd_w24_5 (by decide) (Nat.le_of_ble_eq_true rfl) dX11_runs_43 (fun H locs X => ?_)
              refine lv_if_eq (tgt := 58) hx hb dX11_runs_46 (by decide) (fun c_23 => ?_) (fun c_23 => ?_)
              · have h := sd_ifp c_23 h
                refine lv_iconst (v := (-1 : Int32)) hx hb dX11_runs_58 (by decide) ?_
                cases h
                exact sd_iret C X dX11_runs_59
              · have h := sd_ifn c_23 h
                refine lv_aload_n hx hb dX11_runs_49 rfl (lv_at hl 0 rfl) ?_
                refine lv_iload hx hb dX11_runs_50 (lv_at hl 5 rfl) ?_
                obtain ⟨r_25, S_24, er_25, h⟩ := sd_cl_some h
                refine k_X11_isDate C X hl.1 er_25 sd_w26_12 (by decide) (Nat.le_of_ble_eq_true rfl) dX11_runs_52 (fun H locs X => ?_)
                refine lv_if_ne (tgt := 60) hx hb dX11_runs_55 (by decide) (fun c_26 => ?_) (fun c_26 => ?_)
                · have h := sd_ifn c_26 h
                  refine lv_aload_n hx hb dX11_runs_60 rfl (lv_at hl 0 rfl) ?_
                  obtain ⟨r_28, S_27, er_28, h⟩ := sd_cl_some h
                  refine k_X11_bringUpToDate C X hl.1 er_28 sd_w28_14 (by decide) (Nat.le_of_ble_eq_true rfl) dX11_runs_61 (fun H locs X => ?_)
                  refine lv_aload_n hx hb dX11_runs_64 rfl (lv_at hl 0 rfl) ?_
                  refine sd_g11_7 (k := 0) C X (by decide) sd_w2_17 dX11_runs_65 ?_
                  refine lv_iload_n hx hb dX11_runs_68 rfl (lv_at hl 1 rfl) ?_
                  obtain ⟨r_30, S_29, er_30, h⟩ := sd_cl_some h
                  refine k_X0_start C X hl.1 (by decide) er_30 sd_w47_17 (by decide) (Nat.le_of_ble_eq_true rfl) dX11_runs_69 (fun H locs X => ?_)
                  refine lv_iconst (v := (0 : Int32)) hx hb dX11_runs_72 (by decide) ?_
                  refine lv_istore (lv' := [(7, .int (0 : Int32)), (0, .ref (ad 0)), (1, .int x1), (2, .int x2), (3, .int x3), (4, .int x4), (5, .int x5), (6, .int x6)]) hx hb dX11_runs_73 hl (by decide) rfl (fun ls hl => ?_)
                  refine lv_iconst (v := (0 : Int32)) hx hb dX11_runs_75 (by decide) ?_
                  refine lv_istore (lv' := [(8, .int (0 : Int32)), (7, .int (0 : Int32)), (0, .ref (ad 0)), (1, .int x1), (2, .int x2), (3, .int x3), (4, .int x4), (5, .int x5), (6, .int x6)]) hx hb dX11_runs_76 hl (by decide) rfl (fun ls hl => ?_)
                  refine lv_iconst (v := (0 : Int32)) hx hb dX11_runs_78 (by decide) ?_
                  refine lv_istore (lv' := [(9, .int (0 : Int32)), (8, .int (0 : Int32)), (7, .int (0 : Int32)), (0, .ref (ad 0)), (1, .int x1), (2, .int x2), (3, .int x3), (4, .int x4), (5, .int x5), (6, .int x6)]) hx hb dX11_runs_79 hl (by decide) rfl (fun ls hl => ?_)
                  exact t_X11_runs_l81 C sd_FU x2 x3 x4 x5 x6 (0 : Int32) (0 : Int32) (0 : Int32) S_29 _ _ _ h X (lv_sub hl [3, 5, 6, 7, 8, 9, 2, 1, 0] rfl)
                · have h := sd_ifp c_26 h
                  refine lv_iconst (v := (-1 : Int32)) hx hb dX11_runs_58 (by decide) ?_
                  cases h
                  exact sd_iret C X dX11_runs_59
          · have h := sd_ifp c_17 h
            refine lv_iconst (v := (-1 : Int32)) hx hb dX11_runs_30 (by decide) ?_
            cases h
            exact sd_iret C X dX11_runs_31
theorem k_X11_runs (C : sd_C own cc nL rt D cy ad A b0 p s m args meth c) (X : sd_H D cy ad A s S H locs) (hls : ls.size = nL) {x1 : Int32} {x2 : Int32} {x3 : Int32} {x4 : Int32} {x5 : Int32} {x6 : Int32} {S2 : sd_St} {r : Int32} (h : f_X11_runs x1 x2 x3 x4 x5 x6 S = some (r, S2)) (hlink : Cond.methodLink own index yX11_runs ∈ sd_wl) (hR : 6 ≤ R.frames ∧ 229 ≤ R.locals ∧ cells ≤ R.cells ∧ slots ≤ R.slots) (hst : (rest.map fun v => v.category).sum ≤ 8) (hdg : decode cc pc = .ok (.invokevirtual index, 3)) (kk : ∀ (H1 : Heap) (locs1 : List Loc), sd_H D cy ad A s S2 H1 locs1 → W p l e R s m args below meth c H1 locs1 cells slots Q (F0 m (pc + 3) ls (.int r :: rest))) : W p l e R s m args below meth c H locs cells slots Q (F0 m pc ls (.int x6 :: .int x5 :: .int x4 :: .int x3 :: .int x2 :: .int x1 :: .ref (ad 0) :: rest)) :=
  sd_goI X (sd_runV C X hls (n := 6) (k := 0) (As := [.int x1, .int x2, .int x3, .int x4, .int x5, .int x6]) (c_X11_runs (l := l) (b0 := b0) h) (sd_goodV hlink sd_w47_14 sd_w47_15 sd_w1_2 sd_w47_16) (ci := 11) rfl (by rw [(show sd_kd 0 = 11 by decide)]; decide) (sd_c11 (show sd_kd 0 = 11 by decide)) (by decide +kernel) rfl hR rfl hst hdg) kk
/-! ===== SecretDays.mark(IZ)Z ===== -/
def f_X11_mark (x1 : Int32) (x2 : Int32) (S : sd_St) : Option (Int32 × sd_St) := (if x1 < 0 then (some ((0 : Int32), S)) else (if x1 < (4 : Int32) then (if x2 = 0 then sd_cl (f_X3_lay 77 17 72 x1 S) (fun _ S_10 => (some ((1 : Int32), S_10))) else sd_ld S 78 x1 (fun v_4 => (if v_4 = 0 then (some ((0 : Int32), S)) else sd_cl (f_X3_goBack 77 17 72 x1 S) (fun _ S_6 => sd_cl (f_X11_forgetWorkedOut S_6) (fun _ S_8 => (some ((1 : Int32), S_8))))))) else (some ((0 : Int32), S))))
set_option maxHeartbeats 4000000 in
set_option maxRecDepth 100000 in
theorem c_X11_mark {x1 : Int32} {x2 : Int32} {S S' : sd_St} {r : Int32} (h : f_X11_mark x1 x2 S = some (r, S')) : Met l yX11_mark (Cond.code yX11_mark cX11_mark 3 (some .boolean) :: sd_wl) (sd_rm 3) (sd_P D cy ad A b0 [.ref (ad 0), .int x1, .int x2] S) (sd_Qi D cy ad A r S') 0 0 A := by
  refine sd_met (by decide) (Nat.le_of_ble_eq_true rfl) (fun p e s m args below meth c ls C X hl => ?_)
  obtain ⟨hx, hb, -, hml, hown, hts, -, hG⟩ := id C
  replace C : sd_C RX11 cX11_mark 3 (some .boolean) D cy ad A b0 p s m args meth c := C
  replace hl : lv_has ls 3 [(0, .ref (ad 0)), (1, .int x1), (2, .int x2)] := hl
  unfold f_X11_mark at h
  refine lv_iload_n hx hb dX11_mark_0 rfl (lv_at hl 1 rfl) ?_
  refine lv_if_lt (tgt := 9) hx hb dX11_mark_1 (by decide) (fun c_1 => ?_) (fun c_1 => ?_)
  · have h := sd_ifp c_1 h
    refine lv_iconst (v := (0 : Int32)) hx hb dX11_mark_9 (by decide) ?_
    cases h
    exact sd_zret C X (by decide) dX11_mark_10
  · have h := sd_ifn c_1 h
    refine lv_iload_n hx hb dX11_mark_4 rfl (lv_at hl 1 rfl) ?_
    refine lv_iconst (v := (4 : Int32)) hx hb dX11_mark_5 (by decide) ?_
    refine lv_icmp_lt (tgt := 11) hx hb dX11_mark_6 (by decide) (fun c_2 => ?_) (fun c_2 => ?_)
    · have h := sd_ifp c_2 h
      refine lv_iload_n hx hb dX11_mark_11 rfl (lv_at hl 2 rfl) ?_
      refine lv_if_ne (tgt := 33) hx hb dX11_mark_12 (by decide) (fun c_3 => ?_) (fun c_3 => ?_)
      · have h := sd_ifn c_3 h
        refine lv_aload_n hx hb dX11_mark_33 rfl (lv_at hl 0 rfl) ?_
        refine sd_g11_9 (k := 0) C X (by decide) sd_w3_1 dX11_mark_34 ?_
        refine sd_g3_0 (k := 77) C X (by decide) sd_w49_15 dX11_mark_37 ?_
        refine lv_iload_n hx hb dX11_mark_40 rfl (lv_at hl 1 rfl) ?_
        obtain ⟨b_4, v_4, e_4, h⟩ := sd_ld_some h
        refine sd_zald C X (by decide) b_4 dX11_mark_41 (sd_nmi e_4 ?_)
        refine lv_if_ne (tgt := 47) hx hb dX11_mark_42 (by decide) (fun c_5 => ?_) (fun c_5 => ?_)
        · have h := sd_ifn c_5 h
          refine lv_aload_n hx hb dX11_mark_47 rfl (lv_at hl 0 rfl) ?_
          refine sd_g11_9 (k := 0) C X (by decide) sd_w3_1 dX11_mark_48 ?_
          refine lv_iload_n hx hb dX11_mark_51 rfl (lv_at hl 1 rfl) ?_
          refine lv_aload_n hx hb dX11_mark_52 rfl (lv_at hl 0 rfl) ?_
          refine sd_g11_1 (k := 0) C X (by decide) sd_w1_20 dX11_mark_53 ?_
          refine lv_aload_n hx hb dX11_mark_56 rfl (lv_at hl 0 rfl) ?_
          refine sd_g11_8 (k := 0) C X (by decide) sd_w2_21 dX11_mark_57 ?_
          obtain ⟨r_7, S_6, er_7, h⟩ := sd_cl_some h
          refine k_X3_goBack C X hl.1 (by decide) (by decide) (by decide) er_7 sd_w50_1 (by decide) (Nat.le_of_ble_eq_true rfl) dX11_mark_60 (fun H locs X => ?_)
          refine lv_aload_n hx hb dX11_mark_63 rfl (lv_at hl 0 rfl) ?_
          obtain ⟨r_9, S_8, er_9, h⟩ := sd_cl_some h
          refine k_X11_forgetWorkedOut C X hl.1 er_9 sd_w18_6 (by decide) (Nat.le_of_ble_eq_true rfl) dX11_mark_64 (fun H locs X => ?_)
          refine lv_iconst (v := (1 : Int32)) hx hb dX11_mark_67 (by decide) ?_
          cases h
          exact sd_zret C X (by decide) dX11_mark_68
        · have h := sd_ifp c_5 h
          refine lv_iconst (v := (0 : Int32)) hx hb dX11_mark_45 (by decide) ?_
          cases h
          exact sd_zret C X (by decide) dX11_mark_46
      · have h := sd_ifp c_3 h
        refine lv_aload_n hx hb dX11_mark_15 rfl (lv_at hl 0 rfl) ?_
        refine sd_g11_9 (k := 0) C X (by decide) sd_w3_1 dX11_mark_16 ?_
        refine lv_iload_n hx hb dX11_mark_19 rfl (lv_at hl 1 rfl) ?_
        refine lv_aload_n hx hb dX11_mark_20 rfl (lv_at hl 0 rfl) ?_
        refine sd_g11_1 (k := 0) C X (by decide) sd_w1_20 dX11_mark_21 ?_
        refine lv_aload_n hx hb dX11_mark_24 rfl (lv_at hl 0 rfl) ?_
        refine sd_g11_8 (k := 0) C X (by decide) sd_w2_21 dX11_mark_25 ?_
        obtain ⟨r_11, S_10, er_11, h⟩ := sd_cl_some h
        refine k_X3_lay C X hl.1 (by decide) (by decide) (by decide) er_11 sd_w49_16 (by decide) (Nat.le_of_ble_eq_true rfl) dX11_mark_28 (fun H locs X => ?_)
        refine lv_iconst (v := (1 : Int32)) hx hb dX11_mark_31 (by decide) ?_
        cases h
        exact sd_zret C X (by decide) dX11_mark_32
    · have h := sd_ifn c_2 h
      refine lv_iconst (v := (0 : Int32)) hx hb dX11_mark_9 (by decide) ?_
      cases h
      exact sd_zret C X (by decide) dX11_mark_10
theorem k_X11_mark (C : sd_C own cc nL rt D cy ad A b0 p s m args meth c) (X : sd_H D cy ad A s S H locs) (hls : ls.size = nL) {x1 : Int32} {x2 : Int32} {S2 : sd_St} {r : Int32} (h : f_X11_mark x1 x2 S = some (r, S2)) (hlink : Cond.methodLink own index yX11_mark ∈ sd_wl) (hR : 4 ≤ R.frames ∧ 142 ≤ R.locals ∧ cells ≤ R.cells ∧ slots ≤ R.slots) (hst : (rest.map fun v => v.category).sum ≤ 8) (hdg : decode cc pc = .ok (.invokevirtual index, 3)) (kk : ∀ (H1 : Heap) (locs1 : List Loc), sd_H D cy ad A s S2 H1 locs1 → W p l e R s m args below meth c H1 locs1 cells slots Q (F0 m (pc + 3) ls (.int r :: rest))) : W p l e R s m args below meth c H locs cells slots Q (F0 m pc ls (.int x2 :: .int x1 :: .ref (ad 0) :: rest)) :=
  sd_goI X (sd_runV C X hls (n := 2) (k := 0) (As := [.int x1, .int x2]) (c_X11_mark (l := l) (b0 := b0) h) (sd_goodV hlink sd_w49_12 sd_w49_13 sd_w1_2 sd_w49_14) (ci := 11) rfl (by rw [(show sd_kd 0 = 11 by decide)]; decide) (sd_c11 (show sd_kd 0 = 11 by decide)) (by decide +kernel) rfl hR rfl hst hdg) kk
/-! ===== SecretDays.count(I)I ===== -/
def f_X11_count (x1 : Int32) (S : sd_St) : Option (Int32 × sd_St) := (if x1 = (0 : Int32) then (some ((S.1 17 0), S)) else (if x1 = (1 : Int32) then (some ((S.1 17 11), S)) else (if x1 = (2 : Int32) then (some ((S.1 17 6), S)) else (if x1 = (3 : Int32) then (some ((S.1 17 7), S)) else (if x1 = (4 : Int32) then (some ((S.1 17 14), S)) else (if x1 = (5 : Int32) then (if (S.1 17 15) = 0 then (some ((0 : Int32), S)) else (some ((1 : Int32), S))) else (if x1 = (6 : Int32) then (some ((S.1 72 0), S)) else (if x1 = (7 : Int32) then (some ((S.1 13 1), S)) else (some ((-1 : Int32), S))))))))))
set_option maxHeartbeats 4000000 in
set_option maxRecDepth 100000 in
theorem c_X11_count {x1 : Int32} {S S' : sd_St} {r : Int32} (h : f_X11_count x1 S = some (r, S')) : Met l yX11_count (Cond.code yX11_count cX11_count 2 (some .int) :: sd_wl) (sd_rm 0) (sd_P D cy ad A b0 [.ref (ad 0), .int x1] S) (sd_Qi D cy ad A r S') 0 0 A := by
  refine sd_met (by decide) (Nat.le_of_ble_eq_true rfl) (fun p e s m args below meth c ls C X hl => ?_)
  obtain ⟨hx, hb, -, hml, hown, hts, -, hG⟩ := id C
  replace C : sd_C RX11 cX11_count 2 (some .int) D cy ad A b0 p s m args meth c := C
  replace hl : lv_has ls 2 [(0, .ref (ad 0)), (1, .int x1)] := hl
  unfold f_X11_count at h
  refine lv_iload_n hx hb dX11_count_0 rfl (lv_at hl 1 rfl) ?_
  by_cases c_1 : x1 = (0 : Int32)
  · have h := sd_ifp c_1 h
    refine lv_tableIn (tgt := 48) hx hb dX11_count_1 (by rw [c_1]; decide) (by rw [c_1]; decide) (by rw [c_1]; rfl) (by decide) ?_
    refine lv_aload_n hx hb dX11_count_48 rfl (lv_at hl 0 rfl) ?_
    refine sd_g11_1 (k := 0) C X (by decide) sd_w1_20 dX11_count_49 ?_
    refine sd_g8_0 C X (by decide) sd_w24_9 dX11_count_52 ?_
    cases h
    exact sd_iret C X dX11_count_55
  have h := sd_ifn c_1 h
  by_cases c_2 : x1 = (1 : Int32)
  · have h := sd_ifp c_2 h
    refine lv_tableIn (tgt := 56) hx hb dX11_count_1 (by rw [c_2]; decide) (by rw [c_2]; decide) (by rw [c_2]; rfl) (by decide) ?_
    refine lv_aload_n hx hb dX11_count_56 rfl (lv_at hl 0 rfl) ?_
    refine sd_g11_1 (k := 0) C X (by decide) sd_w1_20 dX11_count_57 ?_
    refine sd_g8_11 C X (by decide) sd_w28_13 dX11_count_60 ?_
    cases h
    exact sd_iret C X dX11_count_63
  have h := sd_ifn c_2 h
  by_cases c_3 : x1 = (2 : Int32)
  · have h := sd_ifp c_3 h
    refine lv_tableIn (tgt := 64) hx hb dX11_count_1 (by rw [c_3]; decide) (by rw [c_3]; decide) (by rw [c_3]; rfl) (by decide) ?_
    refine lv_aload_n hx hb dX11_count_64 rfl (lv_at hl 0 rfl) ?_
    refine sd_g11_1 (k := 0) C X (by decide) sd_w1_20 dX11_count_65 ?_
    refine sd_g8_6 C X (by decide) sd_w50_13 dX11_count_68 ?_
    cases h
    exact sd_iret C X dX11_count_71
  have h := sd_ifn c_3 h
  by_cases c_4 : x1 = (3 : Int32)
  · have h := sd_ifp c_4 h
    refine lv_tableIn (tgt := 72) hx hb dX11_count_1 (by rw [c_4]; decide) (by rw [c_4]; decide) (by rw [c_4]; rfl) (by decide) ?_
    refine lv_aload_n hx hb dX11_count_72 rfl (lv_at hl 0 rfl) ?_
    refine sd_g11_1 (k := 0) C X (by decide) sd_w1_20 dX11_count_73 ?_
    refine sd_g8_7 C X (by decide) sd_w50_14 dX11_count_76 ?_
    cases h
    exact sd_iret C X dX11_count_79
  have h := sd_ifn c_4 h
  by_cases c_5 : x1 = (4 : Int32)
  · have h := sd_ifp c_5 h
    refine lv_tableIn (tgt := 80) hx hb dX11_count_1 (by rw [c_5]; decide) (by rw [c_5]; decide) (by rw [c_5]; rfl) (by decide) ?_
    refine lv_aload_n hx hb dX11_count_80 rfl (lv_at hl 0 rfl) ?_
    refine sd_g11_1 (k := 0) C X (by decide) sd_w1_20 dX11_count_81 ?_
    refine sd_g8_14 C X (by decide) sd_w50_15 dX11_count_84 ?_
    cases h
    exact sd_iret C X dX11_count_87
  have h := sd_ifn c_5 h
  by_cases c_6 : x1 = (5 : Int32)
  · have h := sd_ifp c_6 h
    refine lv_tableIn (tgt := 88) hx hb dX11_count_1 (by rw [c_6]; decide) (by rw [c_6]; decide) (by rw [c_6]; rfl) (by decide) ?_
    refine lv_aload_n hx hb dX11_count_88 rfl (lv_at hl 0 rfl) ?_
    refine sd_g11_1 (k := 0) C X (by decide) sd_w1_20 dX11_count_89 ?_
    refine sd_g8_15 C X (by decide) sd_w23_15 dX11_count_92 ?_
    refine lv_if_eq (tgt := 102) hx hb dX11_count_95 (by decide) (fun c_7 => ?_) (fun c_7 => ?_)
    · have h := sd_ifp c_7 h
      refine lv_iconst (v := (0 : Int32)) hx hb dX11_count_102 (by decide) ?_
      cases h
      exact sd_iret C X dX11_count_103
    · have h := sd_ifn c_7 h
      refine lv_iconst (v := (1 : Int32)) hx hb dX11_count_98 (by decide) ?_
      refine lv_goto (tgt := 103) hx hb dX11_count_99 (by decide) ?_
      cases h
      exact sd_iret C X dX11_count_103
  have h := sd_ifn c_6 h
  by_cases c_8 : x1 = (6 : Int32)
  · have h := sd_ifp c_8 h
    refine lv_tableIn (tgt := 104) hx hb dX11_count_1 (by rw [c_8]; decide) (by rw [c_8]; decide) (by rw [c_8]; rfl) (by decide) ?_
    refine lv_aload_n hx hb dX11_count_104 rfl (lv_at hl 0 rfl) ?_
    refine sd_g11_8 (k := 0) C X (by decide) sd_w2_21 dX11_count_105 ?_
    refine sd_g4_0 C X (by decide) sd_w43_18 dX11_count_108 ?_
    cases h
    exact sd_iret C X dX11_count_111
  have h := sd_ifn c_8 h
  by_cases c_9 : x1 = (7 : Int32)
  · have h := sd_ifp c_9 h
    refine lv_tableIn (tgt := 112) hx hb dX11_count_1 (by rw [c_9]; decide) (by rw [c_9]; decide) (by rw [c_9]; rfl) (by decide) ?_
    refine lv_aload_n hx hb dX11_count_112 rfl (lv_at hl 0 rfl) ?_
    refine sd_g11_0 (k := 0) C X (by decide) sd_w1_16 dX11_count_113 ?_
    refine sd_g9_1 (k := 1) C X (by decide) sd_w9_8 dX11_count_116 ?_
    refine sd_g7_1 C X (by decide) sd_w9_9 dX11_count_119 ?_
    cases h
    exact sd_iret C X dX11_count_122
  have h := sd_ifn c_9 h
  refine lv_tableOut (tgt := 123) hx hb dX11_count_1 (sd_swo8 c_1 c_2 c_3 c_4 c_5 c_6 c_8 c_9) (by decide) ?_
  refine lv_iconst (v := (-1 : Int32)) hx hb dX11_count_123 (by decide) ?_
  cases h
  exact sd_iret C X dX11_count_124
theorem k_X11_count (C : sd_C own cc nL rt D cy ad A b0 p s m args meth c) (X : sd_H D cy ad A s S H locs) (hls : ls.size = nL) {x1 : Int32} {S2 : sd_St} {r : Int32} (h : f_X11_count x1 S = some (r, S2)) (hlink : Cond.methodLink own index yX11_count ∈ sd_wl) (hR : 1 ≤ R.frames ∧ 21 ≤ R.locals ∧ cells ≤ R.cells ∧ slots ≤ R.slots) (hst : (rest.map fun v => v.category).sum ≤ 8) (hdg : decode cc pc = .ok (.invokevirtual index, 3)) (kk : ∀ (H1 : Heap) (locs1 : List Loc), sd_H D cy ad A s S2 H1 locs1 → W p l e R s m args below meth c H1 locs1 cells slots Q (F0 m (pc + 3) ls (.int r :: rest))) : W p l e R s m args below meth c H locs cells slots Q (F0 m pc ls (.int x1 :: .ref (ad 0) :: rest)) :=
  sd_goI X (sd_runV C X hls (n := 1) (k := 0) (As := [.int x1]) (c_X11_count (l := l) (b0 := b0) h) (sd_goodV hlink sd_w50_10 sd_w50_11 sd_w1_2 sd_w50_12) (ci := 11) rfl (by rw [(show sd_kd 0 = 11 by decide)]; decide) (sd_c11 (show sd_kd 0 = 11 by decide)) (by decide +kernel) rfl hR rfl hst hdg) kk
/-! ===== SecretDaysModel.lay(J)V ===== -/
def f_X12_lay_b69 (q3 : (Int64 → Int32 → sd_St → Option (Unit × sd_St))) (x1 : Int64) (x3 : Int32) (S : sd_St) : Option (Unit × sd_St) := q3 x1 (x3 + (-8 : Int32)) S
set_option maxHeartbeats 4000000 in
set_option maxRecDepth 100000 in
theorem t_X12_lay_b69 (C : sd_C RX12 cX12_lay 5 none D cy ad A b0 p s m args meth c) {S' : sd_St} {q3 : (Int64 → Int32 → sd_St → Option (Unit × sd_St))} (hq3 : ∀ (x1 : Int64) (x3 : Int32) (S : sd_St) (H : Heap) (locs : List Loc) (ls : Array Slot), q3 x1 x3 S = some ((), S') → sd_H D cy ad A s S H locs → lv_has ls 5 [(0, .ref (ad 130)), (1, .long x1), (3, .int x3)] → W p l e (sd_rm 0) s m args below meth c H locs 0 0 (MQ below (sd_Qv D cy ad A S') args s 0 0 A) (F0 m 3 ls [])) : ∀ (x1 : Int64) (x3 : Int32) (S : sd_St) (H : Heap) (locs : List Loc) (ls : Array Slot), f_X12_lay_b69 q3 x1 x3 S = some ((), S') → sd_H D cy ad A s S H locs → lv_has ls 5 [(0, .ref (ad 130)), (1, .long x1), (3, .int x3)] → W p l e (sd_rm 0) s m args below meth c H locs 0 0 (MQ below (sd_Qv D cy ad A S') args s 0 0 A) (F0 m 69 ls []) := by
  obtain ⟨hx, hb, -, hml, hown, hts, -, hG⟩ := id C
  intro x1 x3 S H locs ls h X hl
  unfold f_X12_lay_b69 at h
  refine lv_iinc (v := (x3 + (-8 : Int32))) (lv' := [(3, .int (x3 + (-8 : Int32))), (0, .ref (ad 130)), (1, .long x1)]) hx hb dX12_lay_69 hl (k := 2) rfl rfl (by decide) rfl (fun ls hl => ?_)
  refine lv_goto (tgt := 3) hx hb dX12_lay_72 (by decide) ?_
  exact hq3 x1 (x3 + (-8 : Int32)) S _ _ _ h X (lv_sub hl [1, 2, 0] rfl)
def f_X12_lay_b38 (q3 : (Int64 → Int32 → sd_St → Option (Unit × sd_St))) (x1 : Int64) (x3 : Int32) (x4 : Int32) (S : sd_St) : Option (Unit × sd_St) := (if (1000 : Int32) ≤ (S.1 130 2) then f_X12_lay_b69 q3 x1 x3 S else sd_st S 131 (S.1 130 2) x4 (fun S_2 => sd_nm (sd_I S_2 130 2 ((S_2.1 130 2) + (1 : Int32))) (fun S_3 => f_X12_lay_b69 q3 x1 x3 S_3)))
set_option maxHeartbeats 4000000 in
set_option maxRecDepth 100000 in
theorem t_X12_lay_b38 (C : sd_C RX12 cX12_lay 5 none D cy ad A b0 p s m args meth c) {S' : sd_St} {q3 : (Int64 → Int32 → sd_St → Option (Unit × sd_St))} (hq3 : ∀ (x1 : Int64) (x3 : Int32) (S : sd_St) (H : Heap) (locs : List Loc) (ls : Array Slot), q3 x1 x3 S = some ((), S') → sd_H D cy ad A s S H locs → lv_has ls 5 [(0, .ref (ad 130)), (1, .long x1), (3, .int x3)] → W p l e (sd_rm 0) s m args below meth c H locs 0 0 (MQ below (sd_Qv D cy ad A S') args s 0 0 A) (F0 m 3 ls [])) : ∀ (x1 : Int64) (x3 : Int32) (x4 : Int32) (S : sd_St) (H : Heap) (locs : List Loc) (ls : Array Slot), f_X12_lay_b38 q3 x1 x3 x4 S = some ((), S') → sd_H D cy ad A s S H locs → lv_has ls 5 [(0, .ref (ad 130)), (1, .long x1), (3, .int x3), (4, .int x4)] → W p l e (sd_rm 0) s m args below meth c H locs 0 0 (MQ below (sd_Qv D cy ad A S') args s 0 0 A) (F0 m 38 ls []) := by
  obtain ⟨hx, hb, -, hml, hown, hts, -, hG⟩ := id C
  intro x1 x3 x4 S H locs ls h X hl
  unfold f_X12_lay_b38 at h
  refine lv_aload_n hx hb dX12_lay_38 rfl (lv_at hl 0 rfl) ?_
  refine sd_g12_2 C X (by decide) sd_w9_23 dX12_lay_39 ?_
  refine lv_sipush (v := (1000 : Int32)) hx hb dX12_lay_42 (by decide) ?_
  refine lv_icmp_ge (tgt := 69) hx hb dX12_lay_45 (by decide) (fun c_1 => ?_) (fun c_1 => ?_)
  · have h := sd_ifp c_1 h
    exact t_X12_lay_b69 C hq3 x1 x3 S _ _ _ h X (lv_sub hl [0, 1, 2] rfl)
  · have h := sd_ifn c_1 h
    refine lv_aload_n hx hb dX12_lay_48 rfl (lv_at hl 0 rfl) ?_
    refine sd_g12_1 (k := 130) C X (by decide) sd_w7_13 dX12_lay_49 ?_
    refine lv_aload_n hx hb dX12_lay_52 rfl (lv_at hl 0 rfl) ?_
    refine sd_g12_2 C X (by decide) sd_w9_23 dX12_lay_53 ?_
    refine lv_iload hx hb dX12_lay_56 (lv_at hl 3 rfl) ?_
    obtain ⟨bS_2, S_2, eS_2, h⟩ := sd_st_some h
    refine sd_iast C X (by decide) bS_2 dX12_lay_58 (fun H locs X => ?_)
    rw [← eS_2] at X
    refine lv_aload_n hx hb dX12_lay_59 rfl (lv_at hl 0 rfl) ?_
    refine lv_dup hx hb dX12_lay_60 rfl ?_
    refine sd_g12_2 C X (by decide) sd_w9_23 dX12_lay_61 ?_
    refine lv_iconst (v := (1 : Int32)) hx hb dX12_lay_64 (by decide) ?_
    refine lv_iadd hx hb dX12_lay_65 ?_
    obtain ⟨S_3, eS_3, h⟩ := sd_nm_some h
    refine sd_p12_2 C X (by decide) sd_w9_23 dX12_lay_66 (fun H locs X => ?_)
    rw [← eS_3] at X
    exact t_X12_lay_b69 C hq3 x1 x3 S_3 _ _ _ h X (lv_sub hl [0, 1, 2] rfl)
def f_X12_lay_l3 : Nat → Int64 → Int32 → sd_St → Option (Unit × sd_St)
  | 0 => fun _ _ _ => none
  | n + 1 => fun x1 x3 S => (if x3 < 0 then (some ((), S)) else sd_nm ((((x1 >>> (x3.toInt64 &&& 63)).toInt32) &&& (255 : Int32))) (fun v_5 => (if v_5 = (10 : Int32) then f_X12_lay_b38 (f_X12_lay_l3 n) x1 x3 v_5 S else (if v_5 < (32 : Int32) then f_X12_lay_b69 (f_X12_lay_l3 n) x1 x3 S else (if (126 : Int32) < v_5 then f_X12_lay_b69 (f_X12_lay_l3 n) x1 x3 S else f_X12_lay_b38 (f_X12_lay_l3 n) x1 x3 v_5 S)))))
set_option maxHeartbeats 4000000 in
set_option maxRecDepth 100000 in
theorem t_X12_lay_l3 (C : sd_C RX12 cX12_lay 5 none D cy ad A b0 p s m args meth c) {S' : sd_St} : ∀ (n : Nat) (x1 : Int64) (x3 : Int32) (S : sd_St) (H : Heap) (locs : List Loc) (ls : Array Slot), f_X12_lay_l3 n x1 x3 S = some ((), S') → sd_H D cy ad A s S H locs → lv_has ls 5 [(0, .ref (ad 130)), (1, .long x1), (3, .int x3)] → W p l e (sd_rm 0) s m args below meth c H locs 0 0 (MQ below (sd_Qv D cy ad A S') args s 0 0 A) (F0 m 3 ls []) := by
  obtain ⟨hx, hb, -, hml, hown, hts, -, hG⟩ := id C
  intro n
  induction n with
  | zero => intro x1 x3 S H locs ls h; cases h
  | succ n ih =>
    intro x1 x3 S H locs ls h X hl
    unfold f_X12_lay_l3 at h
    refine lv_iload_n hx hb dX12_lay_3 rfl (lv_at hl 2 rfl) ?_
    refine lv_if_lt (tgt := 75) hx hb dX12_lay_4 (by decide) (fun c_4 => ?_) (fun c_4 => ?_)
    · have h := sd_ifp c_4 h
      cases h
      exact sd_vret C X dX12_lay_75
    · have h := sd_ifn c_4 h
      refine lv_lload_n hx hb dX12_lay_7 rfl (lv_at hl 1 rfl) ?_
      refine lv_iload_n hx hb dX12_lay_8 rfl (lv_at hl 2 rfl) ?_
      refine lv_lshr (v := x1 >>> (x3.toInt64 &&& 63)) hx hb dX12_lay_9 rfl ?_
      refine lv_l2i (v := (x1 >>> (x3.toInt64 &&& 63)).toInt32) hx hb dX12_lay_10 rfl ?_
      refine lv_sipush (v := (255 : Int32)) hx hb dX12_lay_11 (by decide) ?_
      refine lv_iand hx hb dX12_lay_14 ?_
      obtain ⟨v_5, e_5, h⟩ := sd_nm_some h
      refine sd_nmi e_5 ?_
      refine lv_istore (lv' := [(4, .int v_5), (0, .ref (ad 130)), (1, .long x1), (3, .int x3)]) hx hb dX12_lay_15 hl (by decide) rfl (fun ls hl => ?_)
      refine lv_iload hx hb dX12_lay_17 (lv_at hl 0 rfl) ?_
      refine lv_bipush (v := (10 : Int32)) hx hb dX12_lay_19 (by decide) ?_
      refine lv_icmp_eq (tgt := 38) hx hb dX12_lay_21 (by decide) (fun c_6 => ?_) (fun c_6 => ?_)
      · have h := sd_ifp c_6 h
        exact t_X12_lay_b38 C ih x1 x3 v_5 S _ _ _ h X (lv_sub hl [1, 2, 3, 0] rfl)
      · have h := sd_ifn c_6 h
        refine lv_iload hx hb dX12_lay_24 (lv_at hl 0 rfl) ?_
        refine lv_bipush (v := (32 : Int32)) hx hb dX12_lay_26 (by decide) ?_
        refine lv_icmp_lt (tgt := 69) hx hb dX12_lay_28 (by decide) (fun c_7 => ?_) (fun c_7 => ?_)
        · have h := sd_ifp c_7 h
          exact t_X12_lay_b69 C ih x1 x3 S _ _ _ h X (lv_sub hl [1, 2, 3] rfl)
        · have h := sd_ifn c_7 h
          refine lv_iload hx hb dX12_lay_31 (lv_at hl 0 rfl) ?_
          refine lv_bipush (v := (126 : Int32)) hx hb dX12_lay_33 (by decide) ?_
          refine lv_icmp_gt (tgt := 69) hx hb dX12_lay_35 (by decide) (fun c_8 => ?_) (fun c_8 => ?_)
          · have h := sd_ifp c_8 h
            exact t_X12_lay_b69 C ih x1 x3 S _ _ _ h X (lv_sub hl [1, 2, 3] rfl)
          · have h := sd_ifn c_8 h
            exact t_X12_lay_b38 C ih x1 x3 v_5 S _ _ _ h X (lv_sub hl [1, 2, 3, 0] rfl)
def f_X12_lay (x1 : Int64) (S : sd_St) : Option (Unit × sd_St) := f_X12_lay_l3 sd_FU x1 (56 : Int32) S
set_option maxHeartbeats 4000000 in
set_option maxRecDepth 100000 in
theorem c_X12_lay {x1 : Int64} {S S' : sd_St} (h : f_X12_lay x1 S = some ((), S')) : Met l yX12_lay (Cond.code yX12_lay cX12_lay 5 none :: sd_wl) (sd_rm 0) (sd_P D cy ad A b0 [.ref (ad 130), .long x1] S) (sd_Qv D cy ad A S') 0 0 A := by
  refine sd_met (by decide) (Nat.le_of_ble_eq_true rfl) (fun p e s m args below meth c ls C X hl => ?_)
  obtain ⟨hx, hb, -, hml, hown, hts, -, hG⟩ := id C
  replace C : sd_C RX12 cX12_lay 5 none D cy ad A b0 p s m args meth c := C
  replace hl : lv_has ls 5 [(0, .ref (ad 130)), (1, .long x1)] := hl
  unfold f_X12_lay at h
  refine lv_bipush (v := (56 : Int32)) hx hb dX12_lay_0 (by decide) ?_
  refine lv_istore_n (lv' := [(3, .int (56 : Int32)), (0, .ref (ad 130)), (1, .long x1)]) hx hb dX12_lay_2 rfl hl (by decide) rfl (fun ls hl => ?_)
  exact t_X12_lay_l3 C sd_FU x1 (56 : Int32) S _ _ _ h X (lv_sub hl [1, 2, 0] rfl)
theorem k_X12_lay (C : sd_C own cc nL rt D cy ad A b0 p s m args meth c) (X : sd_H D cy ad A s S H locs) (hls : ls.size = nL) {x1 : Int64} {S2 : sd_St} (h : f_X12_lay x1 S = some ((), S2)) (hlink : Cond.methodLink own index yX12_lay ∈ sd_wl) (hR : 1 ≤ R.frames ∧ 24 ≤ R.locals ∧ cells ≤ R.cells ∧ slots ≤ R.slots) (hst : (rest.map fun v => v.category).sum ≤ 8) (hdg : decode cc pc = .ok (.invokevirtual index, 3)) (kk : ∀ (H1 : Heap) (locs1 : List Loc), sd_H D cy ad A s S2 H1 locs1 → W p l e R s m args below meth c H1 locs1 cells slots Q (F0 m (pc + 3) ls rest)) : W p l e R s m args below meth c H locs cells slots Q (F0 m pc ls (.long x1 :: .ref (ad 130) :: rest)) :=
  sd_goV X (sd_runV C X hls (n := 1) (k := 130) (As := [.long x1]) (c_X12_lay (l := l) (b0 := b0) h) (sd_goodV hlink sd_w10_1 sd_w10_2 sd_w1_5 sd_w10_3) (ci := 12) rfl (by rw [(show sd_kd 130 = 12 by decide)]; decide) (sd_c12 (show sd_kd 130 = 12 by decide)) (by decide +kernel) rfl hR rfl hst hdg) kk
/-! ===== SecretDaysModel.feed(JJJ)I ===== -/
def f_X12_feed (x1 : Int64) (x3 : Int64) (x5 : Int64) (S : sd_St) : Option (Int32 × sd_St) := sd_nm (sd_I S 130 0 (0 : Int32)) (fun S_1 => sd_cl (f_X12_lay x1 S_1) (fun _ S_2 => sd_cl (f_X12_lay x3 S_2) (fun _ S_4 => sd_cl (f_X12_lay x5 S_4) (fun _ S_6 => (some ((S_6.1 130 2), S_6))))))
set_option maxHeartbeats 4000000 in
set_option maxRecDepth 100000 in
theorem c_X12_feed {x1 : Int64} {x3 : Int64} {x5 : Int64} {S S' : sd_St} {r : Int32} (h : f_X12_feed x1 x3 x5 S = some (r, S')) : Met l yX12_feed (Cond.code yX12_feed cX12_feed 7 (some .int) :: sd_wl) (sd_rm 1) (sd_P D cy ad A b0 [.ref (ad 130), .long x1, .long x3, .long x5] S) (sd_Qi D cy ad A r S') 0 0 A := by
  refine sd_met (by decide) (Nat.le_of_ble_eq_true rfl) (fun p e s m args below meth c ls C X hl => ?_)
  obtain ⟨hx, hb, -, hml, hown, hts, -, hG⟩ := id C
  replace C : sd_C RX12 cX12_feed 7 (some .int) D cy ad A b0 p s m args meth c := C
  replace hl : lv_has ls 7 [(0, .ref (ad 130)), (1, .long x1), (3, .long x3), (5, .long x5)] := hl
  unfold f_X12_feed at h
  refine lv_aload_n hx hb dX12_feed_0 rfl (lv_at hl 0 rfl) ?_
  refine lv_iconst (v := (0 : Int32)) hx hb dX12_feed_1 (by decide) ?_
  obtain ⟨S_1, eS_1, h⟩ := sd_nm_some h
  refine sd_p12_0 C X (by decide) sd_w9_3 dX12_feed_2 (fun H locs X => ?_)
  rw [← eS_1] at X
  refine lv_aload_n hx hb dX12_feed_5 rfl (lv_at hl 0 rfl) ?_
  refine lv_lload_n hx hb dX12_feed_6 rfl (lv_at hl 1 rfl) ?_
  obtain ⟨r_3, S_2, er_3, h⟩ := sd_cl_some h
  refine k_X12_lay C X hl.1 er_3 sd_w10_0 (by decide) (Nat.le_of_ble_eq_true rfl) dX12_feed_7 (fun H locs X => ?_)
  refine lv_aload_n hx hb dX12_feed_10 rfl (lv_at hl 0 rfl) ?_
  refine lv_lload_n hx hb dX12_feed_11 rfl (lv_at hl 2 rfl) ?_
  obtain ⟨r_5, S_4, er_5, h⟩ := sd_cl_some h
  refine k_X12_lay C X hl.1 er_5 sd_w10_0 (by decide) (Nat.le_of_ble_eq_true rfl) dX12_feed_12 (fun H locs X => ?_)
  refine lv_aload_n hx hb dX12_feed_15 rfl (lv_at hl 0 rfl) ?_
  refine lv_lload hx hb dX12_feed_16 (lv_at hl 3 rfl) ?_
  obtain ⟨r_7, S_6, er_7, h⟩ := sd_cl_some h
  refine k_X12_lay C X hl.1 er_7 sd_w10_0 (by decide) (Nat.le_of_ble_eq_true rfl) dX12_feed_18 (fun H locs X => ?_)
  refine lv_aload_n hx hb dX12_feed_21 rfl (lv_at hl 0 rfl) ?_
  refine sd_g12_2 C X (by decide) sd_w9_23 dX12_feed_22 ?_
  cases h
  exact sd_iret C X dX12_feed_25
theorem k_X12_feed (C : sd_C own cc nL rt D cy ad A b0 p s m args meth c) (X : sd_H D cy ad A s S H locs) (hls : ls.size = nL) {x1 : Int64} {x3 : Int64} {x5 : Int64} {S2 : sd_St} {r : Int32} (h : f_X12_feed x1 x3 x5 S = some (r, S2)) (hlink : Cond.methodLink own index yX12_feed ∈ sd_wl) (hR : 2 ≤ R.frames ∧ 66 ≤ R.locals ∧ cells ≤ R.cells ∧ slots ≤ R.slots) (hst : (rest.map fun v => v.category).sum ≤ 8) (hdg : decode cc pc = .ok (.invokevirtual index, 3)) (kk : ∀ (H1 : Heap) (locs1 : List Loc), sd_H D cy ad A s S2 H1 locs1 → W p l e R s m args below meth c H1 locs1 cells slots Q (F0 m (pc + 3) ls (.int r :: rest))) : W p l e R s m args below meth c H locs cells slots Q (F0 m pc ls (.long x5 :: .long x3 :: .long x1 :: .ref (ad 130) :: rest)) :=
  sd_goI X (sd_runV C X hls (n := 3) (k := 130) (As := [.long x1, .long x3, .long x5]) (c_X12_feed (l := l) (b0 := b0) h) (sd_goodV hlink sd_w9_20 sd_w9_21 sd_w1_5 sd_w9_22) (ci := 12) rfl (by rw [(show sd_kd 130 = 12 by decide)]; decide) (sd_c12 (show sd_kd 130 = 12 by decide)) (by decide +kernel) rfl hR rfl hst hdg) kk
/-! ===== SecretDaysModel.isLetter(I)Z ===== -/
def f_X12_isLetter (x0 : Int32) (S : sd_St) : Option (Int32 × sd_St) := (if x0 < (97 : Int32) then (some ((0 : Int32), S)) else (if (122 : Int32) < x0 then (some ((0 : Int32), S)) else (some ((1 : Int32), S))))
set_option maxHeartbeats 4000000 in
set_option maxRecDepth 100000 in
theorem c_X12_isLetter {x0 : Int32} {S S' : sd_St} {r : Int32} (h : f_X12_isLetter x0 S = some (r, S')) : Met l yX12_isLetter (Cond.code yX12_isLetter cX12_isLetter 1 (some .boolean) :: sd_wl) (sd_rm 0) (sd_P D cy ad A b0 [.int x0] S) (sd_Qi D cy ad A r S') 0 0 A := by
  refine sd_met (by decide) (Nat.le_of_ble_eq_true rfl) (fun p e s m args below meth c ls C X hl => ?_)
  obtain ⟨hx, hb, -, hml, hown, hts, -, hG⟩ := id C
  replace C : sd_C RX12 cX12_isLetter 1 (some .boolean) D cy ad A b0 p s m args meth c := C
  replace hl : lv_has ls 1 [(0, .int x0)] := hl
  unfold f_X12_isLetter at h
  refine lv_iload_n hx hb dX12_isLetter_0 rfl (lv_at hl 0 rfl) ?_
  refine lv_bipush (v := (97 : Int32)) hx hb dX12_isLetter_1 (by decide) ?_
  refine lv_icmp_lt (tgt := 16) hx hb dX12_isLetter_3 (by decide) (fun c_1 => ?_) (fun c_1 => ?_)
  · have h := sd_ifp c_1 h
    refine lv_iconst (v := (0 : Int32)) hx hb dX12_isLetter_16 (by decide) ?_
    cases h
    exact sd_zret C X (by decide) dX12_isLetter_17
  · have h := sd_ifn c_1 h
    refine lv_iload_n hx hb dX12_isLetter_6 rfl (lv_at hl 0 rfl) ?_
    refine lv_bipush (v := (122 : Int32)) hx hb dX12_isLetter_7 (by decide) ?_
    refine lv_icmp_gt (tgt := 16) hx hb dX12_isLetter_9 (by decide) (fun c_2 => ?_) (fun c_2 => ?_)
    · have h := sd_ifp c_2 h
      refine lv_iconst (v := (0 : Int32)) hx hb dX12_isLetter_16 (by decide) ?_
      cases h
      exact sd_zret C X (by decide) dX12_isLetter_17
    · have h := sd_ifn c_2 h
      refine lv_iconst (v := (1 : Int32)) hx hb dX12_isLetter_12 (by decide) ?_
      refine lv_goto (tgt := 17) hx hb dX12_isLetter_13 (by decide) ?_
      cases h
      exact sd_zret C X (by decide) dX12_isLetter_17
theorem k_X12_isLetter (C : sd_C own cc nL rt D cy ad A b0 p s m args meth c) (X : sd_H D cy ad A s S H locs) (hls : ls.size = nL) {x0 : Int32} {S2 : sd_St} {r : Int32} (h : f_X12_isLetter x0 S = some (r, S2)) (hlink : Cond.methodLink own index yX12_isLetter ∈ sd_wl) (hR : 1 ≤ R.frames ∧ 20 ≤ R.locals ∧ cells ≤ R.cells ∧ slots ≤ R.slots) (hst : (rest.map fun v => v.category).sum ≤ 8) (hdg : decode cc pc = .ok (.invokestatic index, 3)) (kk : ∀ (H1 : Heap) (locs1 : List Loc), sd_H D cy ad A s S2 H1 locs1 → W p l e R s m args below meth c H1 locs1 cells slots Q (F0 m (pc + 3) ls (.int r :: rest))) : W p l e R s m args below meth c H locs cells slots Q (F0 m pc ls (.int x0 :: rest)) :=
  sd_goI X (sd_runJ C X hls (n := 1) (As := [.int x0]) (c_X12_isLetter (l := l) (b0 := b0) h) hlink sd_w19_8 sd_w1_5 sd_w19_9 (by decide +kernel) rfl hR rfl hst hdg) kk
/-! ===== SecretDaysModel.isDigit(I)Z ===== -/
def f_X12_isDigit (x0 : Int32) (S : sd_St) : Option (Int32 × sd_St) := (if x0 < (48 : Int32) then (some ((0 : Int32), S)) else (if (57 : Int32) < x0 then (some ((0 : Int32), S)) else (some ((1 : Int32), S))))
set_option maxHeartbeats 4000000 in
set_option maxRecDepth 100000 in
theorem c_X12_isDigit {x0 : Int32} {S S' : sd_St} {r : Int32} (h : f_X12_isDigit x0 S = some (r, S')) : Met l yX12_isDigit (Cond.code yX12_isDigit cX12_isDigit 1 (some .boolean) :: sd_wl) (sd_rm 0) (sd_P D cy ad A b0 [.int x0] S) (sd_Qi D cy ad A r S') 0 0 A := by
  refine sd_met (by decide) (Nat.le_of_ble_eq_true rfl) (fun p e s m args below meth c ls C X hl => ?_)
  obtain ⟨hx, hb, -, hml, hown, hts, -, hG⟩ := id C
  replace C : sd_C RX12 cX12_isDigit 1 (some .boolean) D cy ad A b0 p s m args meth c := C
  replace hl : lv_has ls 1 [(0, .int x0)] := hl
  unfold f_X12_isDigit at h
  refine lv_iload_n hx hb dX12_isDigit_0 rfl (lv_at hl 0 rfl) ?_
  refine lv_bipush (v := (48 : Int32)) hx hb dX12_isDigit_1 (by decide) ?_
  refine lv_icmp_lt (tgt := 16) hx hb dX12_isDigit_3 (by decide) (fun c_1 => ?_) (fun c_1 => ?_)
  · have h := sd_ifp c_1 h
    refine lv_iconst (v := (0 : Int32)) hx hb dX12_isDigit_16 (by decide) ?_
    cases h
    exact sd_zret C X (by decide) dX12_isDigit_17
  · have h := sd_ifn c_1 h
    refine lv_iload_n hx hb dX12_isDigit_6 rfl (lv_at hl 0 rfl) ?_
    refine lv_bipush (v := (57 : Int32)) hx hb dX12_isDigit_7 (by decide) ?_
    refine lv_icmp_gt (tgt := 16) hx hb dX12_isDigit_9 (by decide) (fun c_2 => ?_) (fun c_2 => ?_)
    · have h := sd_ifp c_2 h
      refine lv_iconst (v := (0 : Int32)) hx hb dX12_isDigit_16 (by decide) ?_
      cases h
      exact sd_zret C X (by decide) dX12_isDigit_17
    · have h := sd_ifn c_2 h
      refine lv_iconst (v := (1 : Int32)) hx hb dX12_isDigit_12 (by decide) ?_
      refine lv_goto (tgt := 17) hx hb dX12_isDigit_13 (by decide) ?_
      cases h
      exact sd_zret C X (by decide) dX12_isDigit_17
theorem k_X12_isDigit (C : sd_C own cc nL rt D cy ad A b0 p s m args meth c) (X : sd_H D cy ad A s S H locs) (hls : ls.size = nL) {x0 : Int32} {S2 : sd_St} {r : Int32} (h : f_X12_isDigit x0 S = some (r, S2)) (hlink : Cond.methodLink own index yX12_isDigit ∈ sd_wl) (hR : 1 ≤ R.frames ∧ 20 ≤ R.locals ∧ cells ≤ R.cells ∧ slots ≤ R.slots) (hst : (rest.map fun v => v.category).sum ≤ 8) (hdg : decode cc pc = .ok (.invokestatic index, 3)) (kk : ∀ (H1 : Heap) (locs1 : List Loc), sd_H D cy ad A s S2 H1 locs1 → W p l e R s m args below meth c H1 locs1 cells slots Q (F0 m (pc + 3) ls (.int r :: rest))) : W p l e R s m args below meth c H locs cells slots Q (F0 m pc ls (.int x0 :: rest)) :=
  sd_goI X (sd_runJ C X hls (n := 1) (As := [.int x0]) (c_X12_isDigit (l := l) (b0 := b0) h) hlink sd_w19_14 sd_w1_5 sd_w19_15 (by decide +kernel) rfl hR rfl hst hdg) kk
/-! ===== SecretDaysModel.rank(I)I ===== -/
def f_X12_rank (x0 : Int32) (S : sd_St) : Option (Int32 × sd_St) := sd_cl (f_X12_isLetter x0 S) (fun r_2 S_1 => (if r_2 = 0 then (some ((x0 - (21 : Int32)), S_1)) else (some ((x0 - (96 : Int32)), S_1))))
set_option maxHeartbeats 4000000 in
set_option maxRecDepth 100000 in
theorem c_X12_rank {x0 : Int32} {S S' : sd_St} {r : Int32} (h : f_X12_rank x0 S = some (r, S')) : Met l yX12_rank (Cond.code yX12_rank cX12_rank 1 (some .int) :: sd_wl) (sd_rm 1) (sd_P D cy ad A b0 [.int x0] S) (sd_Qi D cy ad A r S') 0 0 A := by
  refine sd_met (by decide) (Nat.le_of_ble_eq_true rfl) (fun p e s m args below meth c ls C X hl => ?_)
  obtain ⟨hx, hb, -, hml, hown, hts, -, hG⟩ := id C
  replace C : sd_C RX12 cX12_rank 1 (some .int) D cy ad A b0 p s m args meth c := C
  replace hl : lv_has ls 1 [(0, .int x0)] := hl
  unfold f_X12_rank at h
  refine lv_iload_n hx hb dX12_rank_0 rfl (lv_at hl 0 rfl) ?_
  obtain ⟨r_2, S_1, er_2, h⟩ := sd_cl_some h
  refine k_X12_isLetter C X hl.1 er_2 sd_w19_7 (by decide) (Nat.le_of_ble_eq_true rfl) dX12_rank_1 (fun H locs X => ?_)
  refine lv_if_eq (tgt := 14) hx hb dX12_rank_4 (by decide) (fun c_3 => ?_) (fun c_3 => ?_)
  · have h := sd_ifp c_3 h
    refine lv_iload_n hx hb dX12_rank_14 rfl (lv_at hl 0 rfl) ?_
    refine lv_bipush (v := (21 : Int32)) hx hb dX12_rank_15 (by decide) ?_
    refine lv_isub hx hb dX12_rank_17 ?_
    cases h
    exact sd_iret C X dX12_rank_18
  · have h := sd_ifn c_3 h
    refine lv_iload_n hx hb dX12_rank_7 rfl (lv_at hl 0 rfl) ?_
    refine lv_bipush (v := (96 : Int32)) hx hb dX12_rank_8 (by decide) ?_
    refine lv_isub hx hb dX12_rank_10 ?_
    refine lv_goto (tgt := 18) hx hb dX12_rank_11 (by decide) ?_
    cases h
    exact sd_iret C X dX12_rank_18
theorem k_X12_rank (C : sd_C own cc nL rt D cy ad A b0 p s m args meth c) (X : sd_H D cy ad A s S H locs) (hls : ls.size = nL) {x0 : Int32} {S2 : sd_St} {r : Int32} (h : f_X12_rank x0 S = some (r, S2)) (hlink : Cond.methodLink own index yX12_rank ∈ sd_wl) (hR : 2 ≤ R.frames ∧ 60 ≤ R.locals ∧ cells ≤ R.cells ∧ slots ≤ R.slots) (hst : (rest.map fun v => v.category).sum ≤ 8) (hdg : decode cc pc = .ok (.invokestatic index, 3)) (kk : ∀ (H1 : Heap) (locs1 : List Loc), sd_H D cy ad A s S2 H1 locs1 → W p l e R s m args below meth c H1 locs1 cells slots Q (F0 m (pc + 3) ls (.int r :: rest))) : W p l e R s m args below meth c H locs cells slots Q (F0 m pc ls (.int x0 :: rest)) :=
  sd_goI X (sd_runJ C X hls (n := 1) (As := [.int x0]) (c_X12_rank (l := l) (b0 := b0) h) hlink sd_w19_11 sd_w1_5 sd_w19_12 (by decide +kernel) rfl hR rfl hst hdg) kk
/-! ===== SecretDaysModel.isSignOf(I)Z ===== -/
def f_X12_isSignOf (x0 : Int32) (S : sd_St) : Option (Int32 × sd_St) := (if x0 = (40 : Int32) then (some ((1 : Int32), S)) else (if x0 = (41 : Int32) then (some ((1 : Int32), S)) else (if x0 = (59 : Int32) then (some ((1 : Int32), S)) else (if x0 = (61 : Int32) then (some ((1 : Int32), S)) else (if x0 = (60 : Int32) then (some ((1 : Int32), S)) else (if x0 = (43 : Int32) then (some ((1 : Int32), S)) else (if x0 = (45 : Int32) then (some ((1 : Int32), S)) else (if x0 = (42 : Int32) then (some ((1 : Int32), S)) else (some ((0 : Int32), S))))))))))
set_option maxHeartbeats 4000000 in
set_option maxRecDepth 100000 in
theorem c_X12_isSignOf {x0 : Int32} {S S' : sd_St} {r : Int32} (h : f_X12_isSignOf x0 S = some (r, S')) : Met l yX12_isSignOf (Cond.code yX12_isSignOf cX12_isSignOf 1 (some .boolean) :: sd_wl) (sd_rm 0) (sd_P D cy ad A b0 [.int x0] S) (sd_Qi D cy ad A r S') 0 0 A := by
  refine sd_met (by decide) (Nat.le_of_ble_eq_true rfl) (fun p e s m args below meth c ls C X hl => ?_)
  obtain ⟨hx, hb, -, hml, hown, hts, -, hG⟩ := id C
  replace C : sd_C RX12 cX12_isSignOf 1 (some .boolean) D cy ad A b0 p s m args meth c := C
  replace hl : lv_has ls 1 [(0, .int x0)] := hl
  unfold f_X12_isSignOf at h
  refine lv_iload_n hx hb dX12_isSignOf_0 rfl (lv_at hl 0 rfl) ?_
  refine lv_bipush (v := (40 : Int32)) hx hb dX12_isSignOf_1 (by decide) ?_
  refine lv_icmp_eq (tgt := 48) hx hb dX12_isSignOf_3 (by decide) (fun c_1 => ?_) (fun c_1 => ?_)
  · have h := sd_ifp c_1 h
    refine lv_iconst (v := (1 : Int32)) hx hb dX12_isSignOf_48 (by decide) ?_
    refine lv_goto (tgt := 53) hx hb dX12_isSignOf_49 (by decide) ?_
    cases h
    exact sd_zret C X (by decide) dX12_isSignOf_53
  · have h := sd_ifn c_1 h
    refine lv_iload_n hx hb dX12_isSignOf_6 rfl (lv_at hl 0 rfl) ?_
    refine lv_bipush (v := (41 : Int32)) hx hb dX12_isSignOf_7 (by decide) ?_
    refine lv_icmp_eq (tgt := 48) hx hb dX12_isSignOf_9 (by decide) (fun c_2 => ?_) (fun c_2 => ?_)
    · have h := sd_ifp c_2 h
      refine lv_iconst (v := (1 : Int32)) hx hb dX12_isSignOf_48 (by decide) ?_
      refine lv_goto (tgt := 53) hx hb dX12_isSignOf_49 (by decide) ?_
      cases h
      exact sd_zret C X (by decide) dX12_isSignOf_53
    · have h := sd_ifn c_2 h
      refine lv_iload_n hx hb dX12_isSignOf_12 rfl (lv_at hl 0 rfl) ?_
      refine lv_bipush (v := (59 : Int32)) hx hb dX12_isSignOf_13 (by decide) ?_
      refine lv_icmp_eq (tgt := 48) hx hb dX12_isSignOf_15 (by decide) (fun c_3 => ?_) (fun c_3 => ?_)
      · have h := sd_ifp c_3 h
        refine lv_iconst (v := (1 : Int32)) hx hb dX12_isSignOf_48 (by decide) ?_
        refine lv_goto (tgt := 53) hx hb dX12_isSignOf_49 (by decide) ?_
        cases h
        exact sd_zret C X (by decide) dX12_isSignOf_53
      · have h := sd_ifn c_3 h
        refine lv_iload_n hx hb dX12_isSignOf_18 rfl (lv_at hl 0 rfl) ?_
        refine lv_bipush (v := (61 : Int32)) hx hb dX12_isSignOf_19 (by decide) ?_
        refine lv_icmp_eq (tgt := 48) hx hb dX12_isSignOf_21 (by decide) (fun c_4 => ?_) (fun c_4 => ?_)
        · have h := sd_ifp c_4 h
          refine lv_iconst (v := (1 : Int32)) hx hb dX12_isSignOf_48 (by decide) ?_
          refine lv_goto (tgt := 53) hx hb dX12_isSignOf_49 (by decide) ?_
          cases h
          exact sd_zret C X (by decide) dX12_isSignOf_53
        · have h := sd_ifn c_4 h
          refine lv_iload_n hx hb dX12_isSignOf_24 rfl (lv_at hl 0 rfl) ?_
          refine lv_bipush (v := (60 : Int32)) hx hb dX12_isSignOf_25 (by decide) ?_
          refine lv_icmp_eq (tgt := 48) hx hb dX12_isSignOf_27 (by decide) (fun c_5 => ?_) (fun c_5 => ?_)
          · have h := sd_ifp c_5 h
            refine lv_iconst (v := (1 : Int32)) hx hb dX12_isSignOf_48 (by decide) ?_
            refine lv_goto (tgt := 53) hx hb dX12_isSignOf_49 (by decide) ?_
            cases h
            exact sd_zret C X (by decide) dX12_isSignOf_53
          · have h := sd_ifn c_5 h
            refine lv_iload_n hx hb dX12_isSignOf_30 rfl (lv_at hl 0 rfl) ?_
            refine lv_bipush (v := (43 : Int32)) hx hb dX12_isSignOf_31 (by decide) ?_
            refine lv_icmp_eq (tgt := 48) hx hb dX12_isSignOf_33 (by decide) (fun c_6 => ?_) (fun c_6 => ?_)
            · have h := sd_ifp c_6 h
              refine lv_iconst (v := (1 : Int32)) hx hb dX12_isSignOf_48 (by decide) ?_
              refine lv_goto (tgt := 53) hx hb dX12_isSignOf_49 (by decide) ?_
              cases h
              exact sd_zret C X (by decide) dX12_isSignOf_53
            · have h := sd_ifn c_6 h
              refine lv_iload_n hx hb dX12_isSignOf_36 rfl (lv_at hl 0 rfl) ?_
              refine lv_bipush (v := (45 : Int32)) hx hb dX12_isSignOf_37 (by decide) ?_
              refine lv_icmp_eq (tgt := 48) hx hb dX12_isSignOf_39 (by decide) (fun c_7 => ?_) (fun c_7 => ?_)
              · have h := sd_ifp c_7 h
                refine lv_iconst (v := (1 : Int32)) hx hb dX12_isSignOf_48 (by decide) ?_
                refine lv_goto (tgt := 53) hx hb dX12_isSignOf_49 (by decide) ?_
                cases h
                exact sd_zret C X (by decide) dX12_isSignOf_53
              · have h := sd_ifn c_7 h
                refine lv_iload_n hx hb dX12_isSignOf_42 rfl (lv_at hl 0 rfl) ?_
                refine lv_bipush (v := (42 : Int32)) hx hb dX12_isSignOf_43 (by decide) ?_
                refine lv_icmp_ne (tgt := 52) hx hb dX12_isSignOf_45 (by decide) (fun c_8 => ?_) (fun c_8 => ?_)
                · have h := sd_ifn c_8 h
                  refine lv_iconst (v := (0 : Int32)) hx hb dX12_isSignOf_52 (by decide) ?_
                  cases h
                  exact sd_zret C X (by decide) dX12_isSignOf_53
                · have h := sd_ifp c_8 h
                  refine lv_iconst (v := (1 : Int32)) hx hb dX12_isSignOf_48 (by decide) ?_
                  refine lv_goto (tgt := 53) hx hb dX12_isSignOf_49 (by decide) ?_
                  cases h
                  exact sd_zret C X (by decide) dX12_isSignOf_53
theorem k_X12_isSignOf (C : sd_C own cc nL rt D cy ad A b0 p s m args meth c) (X : sd_H D cy ad A s S H locs) (hls : ls.size = nL) {x0 : Int32} {S2 : sd_St} {r : Int32} (h : f_X12_isSignOf x0 S = some (r, S2)) (hlink : Cond.methodLink own index yX12_isSignOf ∈ sd_wl) (hR : 1 ≤ R.frames ∧ 20 ≤ R.locals ∧ cells ≤ R.cells ∧ slots ≤ R.slots) (hst : (rest.map fun v => v.category).sum ≤ 8) (hdg : decode cc pc = .ok (.invokestatic index, 3)) (kk : ∀ (H1 : Heap) (locs1 : List Loc), sd_H D cy ad A s S2 H1 locs1 → W p l e R s m args below meth c H1 locs1 cells slots Q (F0 m (pc + 3) ls (.int r :: rest))) : W p l e R s m args below meth c H locs cells slots Q (F0 m pc ls (.int x0 :: rest)) :=
  sd_goI X (sd_runJ C X hls (n := 1) (As := [.int x0]) (c_X12_isSignOf (l := l) (b0 := b0) h) hlink sd_w19_17 sd_w1_5 sd_w19_18 (by decide +kernel) rfl hR rfl hst hdg) kk
/-! ===== SecretDaysModel.cutAll()V ===== -/
def f_X12_cutAll_b44 (q17 : (Int32 → Int32 → sd_St → Option (Unit × sd_St))) (x1 : Int32) (x2 : Int32) (S : sd_St) : Option (Unit × sd_St) := q17 x1 (x2 + (1 : Int32)) S
set_option maxHeartbeats 4000000 in
set_option maxRecDepth 100000 in
theorem t_X12_cutAll_b44 (C : sd_C RX12 cX12_cutAll 7 none D cy ad A b0 p s m args meth c) {S' : sd_St} {q17 : (Int32 → Int32 → sd_St → Option (Unit × sd_St))} (hq17 : ∀ (x1 : Int32) (x2 : Int32) (S : sd_St) (H : Heap) (locs : List Loc) (ls : Array Slot), q17 x1 x2 S = some ((), S') → sd_H D cy ad A s S H locs → lv_has ls 7 [(0, .ref (ad 130)), (1, .int x1), (2, .int x2)] → W p l e (sd_rm 2) s m args below meth c H locs 0 0 (MQ below (sd_Qv D cy ad A S') args s 0 0 A) (F0 m 17 ls [])) : ∀ (x1 : Int32) (x2 : Int32) (S : sd_St) (H : Heap) (locs : List Loc) (ls : Array Slot), f_X12_cutAll_b44 q17 x1 x2 S = some ((), S') → sd_H D cy ad A s S H locs → lv_has ls 7 [(0, .ref (ad 130)), (1, .int x1), (2, .int x2)] → W p l e (sd_rm 2) s m args below meth c H locs 0 0 (MQ below (sd_Qv D cy ad A S') args s 0 0 A) (F0 m 44 ls []) := by
  obtain ⟨hx, hb, -, hml, hown, hts, -, hG⟩ := id C
  intro x1 x2 S H locs ls h X hl
  unfold f_X12_cutAll_b44 at h
  refine lv_iinc (v := (x2 + (1 : Int32))) (lv' := [(2, .int (x2 + (1 : Int32))), (0, .ref (ad 130)), (1, .int x1)]) hx hb dX12_cutAll_44 hl (k := 2) rfl rfl (by decide) rfl (fun ls hl => ?_)
  refine lv_goto (tgt := 17) hx hb dX12_cutAll_47 (by decide) ?_
  exact hq17 x1 (x2 + (1 : Int32)) S _ _ _ h X (lv_sub hl [1, 2, 0] rfl)
def f_X12_cutAll_b121 (q17 : (Int32 → Int32 → sd_St → Option (Unit × sd_St))) (q70 : (Int32 → Int32 → Int32 → Int64 → sd_St → Option (Unit × sd_St))) (x1 : Int32) (x2 : Int32) (x4 : Int32) (w0 : Int64) (S : sd_St) : Option (Unit × sd_St) := q70 x1 (x2 + (1 : Int32)) x4 w0 S
set_option maxHeartbeats 4000000 in
set_option maxRecDepth 100000 in
theorem t_X12_cutAll_b121 (C : sd_C RX12 cX12_cutAll 7 none D cy ad A b0 p s m args meth c) {S' : sd_St} {q17 : (Int32 → Int32 → sd_St → Option (Unit × sd_St))} {q70 : (Int32 → Int32 → Int32 → Int64 → sd_St → Option (Unit × sd_St))} (hq17 : ∀ (x1 : Int32) (x2 : Int32) (S : sd_St) (H : Heap) (locs : List Loc) (ls : Array Slot), q17 x1 x2 S = some ((), S') → sd_H D cy ad A s S H locs → lv_has ls 7 [(0, .ref (ad 130)), (1, .int x1), (2, .int x2)] → W p l e (sd_rm 2) s m args below meth c H locs 0 0 (MQ below (sd_Qv D cy ad A S') args s 0 0 A) (F0 m 17 ls [])) (hq70 : ∀ (x1 : Int32) (x2 : Int32) (x4 : Int32) (x5 : Int64) (S : sd_St) (H : Heap) (locs : List Loc) (ls : Array Slot), q70 x1 x2 x4 x5 S = some ((), S') → sd_H D cy ad A s S H locs → lv_has ls 7 [(0, .ref (ad 130)), (1, .int x1), (2, .int x2), (4, .int x4), (5, .long x5)] → W p l e (sd_rm 2) s m args below meth c H locs 0 0 (MQ below (sd_Qv D cy ad A S') args s 0 0 A) (F0 m 70 ls [])) : ∀ (x1 : Int32) (x2 : Int32) (x4 : Int32) (w0 : Int64) (S : sd_St) (H : Heap) (locs : List Loc) (ls : Array Slot), f_X12_cutAll_b121 q17 q70 x1 x2 x4 w0 S = some ((), S') → sd_H D cy ad A s S H locs → lv_has ls 7 [(0, .ref (ad 130)), (1, .int x1), (2, .int x2), (4, .int x4)] → W p l e (sd_rm 2) s m args below meth c H locs 0 0 (MQ below (sd_Qv D cy ad A S') args s 0 0 A) (F0 m 121 ls [.long w0]) := by
  obtain ⟨hx, hb, -, hml, hown, hts, -, hG⟩ := id C
  intro x1 x2 x4 w0 S H locs ls h X hl
  unfold f_X12_cutAll_b121 at h
  refine lv_lstore (lv' := [(5, .long w0), (0, .ref (ad 130)), (1, .int x1), (2, .int x2), (4, .int x4)]) hx hb dX12_cutAll_121 hl (by decide) rfl (fun ls hl => ?_)
  refine lv_iinc (v := (x2 + (1 : Int32))) (lv' := [(2, .int (x2 + (1 : Int32))), (5, .long w0), (0, .ref (ad 130)), (1, .int x1), (4, .int x4)]) hx hb dX12_cutAll_123 hl (k := 3) rfl rfl (by decide) rfl (fun ls hl => ?_)
  refine lv_goto (tgt := 70) hx hb dX12_cutAll_126 (by decide) ?_
  exact hq70 x1 (x2 + (1 : Int32)) x4 w0 S _ _ _ h X (lv_sub hl [2, 3, 0, 4, 1] rfl)
def f_X12_cutAll_b265 (q17 : (Int32 → Int32 → sd_St → Option (Unit × sd_St))) (x1 : Int32) (x2 : Int32) (x5 : Int64) (S : sd_St) : Option (Unit × sd_St) := sd_stl S 134 x1 x5 (fun S_1 => q17 (x1 + (1 : Int32)) x2 S_1)
set_option maxHeartbeats 4000000 in
set_option maxRecDepth 100000 in
theorem t_X12_cutAll_b265 (C : sd_C RX12 cX12_cutAll 7 none D cy ad A b0 p s m args meth c) {S' : sd_St} {q17 : (Int32 → Int32 → sd_St → Option (Unit × sd_St))} (hq17 : ∀ (x1 : Int32) (x2 : Int32) (S : sd_St) (H : Heap) (locs : List Loc) (ls : Array Slot), q17 x1 x2 S = some ((), S') → sd_H D cy ad A s S H locs → lv_has ls 7 [(0, .ref (ad 130)), (1, .int x1), (2, .int x2)] → W p l e (sd_rm 2) s m args below meth c H locs 0 0 (MQ below (sd_Qv D cy ad A S') args s 0 0 A) (F0 m 17 ls [])) : ∀ (x1 : Int32) (x2 : Int32) (x5 : Int64) (S : sd_St) (H : Heap) (locs : List Loc) (ls : Array Slot), f_X12_cutAll_b265 q17 x1 x2 x5 S = some ((), S') → sd_H D cy ad A s S H locs → lv_has ls 7 [(0, .ref (ad 130)), (1, .int x1), (2, .int x2), (5, .long x5)] → W p l e (sd_rm 2) s m args below meth c H locs 0 0 (MQ below (sd_Qv D cy ad A S') args s 0 0 A) (F0 m 265 ls []) := by
  obtain ⟨hx, hb, -, hml, hown, hts, -, hG⟩ := id C
  intro x1 x2 x5 S H locs ls h X hl
  unfold f_X12_cutAll_b265 at h
  refine lv_aload_n hx hb dX12_cutAll_265 rfl (lv_at hl 0 rfl) ?_
  refine sd_g12_6 (k := 130) C X (by decide) sd_w7_16 dX12_cutAll_266 ?_
  refine lv_iload_n hx hb dX12_cutAll_269 rfl (lv_at hl 1 rfl) ?_
  refine lv_lload hx hb dX12_cutAll_270 (lv_at hl 3 rfl) ?_
  obtain ⟨bS_1, S_1, eS_1, h⟩ := sd_stl_some h
  refine sd_last C X (by decide) bS_1 dX12_cutAll_272 (fun H locs X => ?_)
  rw [← eS_1] at X
  refine lv_iinc (v := (x1 + (1 : Int32))) (lv' := [(1, .int (x1 + (1 : Int32))), (0, .ref (ad 130)), (2, .int x2), (5, .long x5)]) hx hb dX12_cutAll_273 hl (k := 1) rfl rfl (by decide) rfl (fun ls hl => ?_)
  refine lv_goto (tgt := 17) hx hb dX12_cutAll_276 (by decide) ?_
  exact hq17 (x1 + (1 : Int32)) x2 S_1 _ _ _ h X (lv_sub hl [1, 0, 2] rfl)
def f_X12_cutAll_b148 (q17 : (Int32 → Int32 → sd_St → Option (Unit × sd_St))) (x1 : Int32) (x2 : Int32) (x5 : Int64) (w1 : Int32) (w2 : Int32) (S : sd_St) : Option (Unit × sd_St) := sd_st S 132 w1 w2 (fun S_2 => f_X12_cutAll_b265 q17 x1 x2 x5 S_2)
set_option maxHeartbeats 4000000 in
set_option maxRecDepth 100000 in
theorem t_X12_cutAll_b148 (C : sd_C RX12 cX12_cutAll 7 none D cy ad A b0 p s m args meth c) {S' : sd_St} {q17 : (Int32 → Int32 → sd_St → Option (Unit × sd_St))} (hq17 : ∀ (x1 : Int32) (x2 : Int32) (S : sd_St) (H : Heap) (locs : List Loc) (ls : Array Slot), q17 x1 x2 S = some ((), S') → sd_H D cy ad A s S H locs → lv_has ls 7 [(0, .ref (ad 130)), (1, .int x1), (2, .int x2)] → W p l e (sd_rm 2) s m args below meth c H locs 0 0 (MQ below (sd_Qv D cy ad A S') args s 0 0 A) (F0 m 17 ls [])) : ∀ (x1 : Int32) (x2 : Int32) (x5 : Int64) (w1 : Int32) (w2 : Int32) (S : sd_St) (H : Heap) (locs : List Loc) (ls : Array Slot), f_X12_cutAll_b148 q17 x1 x2 x5 w1 w2 S = some ((), S') → sd_H D cy ad A s S H locs → lv_has ls 7 [(0, .ref (ad 130)), (1, .int x1), (2, .int x2), (5, .long x5)] → W p l e (sd_rm 2) s m args below meth c H locs 0 0 (MQ below (sd_Qv D cy ad A S') args s 0 0 A) (F0 m 148 ls [.int w2, .int w1, .ref (ad 132)]) := by
  obtain ⟨hx, hb, -, hml, hown, hts, -, hG⟩ := id C
  intro x1 x2 x5 w1 w2 S H locs ls h X hl
  unfold f_X12_cutAll_b148 at h
  obtain ⟨bS_2, S_2, eS_2, h⟩ := sd_st_some h
  refine sd_iast C X (by decide) bS_2 dX12_cutAll_148 (fun H locs X => ?_)
  rw [← eS_2] at X
  refine lv_goto (tgt := 265) hx hb dX12_cutAll_149 (by decide) ?_
  exact t_X12_cutAll_b265 C hq17 x1 x2 x5 S_2 _ _ _ h X (lv_sub hl [0, 1, 2, 3] rfl)
def f_X12_cutAll_b129 (q17 : (Int32 → Int32 → sd_St → Option (Unit × sd_St))) (x1 : Int32) (x2 : Int32) (x4 : Int32) (x5 : Int64) (S : sd_St) : Option (Unit × sd_St) := (if (x2 - x4) ≤ (8 : Int32) then f_X12_cutAll_b148 q17 x1 x2 x5 x1 (1 : Int32) S else f_X12_cutAll_b148 q17 x1 x2 x5 x1 (4 : Int32) S)
set_option maxHeartbeats 4000000 in
set_option maxRecDepth 100000 in
theorem t_X12_cutAll_b129 (C : sd_C RX12 cX12_cutAll 7 none D cy ad A b0 p s m args meth c) {S' : sd_St} {q17 : (Int32 → Int32 → sd_St → Option (Unit × sd_St))} (hq17 : ∀ (x1 : Int32) (x2 : Int32) (S : sd_St) (H : Heap) (locs : List Loc) (ls : Array Slot), q17 x1 x2 S = some ((), S') → sd_H D cy ad A s S H locs → lv_has ls 7 [(0, .ref (ad 130)), (1, .int x1), (2, .int x2)] → W p l e (sd_rm 2) s m args below meth c H locs 0 0 (MQ below (sd_Qv D cy ad A S') args s 0 0 A) (F0 m 17 ls [])) : ∀ (x1 : Int32) (x2 : Int32) (x4 : Int32) (x5 : Int64) (S : sd_St) (H : Heap) (locs : List Loc) (ls : Array Slot), f_X12_cutAll_b129 q17 x1 x2 x4 x5 S = some ((), S') → sd_H D cy ad A s S H locs → lv_has ls 7 [(0, .ref (ad 130)), (1, .int x1), (2, .int x2), (4, .int x4), (5, .long x5)] → W p l e (sd_rm 2) s m args below meth c H locs 0 0 (MQ below (sd_Qv D cy ad A S') args s 0 0 A) (F0 m 129 ls []) := by
  obtain ⟨hx, hb, -, hml, hown, hts, -, hG⟩ := id C
  intro x1 x2 x4 x5 S H locs ls h X hl
  unfold f_X12_cutAll_b129 at h
  refine lv_aload_n hx hb dX12_cutAll_129 rfl (lv_at hl 0 rfl) ?_
  refine sd_g12_4 (k := 130) C X (by decide) sd_w7_14 dX12_cutAll_130 ?_
  refine lv_iload_n hx hb dX12_cutAll_133 rfl (lv_at hl 1 rfl) ?_
  refine lv_iload_n hx hb dX12_cutAll_134 rfl (lv_at hl 2 rfl) ?_
  refine lv_iload hx hb dX12_cutAll_135 (lv_at hl 3 rfl) ?_
  refine lv_isub hx hb dX12_cutAll_137 ?_
  refine lv_bipush (v := (8 : Int32)) hx hb dX12_cutAll_138 (by decide) ?_
  refine lv_icmp_le (tgt := 147) hx hb dX12_cutAll_140 (by decide) (fun c_3 => ?_) (fun c_3 => ?_)
  · have h := sd_ifp c_3 h
    refine lv_iconst (v := (1 : Int32)) hx hb dX12_cutAll_147 (by decide) ?_
    exact t_X12_cutAll_b148 C hq17 x1 x2 x5 x1 (1 : Int32) S _ _ _ h X (lv_sub hl [0, 1, 2, 4] rfl)
  · have h := sd_ifn c_3 h
    refine lv_iconst (v := (4 : Int32)) hx hb dX12_cutAll_143 (by decide) ?_
    refine lv_goto (tgt := 148) hx hb dX12_cutAll_144 (by decide) ?_
    exact t_X12_cutAll_b148 C hq17 x1 x2 x5 x1 (4 : Int32) S _ _ _ h X (lv_sub hl [0, 1, 2, 4] rfl)
def f_X12_cutAll_l70 (q17 : (Int32 → Int32 → sd_St → Option (Unit × sd_St))) : Nat → Int32 → Int32 → Int32 → Int64 → sd_St → Option (Unit × sd_St)
  | 0 => fun _ _ _ _ _ => none
  | n + 1 => fun x1 x2 x4 x5 S => (if (S.1 130 3) ≤ x2 then f_X12_cutAll_b129 q17 x1 x2 x4 x5 S else sd_ld S 131 x2 (fun v_5 => sd_cl (f_X12_isLetter v_5 S) (fun r_7 S_6 => (if r_7 = 0 then f_X12_cutAll_b129 q17 x1 x2 x4 x5 S_6 else (if (8 : Int32) ≤ (x2 - x4) then f_X12_cutAll_b121 q17 (f_X12_cutAll_l70 q17 n) x1 x2 x4 x5 S_6 else sd_ld S_6 131 x2 (fun v_10 => sd_cl (f_X12_rank v_10 S_6) (fun r_12 S_11 => f_X12_cutAll_b121 q17 (f_X12_cutAll_l70 q17 n) x1 x2 x4 (((37 : Int64) * x5) + (r_12.toInt64)) S_11)))))))
set_option maxHeartbeats 4000000 in
set_option maxRecDepth 100000 in
theorem t_X12_cutAll_l70 (C : sd_C RX12 cX12_cutAll 7 none D cy ad A b0 p s m args meth c) {S' : sd_St} {q17 : (Int32 → Int32 → sd_St → Option (Unit × sd_St))} (hq17 : ∀ (x1 : Int32) (x2 : Int32) (S : sd_St) (H : Heap) (locs : List Loc) (ls : Array Slot), q17 x1 x2 S = some ((), S') → sd_H D cy ad A s S H locs → lv_has ls 7 [(0, .ref (ad 130)), (1, .int x1), (2, .int x2)] → W p l e (sd_rm 2) s m args below meth c H locs 0 0 (MQ below (sd_Qv D cy ad A S') args s 0 0 A) (F0 m 17 ls [])) : ∀ (n : Nat) (x1 : Int32) (x2 : Int32) (x4 : Int32) (x5 : Int64) (S : sd_St) (H : Heap) (locs : List Loc) (ls : Array Slot), f_X12_cutAll_l70 q17 n x1 x2 x4 x5 S = some ((), S') → sd_H D cy ad A s S H locs → lv_has ls 7 [(0, .ref (ad 130)), (1, .int x1), (2, .int x2), (4, .int x4), (5, .long x5)] → W p l e (sd_rm 2) s m args below meth c H locs 0 0 (MQ below (sd_Qv D cy ad A S') args s 0 0 A) (F0 m 70 ls []) := by
  obtain ⟨hx, hb, -, hml, hown, hts, -, hG⟩ := id C
  intro n
  induction n with
  | zero => intro x1 x2 x4 x5 S H locs ls h; cases h
  | succ n ih =>
    intro x1 x2 x4 x5 S H locs ls h X hl
    unfold f_X12_cutAll_l70 at h
    refine lv_iload_n hx hb dX12_cutAll_70 rfl (lv_at hl 2 rfl) ?_
    refine lv_aload_n hx hb dX12_cutAll_71 rfl (lv_at hl 0 rfl) ?_
    refine sd_g12_3 C X (by decide) sd_w19_3 dX12_cutAll_72 ?_
    refine lv_icmp_ge (tgt := 129) hx hb dX12_cutAll_75 (by decide) (fun c_4 => ?_) (fun c_4 => ?_)
    · have h := sd_ifp c_4 h
      exact t_X12_cutAll_b129 C hq17 x1 x2 x4 x5 S _ _ _ h X (lv_sub hl [0, 1, 2, 3, 4] rfl)
    · have h := sd_ifn c_4 h
      refine lv_aload_n hx hb dX12_cutAll_78 rfl (lv_at hl 0 rfl) ?_
      refine sd_g12_1 (k := 130) C X (by decide) sd_w7_13 dX12_cutAll_79 ?_
      refine lv_iload_n hx hb dX12_cutAll_82 rfl (lv_at hl 2 rfl) ?_
      obtain ⟨b_5, v_5, e_5, h⟩ := sd_ld_some h
      refine sd_iald C X (by decide) b_5 dX12_cutAll_83 (sd_nmi e_5 ?_)
      obtain ⟨r_7, S_6, er_7, h⟩ := sd_cl_some h
      refine k_X12_isLetter C X hl.1 er_7 sd_w19_7 (by decide) (Nat.le_of_ble_eq_true rfl) dX12_cutAll_84 (fun H locs X => ?_)
      refine lv_if_eq (tgt := 129) hx hb dX12_cutAll_87 (by decide) (fun c_8 => ?_) (fun c_8 => ?_)
      · have h := sd_ifp c_8 h
        exact t_X12_cutAll_b129 C hq17 x1 x2 x4 x5 S_6 _ _ _ h X (lv_sub hl [0, 1, 2, 3, 4] rfl)
      · have h := sd_ifn c_8 h
        refine lv_iload_n hx hb dX12_cutAll_90 rfl (lv_at hl 2 rfl) ?_
        refine lv_iload hx hb dX12_cutAll_91 (lv_at hl 3 rfl) ?_
        refine lv_isub hx hb dX12_cutAll_93 ?_
        refine lv_bipush (v := (8 : Int32)) hx hb dX12_cutAll_94 (by decide) ?_
        refine lv_icmp_ge (tgt := 119) hx hb dX12_cutAll_96 (by decide) (fun c_9 => ?_) (fun c_9 => ?_)
        · have h := sd_ifp c_9 h
          refine lv_lload hx hb dX12_cutAll_119 (lv_at hl 4 rfl) ?_
          exact t_X12_cutAll_b121 C hq17 ih x1 x2 x4 x5 S_6 _ _ _ h X (lv_sub hl [0, 1, 2, 3] rfl)
        · have h := sd_ifn c_9 h
          refine lv_ldc2 (v := (37 : Int64)) hx hb hown (hts _ sd_w19_4) dX12_cutAll_99 ?_
          refine lv_lload hx hb dX12_cutAll_102 (lv_at hl 4 rfl) ?_
          refine lv_lmul hx hb dX12_cutAll_104 ?_
          refine lv_aload_n hx hb dX12_cutAll_105 rfl (lv_at hl 0 rfl) ?_
          refine sd_g12_1 (k := 130) C X (by decide) sd_w7_13 dX12_cutAll_106 ?_
          refine lv_iload_n hx hb dX12_cutAll_109 rfl (lv_at hl 2 rfl) ?_
          obtain ⟨b_10, v_10, e_10, h⟩ := sd_ld_some h
          refine sd_iald C X (by decide) b_10 dX12_cutAll_110 (sd_nmi e_10 ?_)
          obtain ⟨r_12, S_11, er_12, h⟩ := sd_cl_some h
          refine k_X12_rank C X hl.1 er_12 sd_w19_10 (by decide) (Nat.le_of_ble_eq_true rfl) dX12_cutAll_111 (fun H locs X => ?_)
          refine lv_i2l (v := r_12.toInt64) hx hb dX12_cutAll_114 rfl ?_
          refine lv_ladd hx hb dX12_cutAll_115 ?_
          refine lv_goto (tgt := 121) hx hb dX12_cutAll_116 (by decide) ?_
          exact t_X12_cutAll_b121 C hq17 ih x1 x2 x4 (((37 : Int64) * x5) + (r_12.toInt64)) S_11 _ _ _ h X (lv_sub hl [0, 1, 2, 3] rfl)
def f_X12_cutAll_b210 (q17 : (Int32 → Int32 → sd_St → Option (Unit × sd_St))) (q159 : (Int32 → Int32 → Int32 → Int64 → sd_St → Option (Unit × sd_St))) (x1 : Int32) (x2 : Int32) (x4 : Int32) (w0 : Int64) (S : sd_St) : Option (Unit × sd_St) := q159 x1 (x2 + (1 : Int32)) x4 w0 S
set_option maxHeartbeats 4000000 in
set_option maxRecDepth 100000 in
theorem t_X12_cutAll_b210 (C : sd_C RX12 cX12_cutAll 7 none D cy ad A b0 p s m args meth c) {S' : sd_St} {q17 : (Int32 → Int32 → sd_St → Option (Unit × sd_St))} {q159 : (Int32 → Int32 → Int32 → Int64 → sd_St → Option (Unit × sd_St))} (hq17 : ∀ (x1 : Int32) (x2 : Int32) (S : sd_St) (H : Heap) (locs : List Loc) (ls : Array Slot), q17 x1 x2 S = some ((), S') → sd_H D cy ad A s S H locs → lv_has ls 7 [(0, .ref (ad 130)), (1, .int x1), (2, .int x2)] → W p l e (sd_rm 2) s m args below meth c H locs 0 0 (MQ below (sd_Qv D cy ad A S') args s 0 0 A) (F0 m 17 ls [])) (hq159 : ∀ (x1 : Int32) (x2 : Int32) (x4 : Int32) (x5 : Int64) (S : sd_St) (H : Heap) (locs : List Loc) (ls : Array Slot), q159 x1 x2 x4 x5 S = some ((), S') → sd_H D cy ad A s S H locs → lv_has ls 7 [(0, .ref (ad 130)), (1, .int x1), (2, .int x2), (4, .int x4), (5, .long x5)] → W p l e (sd_rm 2) s m args below meth c H locs 0 0 (MQ below (sd_Qv D cy ad A S') args s 0 0 A) (F0 m 159 ls [])) : ∀ (x1 : Int32) (x2 : Int32) (x4 : Int32) (w0 : Int64) (S : sd_St) (H : Heap) (locs : List Loc) (ls : Array Slot), f_X12_cutAll_b210 q17 q159 x1 x2 x4 w0 S = some ((), S') → sd_H D cy ad A s S H locs → lv_has ls 7 [(0, .ref (ad 130)), (1, .int x1), (2, .int x2), (4, .int x4)] → W p l e (sd_rm 2) s m args below meth c H locs 0 0 (MQ below (sd_Qv D cy ad A S') args s 0 0 A) (F0 m 210 ls [.long w0]) := by
  obtain ⟨hx, hb, -, hml, hown, hts, -, hG⟩ := id C
  intro x1 x2 x4 w0 S H locs ls h X hl
  unfold f_X12_cutAll_b210 at h
  refine lv_lstore (lv' := [(5, .long w0), (0, .ref (ad 130)), (1, .int x1), (2, .int x2), (4, .int x4)]) hx hb dX12_cutAll_210 hl (by decide) rfl (fun ls hl => ?_)
  refine lv_iinc (v := (x2 + (1 : Int32))) (lv' := [(2, .int (x2 + (1 : Int32))), (5, .long w0), (0, .ref (ad 130)), (1, .int x1), (4, .int x4)]) hx hb dX12_cutAll_212 hl (k := 3) rfl rfl (by decide) rfl (fun ls hl => ?_)
  refine lv_goto (tgt := 159) hx hb dX12_cutAll_215 (by decide) ?_
  exact hq159 x1 (x2 + (1 : Int32)) x4 w0 S _ _ _ h X (lv_sub hl [2, 3, 0, 4, 1] rfl)
def f_X12_cutAll_b236 (q17 : (Int32 → Int32 → sd_St → Option (Unit × sd_St))) (x1 : Int32) (x2 : Int32) (x5 : Int64) (w1 : Int32) (w2 : Int32) (S : sd_St) : Option (Unit × sd_St) := sd_st S 132 w1 w2 (fun S_13 => f_X12_cutAll_b265 q17 x1 x2 x5 S_13)
set_option maxHeartbeats 4000000 in
set_option maxRecDepth 100000 in
theorem t_X12_cutAll_b236 (C : sd_C RX12 cX12_cutAll 7 none D cy ad A b0 p s m args meth c) {S' : sd_St} {q17 : (Int32 → Int32 → sd_St → Option (Unit × sd_St))} (hq17 : ∀ (x1 : Int32) (x2 : Int32) (S : sd_St) (H : Heap) (locs : List Loc) (ls : Array Slot), q17 x1 x2 S = some ((), S') → sd_H D cy ad A s S H locs → lv_has ls 7 [(0, .ref (ad 130)), (1, .int x1), (2, .int x2)] → W p l e (sd_rm 2) s m args below meth c H locs 0 0 (MQ below (sd_Qv D cy ad A S') args s 0 0 A) (F0 m 17 ls [])) : ∀ (x1 : Int32) (x2 : Int32) (x5 : Int64) (w1 : Int32) (w2 : Int32) (S : sd_St) (H : Heap) (locs : List Loc) (ls : Array Slot), f_X12_cutAll_b236 q17 x1 x2 x5 w1 w2 S = some ((), S') → sd_H D cy ad A s S H locs → lv_has ls 7 [(0, .ref (ad 130)), (1, .int x1), (2, .int x2), (5, .long x5)] → W p l e (sd_rm 2) s m args below meth c H locs 0 0 (MQ below (sd_Qv D cy ad A S') args s 0 0 A) (F0 m 236 ls [.int w2, .int w1, .ref (ad 132)]) := by
  obtain ⟨hx, hb, -, hml, hown, hts, -, hG⟩ := id C
  intro x1 x2 x5 w1 w2 S H locs ls h X hl
  unfold f_X12_cutAll_b236 at h
  obtain ⟨bS_13, S_13, eS_13, h⟩ := sd_st_some h
  refine sd_iast C X (by decide) bS_13 dX12_cutAll_236 (fun H locs X => ?_)
  rw [← eS_13] at X
  refine lv_goto (tgt := 265) hx hb dX12_cutAll_237 (by decide) ?_
  exact t_X12_cutAll_b265 C hq17 x1 x2 x5 S_13 _ _ _ h X (lv_sub hl [0, 1, 2, 3] rfl)
def f_X12_cutAll_b218 (q17 : (Int32 → Int32 → sd_St → Option (Unit × sd_St))) (x1 : Int32) (x2 : Int32) (x4 : Int32) (x5 : Int64) (S : sd_St) : Option (Unit × sd_St) := (if (x2 - x4) ≤ (4 : Int32) then f_X12_cutAll_b236 q17 x1 x2 x5 x1 (2 : Int32) S else f_X12_cutAll_b236 q17 x1 x2 x5 x1 (4 : Int32) S)
set_option maxHeartbeats 4000000 in
set_option maxRecDepth 100000 in
theorem t_X12_cutAll_b218 (C : sd_C RX12 cX12_cutAll 7 none D cy ad A b0 p s m args meth c) {S' : sd_St} {q17 : (Int32 → Int32 → sd_St → Option (Unit × sd_St))} (hq17 : ∀ (x1 : Int32) (x2 : Int32) (S : sd_St) (H : Heap) (locs : List Loc) (ls : Array Slot), q17 x1 x2 S = some ((), S') → sd_H D cy ad A s S H locs → lv_has ls 7 [(0, .ref (ad 130)), (1, .int x1), (2, .int x2)] → W p l e (sd_rm 2) s m args below meth c H locs 0 0 (MQ below (sd_Qv D cy ad A S') args s 0 0 A) (F0 m 17 ls [])) : ∀ (x1 : Int32) (x2 : Int32) (x4 : Int32) (x5 : Int64) (S : sd_St) (H : Heap) (locs : List Loc) (ls : Array Slot), f_X12_cutAll_b218 q17 x1 x2 x4 x5 S = some ((), S') → sd_H D cy ad A s S H locs → lv_has ls 7 [(0, .ref (ad 130)), (1, .int x1), (2, .int x2), (4, .int x4), (5, .long x5)] → W p l e (sd_rm 2) s m args below meth c H locs 0 0 (MQ below (sd_Qv D cy ad A S') args s 0 0 A) (F0 m 218 ls []) := by
  obtain ⟨hx, hb, -, hml, hown, hts, -, hG⟩ := id C
  intro x1 x2 x4 x5 S H locs ls h X hl
  unfold f_X12_cutAll_b218 at h
  refine lv_aload_n hx hb dX12_cutAll_218 rfl (lv_at hl 0 rfl) ?_
  refine sd_g12_4 (k := 130) C X (by decide) sd_w7_14 dX12_cutAll_219 ?_
  refine lv_iload_n hx hb dX12_cutAll_222 rfl (lv_at hl 1 rfl) ?_
  refine lv_iload_n hx hb dX12_cutAll_223 rfl (lv_at hl 2 rfl) ?_
  refine lv_iload hx hb dX12_cutAll_224 (lv_at hl 3 rfl) ?_
  refine lv_isub hx hb dX12_cutAll_226 ?_
  refine lv_iconst (v := (4 : Int32)) hx hb dX12_cutAll_227 (by decide) ?_
  refine lv_icmp_le (tgt := 235) hx hb dX12_cutAll_228 (by decide) (fun c_14 => ?_) (fun c_14 => ?_)
  · have h := sd_ifp c_14 h
    refine lv_iconst (v := (2 : Int32)) hx hb dX12_cutAll_235 (by decide) ?_
    exact t_X12_cutAll_b236 C hq17 x1 x2 x5 x1 (2 : Int32) S _ _ _ h X (lv_sub hl [0, 1, 2, 4] rfl)
  · have h := sd_ifn c_14 h
    refine lv_iconst (v := (4 : Int32)) hx hb dX12_cutAll_231 (by decide) ?_
    refine lv_goto (tgt := 236) hx hb dX12_cutAll_232 (by decide) ?_
    exact t_X12_cutAll_b236 C hq17 x1 x2 x5 x1 (4 : Int32) S _ _ _ h X (lv_sub hl [0, 1, 2, 4] rfl)
def f_X12_cutAll_l159 (q17 : (Int32 → Int32 → sd_St → Option (Unit × sd_St))) : Nat → Int32 → Int32 → Int32 → Int64 → sd_St → Option (Unit × sd_St)
  | 0 => fun _ _ _ _ _ => none
  | n + 1 => fun x1 x2 x4 x5 S => (if (S.1 130 3) ≤ x2 then f_X12_cutAll_b218 q17 x1 x2 x4 x5 S else sd_ld S 131 x2 (fun v_16 => sd_cl (f_X12_isDigit v_16 S) (fun r_18 S_17 => (if r_18 = 0 then f_X12_cutAll_b218 q17 x1 x2 x4 x5 S_17 else (if (4 : Int32) ≤ (x2 - x4) then f_X12_cutAll_b210 q17 (f_X12_cutAll_l159 q17 n) x1 x2 x4 x5 S_17 else sd_ld S_17 131 x2 (fun v_21 => f_X12_cutAll_b210 q17 (f_X12_cutAll_l159 q17 n) x1 x2 x4 ((((10 : Int64) * x5) + (v_21.toInt64)) - (48 : Int64)) S_17))))))
set_option maxHeartbeats 4000000 in
set_option maxRecDepth 100000 in
theorem t_X12_cutAll_l159 (C : sd_C RX12 cX12_cutAll 7 none D cy ad A b0 p s m args meth c) {S' : sd_St} {q17 : (Int32 → Int32 → sd_St → Option (Unit × sd_St))} (hq17 : ∀ (x1 : Int32) (x2 : Int32) (S : sd_St) (H : Heap) (locs : List Loc) (ls : Array Slot), q17 x1 x2 S = some ((), S') → sd_H D cy ad A s S H locs → lv_has ls 7 [(0, .ref (ad 130)), (1, .int x1), (2, .int x2)] → W p l e (sd_rm 2) s m args below meth c H locs 0 0 (MQ below (sd_Qv D cy ad A S') args s 0 0 A) (F0 m 17 ls [])) : ∀ (n : Nat) (x1 : Int32) (x2 : Int32) (x4 : Int32) (x5 : Int64) (S : sd_St) (H : Heap) (locs : List Loc) (ls : Array Slot), f_X12_cutAll_l159 q17 n x1 x2 x4 x5 S = some ((), S') → sd_H D cy ad A s S H locs → lv_has ls 7 [(0, .ref (ad 130)), (1, .int x1), (2, .int x2), (4, .int x4), (5, .long x5)] → W p l e (sd_rm 2) s m args below meth c H locs 0 0 (MQ below (sd_Qv D cy ad A S') args s 0 0 A) (F0 m 159 ls []) := by
  obtain ⟨hx, hb, -, hml, hown, hts, -, hG⟩ := id C
  intro n
  induction n with
  | zero => intro x1 x2 x4 x5 S H locs ls h; cases h
  | succ n ih =>
    intro x1 x2 x4 x5 S H locs ls h X hl
    unfold f_X12_cutAll_l159 at h
    refine lv_iload_n hx hb dX12_cutAll_159 rfl (lv_at hl 2 rfl) ?_
    refine lv_aload_n hx hb dX12_cutAll_160 rfl (lv_at hl 0 rfl) ?_
    refine sd_g12_3 C X (by decide) sd_w19_3 dX12_cutAll_161 ?_
    refine lv_icmp_ge (tgt := 218) hx hb dX12_cutAll_164 (by decide) (fun c_15 => ?_) (fun c_15 => ?_)
    · have h := sd_ifp c_15 h
      exact t_X12_cutAll_b218 C hq17 x1 x2 x4 x5 S _ _ _ h X (lv_sub hl [0, 1, 2, 3, 4] rfl)
    · have h := sd_ifn c_15 h
      refine lv_aload_n hx hb dX12_cutAll_167 rfl (lv_at hl 0 rfl) ?_
      refine sd_g12_1 (k := 130) C X (by decide) sd_w7_13 dX12_cutAll_168 ?_
      refine lv_iload_n hx hb dX12_cutAll_171 rfl (lv_at hl 2 rfl) ?_
      obtain ⟨b_16, v_16, e_16, h⟩ := sd_ld_some h
      refine sd_iald C X (by decide) b_16 dX12_cutAll_172 (sd_nmi e_16 ?_)
      obtain ⟨r_18, S_17, er_18, h⟩ := sd_cl_some h
      refine k_X12_isDigit C X hl.1 er_18 sd_w19_13 (by decide) (Nat.le_of_ble_eq_true rfl) dX12_cutAll_173 (fun H locs X => ?_)
      refine lv_if_eq (tgt := 218) hx hb dX12_cutAll_176 (by decide) (fun c_19 => ?_) (fun c_19 => ?_)
      · have h := sd_ifp c_19 h
        exact t_X12_cutAll_b218 C hq17 x1 x2 x4 x5 S_17 _ _ _ h X (lv_sub hl [0, 1, 2, 3, 4] rfl)
      · have h := sd_ifn c_19 h
        refine lv_iload_n hx hb dX12_cutAll_179 rfl (lv_at hl 2 rfl) ?_
        refine lv_iload hx hb dX12_cutAll_180 (lv_at hl 3 rfl) ?_
        refine lv_isub hx hb dX12_cutAll_182 ?_
        refine lv_iconst (v := (4 : Int32)) hx hb dX12_cutAll_183 (by decide) ?_
        refine lv_icmp_ge (tgt := 208) hx hb dX12_cutAll_184 (by decide) (fun c_20 => ?_) (fun c_20 => ?_)
        · have h := sd_ifp c_20 h
          refine lv_lload hx hb dX12_cutAll_208 (lv_at hl 4 rfl) ?_
          exact t_X12_cutAll_b210 C hq17 ih x1 x2 x4 x5 S_17 _ _ _ h X (lv_sub hl [0, 1, 2, 3] rfl)
        · have h := sd_ifn c_20 h
          refine lv_ldc2 (v := (10 : Int64)) hx hb hown (hts _ sd_w19_5) dX12_cutAll_187 ?_
          refine lv_lload hx hb dX12_cutAll_190 (lv_at hl 4 rfl) ?_
          refine lv_lmul hx hb dX12_cutAll_192 ?_
          refine lv_aload_n hx hb dX12_cutAll_193 rfl (lv_at hl 0 rfl) ?_
          refine sd_g12_1 (k := 130) C X (by decide) sd_w7_13 dX12_cutAll_194 ?_
          refine lv_iload_n hx hb dX12_cutAll_197 rfl (lv_at hl 2 rfl) ?_
          obtain ⟨b_21, v_21, e_21, h⟩ := sd_ld_some h
          refine sd_iald C X (by decide) b_21 dX12_cutAll_198 (sd_nmi e_21 ?_)
          refine lv_i2l (v := v_21.toInt64) hx hb dX12_cutAll_199 rfl ?_
          refine lv_ladd hx hb dX12_cutAll_200 ?_
          refine lv_ldc2 (v := (48 : Int64)) hx hb hown (hts _ sd_w19_6) dX12_cutAll_201 ?_
          refine lv_lsub hx hb dX12_cutAll_204 ?_
          refine lv_goto (tgt := 210) hx hb dX12_cutAll_205 (by decide) ?_
          exact t_X12_cutAll_b210 C hq17 ih x1 x2 x4 ((((10 : Int64) * x5) + (v_21.toInt64)) - (48 : Int64)) S_17 _ _ _ h X (lv_sub hl [0, 1, 2, 3] rfl)
def f_X12_cutAll_b261 (q17 : (Int32 → Int32 → sd_St → Option (Unit × sd_St))) (x1 : Int32) (x2 : Int32) (x5 : Int64) (w1 : Int32) (w2 : Int32) (S : sd_St) : Option (Unit × sd_St) := sd_st S 132 w1 w2 (fun S_22 => f_X12_cutAll_b265 q17 x1 (x2 + (1 : Int32)) x5 S_22)
set_option maxHeartbeats 4000000 in
set_option maxRecDepth 100000 in
theorem t_X12_cutAll_b261 (C : sd_C RX12 cX12_cutAll 7 none D cy ad A b0 p s m args meth c) {S' : sd_St} {q17 : (Int32 → Int32 → sd_St → Option (Unit × sd_St))} (hq17 : ∀ (x1 : Int32) (x2 : Int32) (S : sd_St) (H : Heap) (locs : List Loc) (ls : Array Slot), q17 x1 x2 S = some ((), S') → sd_H D cy ad A s S H locs → lv_has ls 7 [(0, .ref (ad 130)), (1, .int x1), (2, .int x2)] → W p l e (sd_rm 2) s m args below meth c H locs 0 0 (MQ below (sd_Qv D cy ad A S') args s 0 0 A) (F0 m 17 ls [])) : ∀ (x1 : Int32) (x2 : Int32) (x5 : Int64) (w1 : Int32) (w2 : Int32) (S : sd_St) (H : Heap) (locs : List Loc) (ls : Array Slot), f_X12_cutAll_b261 q17 x1 x2 x5 w1 w2 S = some ((), S') → sd_H D cy ad A s S H locs → lv_has ls 7 [(0, .ref (ad 130)), (1, .int x1), (2, .int x2), (5, .long x5)] → W p l e (sd_rm 2) s m args below meth c H locs 0 0 (MQ below (sd_Qv D cy ad A S') args s 0 0 A) (F0 m 261 ls [.int w2, .int w1, .ref (ad 132)]) := by
  obtain ⟨hx, hb, -, hml, hown, hts, -, hG⟩ := id C
  intro x1 x2 x5 w1 w2 S H locs ls h X hl
  unfold f_X12_cutAll_b261 at h
  obtain ⟨bS_22, S_22, eS_22, h⟩ := sd_st_some h
  refine sd_iast C X (by decide) bS_22 dX12_cutAll_261 (fun H locs X => ?_)
  rw [← eS_22] at X
  refine lv_iinc (v := (x2 + (1 : Int32))) (lv' := [(2, .int (x2 + (1 : Int32))), (0, .ref (ad 130)), (1, .int x1), (5, .long x5)]) hx hb dX12_cutAll_262 hl (k := 2) rfl rfl (by decide) rfl (fun ls hl => ?_)
  exact t_X12_cutAll_b265 C hq17 x1 (x2 + (1 : Int32)) x5 S_22 _ _ _ h X (lv_sub hl [1, 2, 0, 3] rfl)
def f_X12_cutAll_l17 : Nat → Int32 → Int32 → sd_St → Option (Unit × sd_St)
  | 0 => fun _ _ _ => none
  | n + 1 => fun x1 x2 S => (if (S.1 130 3) ≤ x2 then sd_st S 132 x1 (0 : Int32) (fun S_24 => sd_st S_24 133 x1 (S_24.1 130 3) (fun S_25 => sd_nm (sd_I S_25 130 7 (0 : Int32)) (fun S_26 => sd_nm (sd_I S_26 130 8 (0 : Int32)) (fun S_27 => (some ((), S_27)))))) else sd_ld S 131 x2 (fun v_28 => (if v_28 = (10 : Int32) then f_X12_cutAll_b44 (f_X12_cutAll_l17 n) x1 x2 S else (if v_28 = (32 : Int32) then f_X12_cutAll_b44 (f_X12_cutAll_l17 n) x1 x2 S else sd_st S 133 x1 x2 (fun S_31 => sd_cl (f_X12_isLetter v_28 S_31) (fun r_33 S_32 => (if r_33 = 0 then sd_cl (f_X12_isDigit v_28 S_32) (fun r_36 S_35 => (if r_36 = 0 then sd_nm ((v_28.toInt64)) (fun v_38 => sd_cl (f_X12_isSignOf v_28 S_35) (fun r_40 S_39 => (if r_40 = 0 then f_X12_cutAll_b261 (f_X12_cutAll_l17 n) x1 x2 v_38 x1 (4 : Int32) S_39 else f_X12_cutAll_b261 (f_X12_cutAll_l17 n) x1 x2 v_38 x1 (3 : Int32) S_39))) else f_X12_cutAll_l159 (f_X12_cutAll_l17 n) sd_FU x1 x2 x2 (0 : Int64) S_35)) else f_X12_cutAll_l70 (f_X12_cutAll_l17 n) sd_FU x1 x2 x2 (0 : Int64) S_32)))))))
set_option maxHeartbeats 4000000 in
set_option maxRecDepth 100000 in
theorem t_X12_cutAll_l17 (C : sd_C RX12 cX12_cutAll 7 none D cy ad A b0 p s m args meth c) {S' : sd_St} : ∀ (n : Nat) (x1 : Int32) (x2 : Int32) (S : sd_St) (H : Heap) (locs : List Loc) (ls : Array Slot), f_X12_cutAll_l17 n x1 x2 S = some ((), S') → sd_H D cy ad A s S H locs → lv_has ls 7 [(0, .ref (ad 130)), (1, .int x1), (2, .int x2)] → W p l e (sd_rm 2) s m args below meth c H locs 0 0 (MQ below (sd_Qv D cy ad A S') args s 0 0 A) (F0 m 17 ls []) := by
  obtain ⟨hx, hb, -, hml, hown, hts, -, hG⟩ := id C
  intro n
  induction n with
  | zero => intro x1 x2 S H locs ls h; cases h
  | succ n ih =>
    intro x1 x2 S H locs ls h X hl
    unfold f_X12_cutAll_l17 at h
    refine lv_iload_n hx hb dX12_cutAll_17 rfl (lv_at hl 2 rfl) ?_
    refine lv_aload_n hx hb dX12_cutAll_18 rfl (lv_at hl 0 rfl) ?_
    refine sd_g12_3 C X (by decide) sd_w19_3 dX12_cutAll_19 ?_
    refine lv_icmp_ge (tgt := 279) hx hb dX12_cutAll_22 (by decide) (fun c_23 => ?_) (fun c_23 => ?_)
    · have h := sd_ifp c_23 h
      refine lv_aload_n hx hb dX12_cutAll_279 rfl (lv_at hl 0 rfl) ?_
      refine sd_g12_4 (k := 130) C X (by decide) sd_w7_14 dX12_cutAll_280 ?_
      refine lv_iload_n hx hb dX12_cutAll_283 rfl (lv_at hl 1 rfl) ?_
      refine lv_iconst (v := (0 : Int32)) hx hb dX12_cutAll_284 (by decide) ?_
      obtain ⟨bS_24, S_24, eS_24, h⟩ := sd_st_some h
      refine sd_iast C X (by decide) bS_24 dX12_cutAll_285 (fun H locs X => ?_)
      rw [← eS_24] at X
      refine lv_aload_n hx hb dX12_cutAll_286 rfl (lv_at hl 0 rfl) ?_
      refine sd_g12_5 (k := 130) C X (by decide) sd_w7_15 dX12_cutAll_287 ?_
      refine lv_iload_n hx hb dX12_cutAll_290 rfl (lv_at hl 1 rfl) ?_
      refine lv_aload_n hx hb dX12_cutAll_291 rfl (lv_at hl 0 rfl) ?_
      refine sd_g12_3 C X (by decide) sd_w19_3 dX12_cutAll_292 ?_
      obtain ⟨bS_25, S_25, eS_25, h⟩ := sd_st_some h
      refine sd_iast C X (by decide) bS_25 dX12_cutAll_295 (fun H locs X => ?_)
      rw [← eS_25] at X
      refine lv_aload_n hx hb dX12_cutAll_296 rfl (lv_at hl 0 rfl) ?_
      refine lv_iconst (v := (0 : Int32)) hx hb dX12_cutAll_297 (by decide) ?_
      obtain ⟨S_26, eS_26, h⟩ := sd_nm_some h
      refine sd_p12_7 C X (by decide) sd_w18_22 dX12_cutAll_298 (fun H locs X => ?_)
      rw [← eS_26] at X
      refine lv_aload_n hx hb dX12_cutAll_301 rfl (lv_at hl 0 rfl) ?_
      refine lv_iconst (v := (0 : Int32)) hx hb dX12_cutAll_302 (by decide) ?_
      obtain ⟨S_27, eS_27, h⟩ := sd_nm_some h
      refine sd_p12_8 C X (by decide) sd_w18_21 dX12_cutAll_303 (fun H locs X => ?_)
      rw [← eS_27] at X
      cases h
      exact sd_vret C X dX12_cutAll_306
    · have h := sd_ifn c_23 h
      refine lv_aload_n hx hb dX12_cutAll_25 rfl (lv_at hl 0 rfl) ?_
      refine sd_g12_1 (k := 130) C X (by decide) sd_w7_13 dX12_cutAll_26 ?_
      refine lv_iload_n hx hb dX12_cutAll_29 rfl (lv_at hl 2 rfl) ?_
      obtain ⟨b_28, v_28, e_28, h⟩ := sd_ld_some h
      refine sd_iald C X (by decide) b_28 dX12_cutAll_30 (sd_nmi e_28 ?_)
      refine lv_istore_n (lv' := [(3, .int v_28), (0, .ref (ad 130)), (1, .int x1), (2, .int x2)]) hx hb dX12_cutAll_31 rfl hl (by decide) rfl (fun ls hl => ?_)
      refine lv_iload_n hx hb dX12_cutAll_32 rfl (lv_at hl 0 rfl) ?_
      refine lv_bipush (v := (10 : Int32)) hx hb dX12_cutAll_33 (by decide) ?_
      refine lv_icmp_eq (tgt := 44) hx hb dX12_cutAll_35 (by decide) (fun c_29 => ?_) (fun c_29 => ?_)
      · have h := sd_ifp c_29 h
        exact t_X12_cutAll_b44 C ih x1 x2 S _ _ _ h X (lv_sub hl [1, 2, 3] rfl)
      · have h := sd_ifn c_29 h
        refine lv_iload_n hx hb dX12_cutAll_38 rfl (lv_at hl 0 rfl) ?_
        refine lv_bipush (v := (32 : Int32)) hx hb dX12_cutAll_39 (by decide) ?_
        refine lv_icmp_ne (tgt := 50) hx hb dX12_cutAll_41 (by decide) (fun c_30 => ?_) (fun c_30 => ?_)
        · have h := sd_ifn c_30 h
          refine lv_iload_n hx hb dX12_cutAll_50 rfl (lv_at hl 3 rfl) ?_
          refine lv_istore (lv' := [(4, .int x2), (3, .int v_28), (0, .ref (ad 130)), (1, .int x1), (2, .int x2)]) hx hb dX12_cutAll_51 hl (by decide) rfl (fun ls hl => ?_)
          refine lv_lconst (v := (0 : Int64)) hx hb dX12_cutAll_53 (by decide) ?_
          refine lv_lstore (lv' := [(5, .long (0 : Int64)), (4, .int x2), (3, .int v_28), (0, .ref (ad 130)), (1, .int x1), (2, .int x2)]) hx hb dX12_cutAll_54 hl (by decide) rfl (fun ls hl => ?_)
          refine lv_aload_n hx hb dX12_cutAll_56 rfl (lv_at hl 3 rfl) ?_
          refine sd_g12_5 (k := 130) C X (by decide) sd_w7_15 dX12_cutAll_57 ?_
          refine lv_iload_n hx hb dX12_cutAll_60 rfl (lv_at hl 4 rfl) ?_
          refine lv_iload_n hx hb dX12_cutAll_61 rfl (lv_at hl 5 rfl) ?_
          obtain ⟨bS_31, S_31, eS_31, h⟩ := sd_st_some h
          refine sd_iast C X (by decide) bS_31 dX12_cutAll_62 (fun H locs X => ?_)
          rw [← eS_31] at X
          refine lv_iload_n hx hb dX12_cutAll_63 rfl (lv_at hl 2 rfl) ?_
          obtain ⟨r_33, S_32, er_33, h⟩ := sd_cl_some h
          refine k_X12_isLetter C X hl.1 er_33 sd_w19_7 (by decide) (Nat.le_of_ble_eq_true rfl) dX12_cutAll_64 (fun H locs X => ?_)
          refine lv_if_eq (tgt := 152) hx hb dX12_cutAll_67 (by decide) (fun c_34 => ?_) (fun c_34 => ?_)
          · have h := sd_ifp c_34 h
            refine lv_iload_n hx hb dX12_cutAll_152 rfl (lv_at hl 2 rfl) ?_
            obtain ⟨r_36, S_35, er_36, h⟩ := sd_cl_some h
            refine k_X12_isDigit C X hl.1 er_36 sd_w19_13 (by decide) (Nat.le_of_ble_eq_true rfl) dX12_cutAll_153 (fun H locs X => ?_)
            refine lv_if_eq (tgt := 240) hx hb dX12_cutAll_156 (by decide) (fun c_37 => ?_) (fun c_37 => ?_)
            · have h := sd_ifp c_37 h
              refine lv_iload_n hx hb dX12_cutAll_240 rfl (lv_at hl 2 rfl) ?_
              refine lv_i2l (v := v_28.toInt64) hx hb dX12_cutAll_241 rfl ?_
              obtain ⟨v_38, e_38, h⟩ := sd_nm_some h
              refine sd_nml e_38 ?_
              refine lv_lstore (lv' := [(5, .long v_38), (4, .int x2), (3, .int v_28), (0, .ref (ad 130)), (1, .int x1), (2, .int x2)]) hx hb dX12_cutAll_242 hl (by decide) rfl (fun ls hl => ?_)
              refine lv_aload_n hx hb dX12_cutAll_244 rfl (lv_at hl 3 rfl) ?_
              refine sd_g12_4 (k := 130) C X (by decide) sd_w7_14 dX12_cutAll_245 ?_
              refine lv_iload_n hx hb dX12_cutAll_248 rfl (lv_at hl 4 rfl) ?_
              refine lv_iload_n hx hb dX12_cutAll_249 rfl (lv_at hl 2 rfl) ?_
              obtain ⟨r_40, S_39, er_40, h⟩ := sd_cl_some h
              refine k_X12_isSignOf C X hl.1 er_40 sd_w19_16 (by decide) (Nat.le_of_ble_eq_true rfl) dX12_cutAll_250 (fun H locs X => ?_)
              refine lv_if_eq (tgt := 260) hx hb dX12_cutAll_253 (by decide) (fun c_41 => ?_) (fun c_41 => ?_)
              · have h := sd_ifp c_41 h
                refine lv_iconst (v := (4 : Int32)) hx hb dX12_cutAll_260 (by decide) ?_
                exact t_X12_cutAll_b261 C ih x1 x2 v_38 x1 (4 : Int32) S_39 _ _ _ h X (lv_sub hl [3, 4, 5, 0] rfl)
              · have h := sd_ifn c_41 h
                refine lv_iconst (v := (3 : Int32)) hx hb dX12_cutAll_256 (by decide) ?_
                refine lv_goto (tgt := 261) hx hb dX12_cutAll_257 (by decide) ?_
                exact t_X12_cutAll_b261 C ih x1 x2 v_38 x1 (3 : Int32) S_39 _ _ _ h X (lv_sub hl [3, 4, 5, 0] rfl)
            · have h := sd_ifn c_37 h
              exact t_X12_cutAll_l159 C ih sd_FU x1 x2 x2 (0 : Int64) S_35 _ _ _ h X (lv_sub hl [3, 4, 5, 1, 0] rfl)
          · have h := sd_ifn c_34 h
            exact t_X12_cutAll_l70 C ih sd_FU x1 x2 x2 (0 : Int64) S_32 _ _ _ h X (lv_sub hl [3, 4, 5, 1, 0] rfl)
        · have h := sd_ifp c_30 h
          exact t_X12_cutAll_b44 C ih x1 x2 S _ _ _ h X (lv_sub hl [1, 2, 3] rfl)
def f_X12_cutAll (S : sd_St) : Option (Unit × sd_St) := sd_nm (sd_I S 130 3 (S.1 130 2)) (fun S_42 => sd_nm (sd_I S_42 130 2 (0 : Int32)) (fun S_43 => f_X12_cutAll_l17 sd_FU (0 : Int32) (0 : Int32) S_43))
set_option maxHeartbeats 4000000 in
set_option maxRecDepth 100000 in
theorem c_X12_cutAll {S S' : sd_St} (h : f_X12_cutAll S = some ((), S')) : Met l yX12_cutAll (Cond.code yX12_cutAll cX12_cutAll 7 none :: sd_wl) (sd_rm 2) (sd_P D cy ad A b0 [.ref (ad 130)] S) (sd_Qv D cy ad A S') 0 0 A := by
  refine sd_met (by decide) (Nat.le_of_ble_eq_true rfl) (fun p e s m args below meth c ls C X hl => ?_)
  obtain ⟨hx, hb, -, hml, hown, hts, -, hG⟩ := id C
  replace C : sd_C RX12 cX12_cutAll 7 none D cy ad A b0 p s m args meth c := C
  replace hl : lv_has ls 7 [(0, .ref (ad 130))] := hl
  unfold f_X12_cutAll at h
  refine lv_aload_n hx hb dX12_cutAll_0 rfl (lv_at hl 0 rfl) ?_
  refine lv_aload_n hx hb dX12_cutAll_1 rfl (lv_at hl 0 rfl) ?_
  refine sd_g12_2 C X (by decide) sd_w9_23 dX12_cutAll_2 ?_
  obtain ⟨S_42, eS_42, h⟩ := sd_nm_some h
  refine sd_p12_3 C X (by decide) sd_w19_3 dX12_cutAll_5 (fun H locs X => ?_)
  rw [← eS_42] at X
  refine lv_aload_n hx hb dX12_cutAll_8 rfl (lv_at hl 0 rfl) ?_
  refine lv_iconst (v := (0 : Int32)) hx hb dX12_cutAll_9 (by decide) ?_
  obtain ⟨S_43, eS_43, h⟩ := sd_nm_some h
  refine sd_p12_2 C X (by decide) sd_w9_23 dX12_cutAll_10 (fun H locs X => ?_)
  rw [← eS_43] at X
  refine lv_iconst (v := (0 : Int32)) hx hb dX12_cutAll_13 (by decide) ?_
  refine lv_istore_n (lv' := [(1, .int (0 : Int32)), (0, .ref (ad 130))]) hx hb dX12_cutAll_14 rfl hl (by decide) rfl (fun ls hl => ?_)
  refine lv_iconst (v := (0 : Int32)) hx hb dX12_cutAll_15 (by decide) ?_
  refine lv_istore_n (lv' := [(2, .int (0 : Int32)), (1, .int (0 : Int32)), (0, .ref (ad 130))]) hx hb dX12_cutAll_16 rfl hl (by decide) rfl (fun ls hl => ?_)
  exact t_X12_cutAll_l17 C sd_FU (0 : Int32) (0 : Int32) S_43 _ _ _ h X (lv_sub hl [2, 1, 0] rfl)
theorem k_X12_cutAll (C : sd_C own cc nL rt D cy ad A b0 p s m args meth c) (X : sd_H D cy ad A s S H locs) (hls : ls.size = nL) {S2 : sd_St} (h : f_X12_cutAll S = some ((), S2)) (hlink : Cond.methodLink own index yX12_cutAll ∈ sd_wl) (hR : 3 ≤ R.frames ∧ 106 ≤ R.locals ∧ cells ≤ R.cells ∧ slots ≤ R.slots) (hst : (rest.map fun v => v.category).sum ≤ 8) (hdg : decode cc pc = .ok (.invokevirtual index, 3)) (kk : ∀ (H1 : Heap) (locs1 : List Loc), sd_H D cy ad A s S2 H1 locs1 → W p l e R s m args below meth c H1 locs1 cells slots Q (F0 m (pc + 3) ls rest)) : W p l e R s m args below meth c H locs cells slots Q (F0 m pc ls (.ref (ad 130) :: rest)) :=
  sd_goV X (sd_runV C X hls (n := 0) (k := 130) (As := []) (c_X12_cutAll (l := l) (b0 := b0) h) (sd_goodV hlink sd_w19_0 sd_w19_1 sd_w1_5 sd_w19_2) (ci := 12) rfl (by rw [(show sd_kd 130 = 12 by decide)]; decide) (sd_c12 (show sd_kd 130 = 12 by decide)) (by decide +kernel) rfl hR rfl hst hdg) kk
/-! ===== SecretDaysModel.errs(I)V ===== -/
def f_X12_errs (x1 : Int32) (S : sd_St) : Option (Unit × sd_St) := (if (S.1 130 8) = 0 then sd_ld S 133 (S.1 130 7) (fun v_2 => sd_nm (sd_I S 130 8 (x1 + ((16 : Int32) * v_2))) (fun S_3 => (some ((), S_3)))) else (some ((), S)))
set_option maxHeartbeats 4000000 in
set_option maxRecDepth 100000 in
theorem c_X12_errs {x1 : Int32} {S S' : sd_St} (h : f_X12_errs x1 S = some ((), S')) : Met l yX12_errs (Cond.code yX12_errs cX12_errs 2 none :: sd_wl) (sd_rm 0) (sd_P D cy ad A b0 [.ref (ad 130), .int x1] S) (sd_Qv D cy ad A S') 0 0 A := by
  refine sd_met (by decide) (Nat.le_of_ble_eq_true rfl) (fun p e s m args below meth c ls C X hl => ?_)
  obtain ⟨hx, hb, -, hml, hown, hts, -, hG⟩ := id C
  replace C : sd_C RX12 cX12_errs 2 none D cy ad A b0 p s m args meth c := C
  replace hl : lv_has ls 2 [(0, .ref (ad 130)), (1, .int x1)] := hl
  unfold f_X12_errs at h
  refine lv_aload_n hx hb dX12_errs_0 rfl (lv_at hl 0 rfl) ?_
  refine sd_g12_8 C X (by decide) sd_w18_21 dX12_errs_1 ?_
  refine lv_if_ne (tgt := 25) hx hb dX12_errs_4 (by decide) (fun c_1 => ?_) (fun c_1 => ?_)
  · have h := sd_ifn c_1 h
    cases h
    exact sd_vret C X dX12_errs_25
  · have h := sd_ifp c_1 h
    refine lv_aload_n hx hb dX12_errs_7 rfl (lv_at hl 0 rfl) ?_
    refine lv_iload_n hx hb dX12_errs_8 rfl (lv_at hl 1 rfl) ?_
    refine lv_bipush (v := (16 : Int32)) hx hb dX12_errs_9 (by decide) ?_
    refine lv_aload_n hx hb dX12_errs_11 rfl (lv_at hl 0 rfl) ?_
    refine sd_g12_5 (k := 130) C X (by decide) sd_w7_15 dX12_errs_12 ?_
    refine lv_aload_n hx hb dX12_errs_15 rfl (lv_at hl 0 rfl) ?_
    refine sd_g12_7 C X (by decide) sd_w18_22 dX12_errs_16 ?_
    obtain ⟨b_2, v_2, e_2, h⟩ := sd_ld_some h
    refine sd_iald C X (by decide) b_2 dX12_errs_19 (sd_nmi e_2 ?_)
    refine lv_imul hx hb dX12_errs_20 ?_
    refine lv_iadd hx hb dX12_errs_21 ?_
    obtain ⟨S_3, eS_3, h⟩ := sd_nm_some h
    refine sd_p12_8 C X (by decide) sd_w18_21 dX12_errs_22 (fun H locs X => ?_)
    rw [← eS_3] at X
    cases h
    exact sd_vret C X dX12_errs_25
theorem k_X12_errs (C : sd_C own cc nL rt D cy ad A b0 p s m args meth c) (X : sd_H D cy ad A s S H locs) (hls : ls.size = nL) {x1 : Int32} {S2 : sd_St} (h : f_X12_errs x1 S = some ((), S2)) (hlink : Cond.methodLink own index yX12_errs ∈ sd_wl) (hR : 1 ≤ R.frames ∧ 21 ≤ R.locals ∧ cells ≤ R.cells ∧ slots ≤ R.slots) (hst : (rest.map fun v => v.category).sum ≤ 8) (hdg : decode cc pc = .ok (.invokevirtual index, 3)) (kk : ∀ (H1 : Heap) (locs1 : List Loc), sd_H D cy ad A s S2 H1 locs1 → W p l e R s m args below meth c H1 locs1 cells slots Q (F0 m (pc + 3) ls rest)) : W p l e R s m args below meth c H locs cells slots Q (F0 m pc ls (.int x1 :: .ref (ad 130) :: rest)) :=
  sd_goV X (sd_runV C X hls (n := 1) (k := 130) (As := [.int x1]) (c_X12_errs (l := l) (b0 := b0) h) (sd_goodV hlink sd_w20_8 sd_w20_9 sd_w1_5 sd_w20_10) (ci := 12) rfl (by rw [(show sd_kd 130 = 12 by decide)]; decide) (sd_c12 (show sd_kd 130 = 12 by decide)) (by decide +kernel) rfl hR rfl hst hdg) kk
/-! ===== SecretDaysModel.isSign(I)Z ===== -/
def f_X12_isSign (x1 : Int32) (S : sd_St) : Option (Int32 × sd_St) := (if (S.1 130 8) = 0 then sd_ld S 132 (S.1 130 7) (fun v_2 => (if v_2 = (3 : Int32) then sd_ldl S 134 (S.1 130 7) (fun v_4 => (if (lg_cmp v_4 (x1.toInt64)) = 0 then (some ((1 : Int32), S)) else (some ((0 : Int32), S)))) else (some ((0 : Int32), S)))) else (some ((0 : Int32), S)))
set_option maxHeartbeats 4000000 in
set_option maxRecDepth 100000 in
theorem c_X12_isSign {x1 : Int32} {S S' : sd_St} {r : Int32} (h : f_X12_isSign x1 S = some (r, S')) : Met l yX12_isSign (Cond.code yX12_isSign cX12_isSign 2 (some .boolean) :: sd_wl) (sd_rm 0) (sd_P D cy ad A b0 [.ref (ad 130), .int x1] S) (sd_Qi D cy ad A r S') 0 0 A := by
  refine sd_met (by decide) (Nat.le_of_ble_eq_true rfl) (fun p e s m args below meth c ls C X hl => ?_)
  obtain ⟨hx, hb, -, hml, hown, hts, -, hG⟩ := id C
  replace C : sd_C RX12 cX12_isSign 2 (some .boolean) D cy ad A b0 p s m args meth c := C
  replace hl : lv_has ls 2 [(0, .ref (ad 130)), (1, .int x1)] := hl
  unfold f_X12_isSign at h
  refine lv_aload_n hx hb dX12_isSign_0 rfl (lv_at hl 0 rfl) ?_
  refine sd_g12_8 C X (by decide) sd_w18_21 dX12_isSign_1 ?_
  refine lv_if_ne (tgt := 39) hx hb dX12_isSign_4 (by decide) (fun c_1 => ?_) (fun c_1 => ?_)
  · have h := sd_ifn c_1 h
    refine lv_iconst (v := (0 : Int32)) hx hb dX12_isSign_39 (by decide) ?_
    cases h
    exact sd_zret C X (by decide) dX12_isSign_40
  · have h := sd_ifp c_1 h
    refine lv_aload_n hx hb dX12_isSign_7 rfl (lv_at hl 0 rfl) ?_
    refine sd_g12_4 (k := 130) C X (by decide) sd_w7_14 dX12_isSign_8 ?_
    refine lv_aload_n hx hb dX12_isSign_11 rfl (lv_at hl 0 rfl) ?_
    refine sd_g12_7 C X (by decide) sd_w18_22 dX12_isSign_12 ?_
    obtain ⟨b_2, v_2, e_2, h⟩ := sd_ld_some h
    refine sd_iald C X (by decide) b_2 dX12_isSign_15 (sd_nmi e_2 ?_)
    refine lv_iconst (v := (3 : Int32)) hx hb dX12_isSign_16 (by decide) ?_
    refine lv_icmp_ne (tgt := 39) hx hb dX12_isSign_17 (by decide) (fun c_3 => ?_) (fun c_3 => ?_)
    · have h := sd_ifn c_3 h
      refine lv_iconst (v := (0 : Int32)) hx hb dX12_isSign_39 (by decide) ?_
      cases h
      exact sd_zret C X (by decide) dX12_isSign_40
    · have h := sd_ifp c_3 h
      refine lv_aload_n hx hb dX12_isSign_20 rfl (lv_at hl 0 rfl) ?_
      refine sd_g12_6 (k := 130) C X (by decide) sd_w7_16 dX12_isSign_21 ?_
      refine lv_aload_n hx hb dX12_isSign_24 rfl (lv_at hl 0 rfl) ?_
      refine sd_g12_7 C X (by decide) sd_w18_22 dX12_isSign_25 ?_
      obtain ⟨b_4, v_4, e_4, h⟩ := sd_ldl_some h
      refine sd_lald C X (by decide) b_4 dX12_isSign_28 (sd_nml e_4 ?_)
      refine lv_iload_n hx hb dX12_isSign_29 rfl (lv_at hl 1 rfl) ?_
      refine lv_i2l (v := x1.toInt64) hx hb dX12_isSign_30 rfl ?_
      refine W.lcmp hx hb dX12_isSign_31 ?_
      refine lv_if_ne (tgt := 39) hx hb dX12_isSign_32 (by decide) (fun c_5 => ?_) (fun c_5 => ?_)
      · have h := sd_ifn c_5 h
        refine lv_iconst (v := (0 : Int32)) hx hb dX12_isSign_39 (by decide) ?_
        cases h
        exact sd_zret C X (by decide) dX12_isSign_40
      · have h := sd_ifp c_5 h
        refine lv_iconst (v := (1 : Int32)) hx hb dX12_isSign_35 (by decide) ?_
        refine lv_goto (tgt := 40) hx hb dX12_isSign_36 (by decide) ?_
        cases h
        exact sd_zret C X (by decide) dX12_isSign_40
theorem k_X12_isSign (C : sd_C own cc nL rt D cy ad A b0 p s m args meth c) (X : sd_H D cy ad A s S H locs) (hls : ls.size = nL) {x1 : Int32} {S2 : sd_St} {r : Int32} (h : f_X12_isSign x1 S = some (r, S2)) (hlink : Cond.methodLink own index yX12_isSign ∈ sd_wl) (hR : 1 ≤ R.frames ∧ 21 ≤ R.locals ∧ cells ≤ R.cells ∧ slots ≤ R.slots) (hst : (rest.map fun v => v.category).sum ≤ 8) (hdg : decode cc pc = .ok (.invokevirtual index, 3)) (kk : ∀ (H1 : Heap) (locs1 : List Loc), sd_H D cy ad A s S2 H1 locs1 → W p l e R s m args below meth c H1 locs1 cells slots Q (F0 m (pc + 3) ls (.int r :: rest))) : W p l e R s m args below meth c H locs cells slots Q (F0 m pc ls (.int x1 :: .ref (ad 130) :: rest)) :=
  sd_goI X (sd_runV C X hls (n := 1) (k := 130) (As := [.int x1]) (c_X12_isSign (l := l) (b0 := b0) h) (sd_goodV hlink sd_w23_4 sd_w23_5 sd_w1_5 sd_w23_6) (ci := 12) rfl (by rw [(show sd_kd 130 = 12 by decide)]; decide) (sd_c12 (show sd_kd 130 = 12 by decide)) (by decide +kernel) rfl hR rfl hst hdg) kk
/-! ===== SecretDaysModel.isWord(I)Z ===== -/
def f_X12_isWord (x1 : Int32) (S : sd_St) : Option (Int32 × sd_St) := (if (S.1 130 8) = 0 then sd_ld S 132 (S.1 130 7) (fun v_2 => (if v_2 = (1 : Int32) then sd_ldl S 134 (S.1 130 7) (fun v_4 => sd_ldl S 135 x1 (fun v_5 => (if (lg_cmp v_4 v_5) = 0 then (some ((1 : Int32), S)) else (some ((0 : Int32), S))))) else (some ((0 : Int32), S)))) else (some ((0 : Int32), S)))
set_option maxHeartbeats 4000000 in
set_option maxRecDepth 100000 in
theorem c_X12_isWord {x1 : Int32} {S S' : sd_St} {r : Int32} (h : f_X12_isWord x1 S = some (r, S')) : Met l yX12_isWord (Cond.code yX12_isWord cX12_isWord 2 (some .boolean) :: sd_wl) (sd_rm 0) (sd_P D cy ad A b0 [.ref (ad 130), .int x1] S) (sd_Qi D cy ad A r S') 0 0 A := by
  refine sd_met (by decide) (Nat.le_of_ble_eq_true rfl) (fun p e s m args below meth c ls C X hl => ?_)
  obtain ⟨hx, hb, -, hml, hown, hts, -, hG⟩ := id C
  replace C : sd_C RX12 cX12_isWord 2 (some .boolean) D cy ad A b0 p s m args meth c := C
  replace hl : lv_has ls 2 [(0, .ref (ad 130)), (1, .int x1)] := hl
  unfold f_X12_isWord at h
  refine lv_aload_n hx hb dX12_isWord_0 rfl (lv_at hl 0 rfl) ?_
  refine sd_g12_8 C X (by decide) sd_w18_21 dX12_isWord_1 ?_
  refine lv_if_ne (tgt := 43) hx hb dX12_isWord_4 (by decide) (fun c_1 => ?_) (fun c_1 => ?_)
  · have h := sd_ifn c_1 h
    refine lv_iconst (v := (0 : Int32)) hx hb dX12_isWord_43 (by decide) ?_
    cases h
    exact sd_zret C X (by decide) dX12_isWord_44
  · have h := sd_ifp c_1 h
    refine lv_aload_n hx hb dX12_isWord_7 rfl (lv_at hl 0 rfl) ?_
    refine sd_g12_4 (k := 130) C X (by decide) sd_w7_14 dX12_isWord_8 ?_
    refine lv_aload_n hx hb dX12_isWord_11 rfl (lv_at hl 0 rfl) ?_
    refine sd_g12_7 C X (by decide) sd_w18_22 dX12_isWord_12 ?_
    obtain ⟨b_2, v_2, e_2, h⟩ := sd_ld_some h
    refine sd_iald C X (by decide) b_2 dX12_isWord_15 (sd_nmi e_2 ?_)
    refine lv_iconst (v := (1 : Int32)) hx hb dX12_isWord_16 (by decide) ?_
    refine lv_icmp_ne (tgt := 43) hx hb dX12_isWord_17 (by decide) (fun c_3 => ?_) (fun c_3 => ?_)
    · have h := sd_ifn c_3 h
      refine lv_iconst (v := (0 : Int32)) hx hb dX12_isWord_43 (by decide) ?_
      cases h
      exact sd_zret C X (by decide) dX12_isWord_44
    · have h := sd_ifp c_3 h
      refine lv_aload_n hx hb dX12_isWord_20 rfl (lv_at hl 0 rfl) ?_
      refine sd_g12_6 (k := 130) C X (by decide) sd_w7_16 dX12_isWord_21 ?_
      refine lv_aload_n hx hb dX12_isWord_24 rfl (lv_at hl 0 rfl) ?_
      refine sd_g12_7 C X (by decide) sd_w18_22 dX12_isWord_25 ?_
      obtain ⟨b_4, v_4, e_4, h⟩ := sd_ldl_some h
      refine sd_lald C X (by decide) b_4 dX12_isWord_28 (sd_nml e_4 ?_)
      refine lv_aload_n hx hb dX12_isWord_29 rfl (lv_at hl 0 rfl) ?_
      refine sd_g12_9 (k := 130) C X (by decide) sd_w8_7 dX12_isWord_30 ?_
      refine lv_iload_n hx hb dX12_isWord_33 rfl (lv_at hl 1 rfl) ?_
      obtain ⟨b_5, v_5, e_5, h⟩ := sd_ldl_some h
      refine sd_lald C X (by decide) b_5 dX12_isWord_34 (sd_nml e_5 ?_)
      refine W.lcmp hx hb dX12_isWord_35 ?_
      refine lv_if_ne (tgt := 43) hx hb dX12_isWord_36 (by decide) (fun c_6 => ?_) (fun c_6 => ?_)
      · have h := sd_ifn c_6 h
        refine lv_iconst (v := (0 : Int32)) hx hb dX12_isWord_43 (by decide) ?_
        cases h
        exact sd_zret C X (by decide) dX12_isWord_44
      · have h := sd_ifp c_6 h
        refine lv_iconst (v := (1 : Int32)) hx hb dX12_isWord_39 (by decide) ?_
        refine lv_goto (tgt := 44) hx hb dX12_isWord_40 (by decide) ?_
        cases h
        exact sd_zret C X (by decide) dX12_isWord_44
theorem k_X12_isWord (C : sd_C own cc nL rt D cy ad A b0 p s m args meth c) (X : sd_H D cy ad A s S H locs) (hls : ls.size = nL) {x1 : Int32} {S2 : sd_St} {r : Int32} (h : f_X12_isWord x1 S = some (r, S2)) (hlink : Cond.methodLink own index yX12_isWord ∈ sd_wl) (hR : 1 ≤ R.frames ∧ 21 ≤ R.locals ∧ cells ≤ R.cells ∧ slots ≤ R.slots) (hst : (rest.map fun v => v.category).sum ≤ 8) (hdg : decode cc pc = .ok (.invokevirtual index, 3)) (kk : ∀ (H1 : Heap) (locs1 : List Loc), sd_H D cy ad A s S2 H1 locs1 → W p l e R s m args below meth c H1 locs1 cells slots Q (F0 m (pc + 3) ls (.int r :: rest))) : W p l e R s m args below meth c H locs cells slots Q (F0 m pc ls (.int x1 :: .ref (ad 130) :: rest)) :=
  sd_goI X (sd_runV C X hls (n := 1) (k := 130) (As := [.int x1]) (c_X12_isWord (l := l) (b0 := b0) h) (sd_goodV hlink sd_w20_0 sd_w20_1 sd_w1_5 sd_w20_2) (ci := 12) rfl (by rw [(show sd_kd 130 = 12 by decide)]; decide) (sd_c12 (show sd_kd 130 = 12 by decide)) (by decide +kernel) rfl hR rfl hst hdg) kk
/-! ===== SecretDaysModel.takeSign(I)V ===== -/
def f_X12_takeSign (x1 : Int32) (S : sd_St) : Option (Unit × sd_St) := sd_cl (f_X12_isSign x1 S) (fun r_2 S_1 => (if r_2 = 0 then sd_cl (f_X12_errs (1 : Int32) S_1) (fun _ S_4 => (some ((), S_4))) else sd_nm (sd_I S_1 130 7 ((S_1.1 130 7) + (1 : Int32))) (fun S_6 => (some ((), S_6)))))
set_option maxHeartbeats 4000000 in
set_option maxRecDepth 100000 in
theorem c_X12_takeSign {x1 : Int32} {S S' : sd_St} (h : f_X12_takeSign x1 S = some ((), S')) : Met l yX12_takeSign (Cond.code yX12_takeSign cX12_takeSign 2 none :: sd_wl) (sd_rm 1) (sd_P D cy ad A b0 [.ref (ad 130), .int x1] S) (sd_Qv D cy ad A S') 0 0 A := by
  refine sd_met (by decide) (Nat.le_of_ble_eq_true rfl) (fun p e s m args below meth c ls C X hl => ?_)
  obtain ⟨hx, hb, -, hml, hown, hts, -, hG⟩ := id C
  replace C : sd_C RX12 cX12_takeSign 2 none D cy ad A b0 p s m args meth c := C
  replace hl : lv_has ls 2 [(0, .ref (ad 130)), (1, .int x1)] := hl
  unfold f_X12_takeSign at h
  refine lv_aload_n hx hb dX12_takeSign_0 rfl (lv_at hl 0 rfl) ?_
  refine lv_iload_n hx hb dX12_takeSign_1 rfl (lv_at hl 1 rfl) ?_
  obtain ⟨r_2, S_1, er_2, h⟩ := sd_cl_some h
  refine k_X12_isSign C X hl.1 er_2 sd_w23_3 (by decide) (Nat.le_of_ble_eq_true rfl) dX12_takeSign_2 (fun H locs X => ?_)
  refine lv_if_eq (tgt := 21) hx hb dX12_takeSign_5 (by decide) (fun c_3 => ?_) (fun c_3 => ?_)
  · have h := sd_ifp c_3 h
    refine lv_aload_n hx hb dX12_takeSign_21 rfl (lv_at hl 0 rfl) ?_
    refine lv_iconst (v := (1 : Int32)) hx hb dX12_takeSign_22 (by decide) ?_
    obtain ⟨r_5, S_4, er_5, h⟩ := sd_cl_some h
    refine k_X12_errs C X hl.1 er_5 sd_w20_7 (by decide) (Nat.le_of_ble_eq_true rfl) dX12_takeSign_23 (fun H locs X => ?_)
    cases h
    exact sd_vret C X dX12_takeSign_26
  · have h := sd_ifn c_3 h
    refine lv_aload_n hx hb dX12_takeSign_8 rfl (lv_at hl 0 rfl) ?_
    refine lv_dup hx hb dX12_takeSign_9 rfl ?_
    refine sd_g12_7 C X (by decide) sd_w18_22 dX12_takeSign_10 ?_
    refine lv_iconst (v := (1 : Int32)) hx hb dX12_takeSign_13 (by decide) ?_
    refine lv_iadd hx hb dX12_takeSign_14 ?_
    obtain ⟨S_6, eS_6, h⟩ := sd_nm_some h
    refine sd_p12_7 C X (by decide) sd_w18_22 dX12_takeSign_15 (fun H locs X => ?_)
    rw [← eS_6] at X
    refine lv_goto (tgt := 26) hx hb dX12_takeSign_18 (by decide) ?_
    cases h
    exact sd_vret C X dX12_takeSign_26
theorem k_X12_takeSign (C : sd_C own cc nL rt D cy ad A b0 p s m args meth c) (X : sd_H D cy ad A s S H locs) (hls : ls.size = nL) {x1 : Int32} {S2 : sd_St} (h : f_X12_takeSign x1 S = some ((), S2)) (hlink : Cond.methodLink own index yX12_takeSign ∈ sd_wl) (hR : 2 ≤ R.frames ∧ 61 ≤ R.locals ∧ cells ≤ R.cells ∧ slots ≤ R.slots) (hst : (rest.map fun v => v.category).sum ≤ 8) (hdg : decode cc pc = .ok (.invokevirtual index, 3)) (kk : ∀ (H1 : Heap) (locs1 : List Loc), sd_H D cy ad A s S2 H1 locs1 → W p l e R s m args below meth c H1 locs1 cells slots Q (F0 m (pc + 3) ls rest)) : W p l e R s m args below meth c H locs cells slots Q (F0 m pc ls (.int x1 :: .ref (ad 130) :: rest)) :=
  sd_goV X (sd_runV C X hls (n := 1) (k := 130) (As := [.int x1]) (c_X12_takeSign (l := l) (b0 := b0) h) (sd_goodV hlink sd_w23_0 sd_w23_1 sd_w1_5 sd_w23_2) (ci := 12) rfl (by rw [(show sd_kd 130 = 12 by decide)]; decide) (sd_c12 (show sd_kd 130 = 12 by decide)) (by decide +kernel) rfl hR rfl hst hdg) kk
/-! ===== SecretDaysModel.hasWord(I)Z ===== -/
def f_X12_hasWord_b20 (x2 : Int32) (w1 : Int32) (w2 : Int32) (S : sd_St) : Option (Int32 × sd_St) := sd_nm (sd_I S 130 7 (w1 + w2)) (fun S_1 => (sd_ckz x2 (some (x2, S_1))))
set_option maxHeartbeats 4000000 in
set_option maxRecDepth 100000 in
theorem t_X12_hasWord_b20 (C : sd_C RX12 cX12_hasWord 3 (some .boolean) D cy ad A b0 p s m args meth c) {r : Int32} {S' : sd_St} : ∀ (x2 : Int32) (w1 : Int32) (w2 : Int32) (S : sd_St) (H : Heap) (locs : List Loc) (ls : Array Slot), f_X12_hasWord_b20 x2 w1 w2 S = some (r, S') → sd_H D cy ad A s S H locs → lv_has ls 3 [(2, .int x2)] → W p l e (sd_rm 1) s m args below meth c H locs 0 0 (MQ below (sd_Qi D cy ad A r S') args s 0 0 A) (F0 m 20 ls [.int w2, .int w1, .ref (ad 130)]) := by
  obtain ⟨hx, hb, -, hml, hown, hts, -, hG⟩ := id C
  intro x2 w1 w2 S H locs ls h X hl
  unfold f_X12_hasWord_b20 at h
  refine lv_iadd hx hb dX12_hasWord_20 ?_
  obtain ⟨S_1, eS_1, h⟩ := sd_nm_some h
  refine sd_p12_7 C X (by decide) sd_w18_22 dX12_hasWord_21 (fun H locs X => ?_)
  rw [← eS_1] at X
  refine lv_iload_n hx hb dX12_hasWord_24 rfl (lv_at hl 0 rfl) ?_
  obtain ⟨z_2, h⟩ := sd_ckz_some h
  cases h
  exact sd_zret C X z_2 dX12_hasWord_25
def f_X12_hasWord (x1 : Int32) (S : sd_St) : Option (Int32 × sd_St) := sd_cl (f_X12_isWord x1 S) (fun r_4 S_3 => (if r_4 = 0 then f_X12_hasWord_b20 r_4 (S_3.1 130 7) (0 : Int32) S_3 else f_X12_hasWord_b20 r_4 (S_3.1 130 7) (1 : Int32) S_3))
set_option maxHeartbeats 4000000 in
set_option maxRecDepth 100000 in
theorem c_X12_hasWord {x1 : Int32} {S S' : sd_St} {r : Int32} (h : f_X12_hasWord x1 S = some (r, S')) : Met l yX12_hasWord (Cond.code yX12_hasWord cX12_hasWord 3 (some .boolean) :: sd_wl) (sd_rm 1) (sd_P D cy ad A b0 [.ref (ad 130), .int x1] S) (sd_Qi D cy ad A r S') 0 0 A := by
  refine sd_met (by decide) (Nat.le_of_ble_eq_true rfl) (fun p e s m args below meth c ls C X hl => ?_)
  obtain ⟨hx, hb, -, hml, hown, hts, -, hG⟩ := id C
  replace C : sd_C RX12 cX12_hasWord 3 (some .boolean) D cy ad A b0 p s m args meth c := C
  replace hl : lv_has ls 3 [(0, .ref (ad 130)), (1, .int x1)] := hl
  unfold f_X12_hasWord at h
  refine lv_aload_n hx hb dX12_hasWord_0 rfl (lv_at hl 0 rfl) ?_
  refine lv_iload_n hx hb dX12_hasWord_1 rfl (lv_at hl 1 rfl) ?_
  obtain ⟨r_4, S_3, er_4, h⟩ := sd_cl_some h
  refine k_X12_isWord C X hl.1 er_4 sd_w19_23 (by decide) (Nat.le_of_ble_eq_true rfl) dX12_hasWord_2 (fun H locs X => ?_)
  refine lv_istore_n (lv' := [(2, .int r_4), (0, .ref (ad 130)), (1, .int x1)]) hx hb dX12_hasWord_5 rfl hl (by decide) rfl (fun ls hl => ?_)
  refine lv_aload_n hx hb dX12_hasWord_6 rfl (lv_at hl 1 rfl) ?_
  refine lv_dup hx hb dX12_hasWord_7 rfl ?_
  refine sd_g12_7 C X (by decide) sd_w18_22 dX12_hasWord_8 ?_
  refine lv_iload_n hx hb dX12_hasWord_11 rfl (lv_at hl 0 rfl) ?_
  refine lv_if_eq (tgt := 19) hx hb dX12_hasWord_12 (by decide) (fun c_5 => ?_) (fun c_5 => ?_)
  · have h := sd_ifp c_5 h
    refine lv_iconst (v := (0 : Int32)) hx hb dX12_hasWord_19 (by decide) ?_
    exact t_X12_hasWord_b20 C r_4 (S_3.1 130 7) (0 : Int32) S_3 _ _ _ h X (lv_sub hl [0] rfl)
  · have h := sd_ifn c_5 h
    refine lv_iconst (v := (1 : Int32)) hx hb dX12_hasWord_15 (by decide) ?_
    refine lv_goto (tgt := 20) hx hb dX12_hasWord_16 (by decide) ?_
    exact t_X12_hasWord_b20 C r_4 (S_3.1 130 7) (1 : Int32) S_3 _ _ _ h X (lv_sub hl [0] rfl)
theorem k_X12_hasWord (C : sd_C own cc nL rt D cy ad A b0 p s m args meth c) (X : sd_H D cy ad A s S H locs) (hls : ls.size = nL) {x1 : Int32} {S2 : sd_St} {r : Int32} (h : f_X12_hasWord x1 S = some (r, S2)) (hlink : Cond.methodLink own index yX12_hasWord ∈ sd_wl) (hR : 2 ≤ R.frames ∧ 62 ≤ R.locals ∧ cells ≤ R.cells ∧ slots ≤ R.slots) (hst : (rest.map fun v => v.category).sum ≤ 8) (hdg : decode cc pc = .ok (.invokevirtual index, 3)) (kk : ∀ (H1 : Heap) (locs1 : List Loc), sd_H D cy ad A s S2 H1 locs1 → W p l e R s m args below meth c H1 locs1 cells slots Q (F0 m (pc + 3) ls (.int r :: rest))) : W p l e R s m args below meth c H locs cells slots Q (F0 m pc ls (.int x1 :: .ref (ad 130) :: rest)) :=
  sd_goI X (sd_runV C X hls (n := 1) (k := 130) (As := [.int x1]) (c_X12_hasWord (l := l) (b0 := b0) h) (sd_goodV hlink sd_w21_12 sd_w21_13 sd_w1_5 sd_w21_14) (ci := 12) rfl (by rw [(show sd_kd 130 = 12 by decide)]; decide) (sd_c12 (show sd_kd 130 = 12 by decide)) (by decide +kernel) rfl hR rfl hst hdg) kk
/-! ===== SecretDaysModel.takeWord(I)V ===== -/
def f_X12_takeWord (x1 : Int32) (S : sd_St) : Option (Unit × sd_St) := sd_cl (f_X12_hasWord x1 S) (fun r_2 S_1 => (if r_2 = 0 then sd_cl (f_X12_errs (1 : Int32) S_1) (fun _ S_4 => (some ((), S_4))) else (some ((), S_1))))
set_option maxHeartbeats 4000000 in
set_option maxRecDepth 100000 in
theorem c_X12_takeWord {x1 : Int32} {S S' : sd_St} (h : f_X12_takeWord x1 S = some ((), S')) : Met l yX12_takeWord (Cond.code yX12_takeWord cX12_takeWord 2 none :: sd_wl) (sd_rm 2) (sd_P D cy ad A b0 [.ref (ad 130), .int x1] S) (sd_Qv D cy ad A S') 0 0 A := by
  refine sd_met (by decide) (Nat.le_of_ble_eq_true rfl) (fun p e s m args below meth c ls C X hl => ?_)
  obtain ⟨hx, hb, -, hml, hown, hts, -, hG⟩ := id C
  replace C : sd_C RX12 cX12_takeWord 2 none D cy ad A b0 p s m args meth c := C
  replace hl : lv_has ls 2 [(0, .ref (ad 130)), (1, .int x1)] := hl
  unfold f_X12_takeWord at h
  refine lv_aload_n hx hb dX12_takeWord_0 rfl (lv_at hl 0 rfl) ?_
  refine lv_iload_n hx hb dX12_takeWord_1 rfl (lv_at hl 1 rfl) ?_
  obtain ⟨r_2, S_1, er_2, h⟩ := sd_cl_some h
  refine k_X12_hasWord C X hl.1 er_2 sd_w21_11 (by decide) (Nat.le_of_ble_eq_true rfl) dX12_takeWord_2 (fun H locs X => ?_)
  refine lv_if_ne (tgt := 13) hx hb dX12_takeWord_5 (by decide) (fun c_3 => ?_) (fun c_3 => ?_)
  · have h := sd_ifn c_3 h
    cases h
    exact sd_vret C X dX12_takeWord_13
  · have h := sd_ifp c_3 h
    refine lv_aload_n hx hb dX12_takeWord_8 rfl (lv_at hl 0 rfl) ?_
    refine lv_iconst (v := (1 : Int32)) hx hb dX12_takeWord_9 (by decide) ?_
    obtain ⟨r_5, S_4, er_5, h⟩ := sd_cl_some h
    refine k_X12_errs C X hl.1 er_5 sd_w20_7 (by decide) (Nat.le_of_ble_eq_true rfl) dX12_takeWord_10 (fun H locs X => ?_)
    cases h
    exact sd_vret C X dX12_takeWord_13
theorem k_X12_takeWord (C : sd_C own cc nL rt D cy ad A b0 p s m args meth c) (X : sd_H D cy ad A s S H locs) (hls : ls.size = nL) {x1 : Int32} {S2 : sd_St} (h : f_X12_takeWord x1 S = some ((), S2)) (hlink : Cond.methodLink own index yX12_takeWord ∈ sd_wl) (hR : 3 ≤ R.frames ∧ 101 ≤ R.locals ∧ cells ≤ R.cells ∧ slots ≤ R.slots) (hst : (rest.map fun v => v.category).sum ≤ 8) (hdg : decode cc pc = .ok (.invokevirtual index, 3)) (kk : ∀ (H1 : Heap) (locs1 : List Loc), sd_H D cy ad A s S2 H1 locs1 → W p l e R s m args below meth c H1 locs1 cells slots Q (F0 m (pc + 3) ls rest)) : W p l e R s m args below meth c H locs cells slots Q (F0 m pc ls (.int x1 :: .ref (ad 130) :: rest)) :=
  sd_goV X (sd_runV C X hls (n := 1) (k := 130) (As := [.int x1]) (c_X12_takeWord (l := l) (b0 := b0) h) (sd_goodV hlink sd_w21_8 sd_w21_9 sd_w1_5 sd_w21_10) (ci := 12) rfl (by rw [(show sd_kd 130 = 12 by decide)]; decide) (sd_c12 (show sd_kd 130 = 12 by decide)) (by decide +kernel) rfl hR rfl hst hdg) kk
/-! ===== SecretDaysModel.within(III)Z ===== -/
def f_X12_within (x0 : Int32) (x1 : Int32) (x2 : Int32) (S : sd_St) : Option (Int32 × sd_St) := (if x0 < x1 then (some ((0 : Int32), S)) else (if x2 < x0 then (some ((0 : Int32), S)) else (some ((1 : Int32), S))))
set_option maxHeartbeats 4000000 in
set_option maxRecDepth 100000 in
theorem c_X12_within {x0 : Int32} {x1 : Int32} {x2 : Int32} {S S' : sd_St} {r : Int32} (h : f_X12_within x0 x1 x2 S = some (r, S')) : Met l yX12_within (Cond.code yX12_within cX12_within 3 (some .boolean) :: sd_wl) (sd_rm 0) (sd_P D cy ad A b0 [.int x0, .int x1, .int x2] S) (sd_Qi D cy ad A r S') 0 0 A := by
  refine sd_met (by decide) (Nat.le_of_ble_eq_true rfl) (fun p e s m args below meth c ls C X hl => ?_)
  obtain ⟨hx, hb, -, hml, hown, hts, -, hG⟩ := id C
  replace C : sd_C RX12 cX12_within 3 (some .boolean) D cy ad A b0 p s m args meth c := C
  replace hl : lv_has ls 3 [(0, .int x0), (1, .int x1), (2, .int x2)] := hl
  unfold f_X12_within at h
  refine lv_iload_n hx hb dX12_within_0 rfl (lv_at hl 0 rfl) ?_
  refine lv_iload_n hx hb dX12_within_1 rfl (lv_at hl 1 rfl) ?_
  refine lv_icmp_lt (tgt := 14) hx hb dX12_within_2 (by decide) (fun c_1 => ?_) (fun c_1 => ?_)
  · have h := sd_ifp c_1 h
    refine lv_iconst (v := (0 : Int32)) hx hb dX12_within_14 (by decide) ?_
    cases h
    exact sd_zret C X (by decide) dX12_within_15
  · have h := sd_ifn c_1 h
    refine lv_iload_n hx hb dX12_within_5 rfl (lv_at hl 0 rfl) ?_
    refine lv_iload_n hx hb dX12_within_6 rfl (lv_at hl 2 rfl) ?_
    refine lv_icmp_gt (tgt := 14) hx hb dX12_within_7 (by decide) (fun c_2 => ?_) (fun c_2 => ?_)
    · have h := sd_ifp c_2 h
      refine lv_iconst (v := (0 : Int32)) hx hb dX12_within_14 (by decide) ?_
      cases h
      exact sd_zret C X (by decide) dX12_within_15
    · have h := sd_ifn c_2 h
      refine lv_iconst (v := (1 : Int32)) hx hb dX12_within_10 (by decide) ?_
      refine lv_goto (tgt := 15) hx hb dX12_within_11 (by decide) ?_
      cases h
      exact sd_zret C X (by decide) dX12_within_15
theorem k_X12_within (C : sd_C own cc nL rt D cy ad A b0 p s m args meth c) (X : sd_H D cy ad A s S H locs) (hls : ls.size = nL) {x0 : Int32} {x1 : Int32} {x2 : Int32} {S2 : sd_St} {r : Int32} (h : f_X12_within x0 x1 x2 S = some (r, S2)) (hlink : Cond.methodLink own index yX12_within ∈ sd_wl) (hR : 1 ≤ R.frames ∧ 22 ≤ R.locals ∧ cells ≤ R.cells ∧ slots ≤ R.slots) (hst : (rest.map fun v => v.category).sum ≤ 8) (hdg : decode cc pc = .ok (.invokestatic index, 3)) (kk : ∀ (H1 : Heap) (locs1 : List Loc), sd_H D cy ad A s S2 H1 locs1 → W p l e R s m args below meth c H1 locs1 cells slots Q (F0 m (pc + 3) ls (.int r :: rest))) : W p l e R s m args below meth c H locs cells slots Q (F0 m pc ls (.int x2 :: .int x1 :: .int x0 :: rest)) :=
  sd_goI X (sd_runJ C X hls (n := 3) (As := [.int x0, .int x1, .int x2]) (c_X12_within (l := l) (b0 := b0) h) hlink sd_w24_23 sd_w1_5 sd_w25_0 (by decide +kernel) rfl hR rfl hst hdg) kk
/-! ===== SecretDaysModel.takeNumber(II)I ===== -/
def f_X12_takeNumber_b70 (S : sd_St) : Option (Int32 × sd_St) := (if (S.1 130 8) ≤ 0 then sd_nm (sd_I S 130 7 ((S.1 130 7) + (1 : Int32))) (fun S_2 => sd_ldl S_2 134 ((S_2.1 130 7) - (1 : Int32)) (fun v_3 => (some ((v_3.toInt32), S_2)))) else (some ((0 : Int32), S)))
set_option maxHeartbeats 4000000 in
set_option maxRecDepth 100000 in
theorem t_X12_takeNumber_b70 (C : sd_C RX12 cX12_takeNumber 3 (some .int) D cy ad A b0 p s m args meth c) {r : Int32} {S' : sd_St} : ∀ (S : sd_St) (H : Heap) (locs : List Loc) (ls : Array Slot), f_X12_takeNumber_b70 S = some (r, S') → sd_H D cy ad A s S H locs → lv_has ls 3 [(0, .ref (ad 130))] → W p l e (sd_rm 1) s m args below meth c H locs 0 0 (MQ below (sd_Qi D cy ad A r S') args s 0 0 A) (F0 m 70 ls []) := by
  obtain ⟨hx, hb, -, hml, hown, hts, -, hG⟩ := id C
  intro S H locs ls h X hl
  unfold f_X12_takeNumber_b70 at h
  refine lv_aload_n hx hb dX12_takeNumber_70 rfl (lv_at hl 0 rfl) ?_
  refine sd_g12_8 C X (by decide) sd_w18_21 dX12_takeNumber_71 ?_
  refine lv_if_le (tgt := 79) hx hb dX12_takeNumber_74 (by decide) (fun c_1 => ?_) (fun c_1 => ?_)
  · have h := sd_ifp c_1 h
    refine lv_aload_n hx hb dX12_takeNumber_79 rfl (lv_at hl 0 rfl) ?_
    refine lv_dup hx hb dX12_takeNumber_80 rfl ?_
    refine sd_g12_7 C X (by decide) sd_w18_22 dX12_takeNumber_81 ?_
    refine lv_iconst (v := (1 : Int32)) hx hb dX12_takeNumber_84 (by decide) ?_
    refine lv_iadd hx hb dX12_takeNumber_85 ?_
    obtain ⟨S_2, eS_2, h⟩ := sd_nm_some h
    refine sd_p12_7 C X (by decide) sd_w18_22 dX12_takeNumber_86 (fun H locs X => ?_)
    rw [← eS_2] at X
    refine lv_aload_n hx hb dX12_takeNumber_89 rfl (lv_at hl 0 rfl) ?_
    refine sd_g12_6 (k := 130) C X (by decide) sd_w7_16 dX12_takeNumber_90 ?_
    refine lv_aload_n hx hb dX12_takeNumber_93 rfl (lv_at hl 0 rfl) ?_
    refine sd_g12_7 C X (by decide) sd_w18_22 dX12_takeNumber_94 ?_
    refine lv_iconst (v := (1 : Int32)) hx hb dX12_takeNumber_97 (by decide) ?_
    refine lv_isub hx hb dX12_takeNumber_98 ?_
    obtain ⟨b_3, v_3, e_3, h⟩ := sd_ldl_some h
    refine sd_lald C X (by decide) b_3 dX12_takeNumber_99 (sd_nml e_3 ?_)
    refine lv_l2i (v := v_3.toInt32) hx hb dX12_takeNumber_100 rfl ?_
    cases h
    exact sd_iret C X dX12_takeNumber_101
  · have h := sd_ifn c_1 h
    refine lv_iconst (v := (0 : Int32)) hx hb dX12_takeNumber_77 (by decide) ?_
    cases h
    exact sd_iret C X dX12_takeNumber_78
def f_X12_takeNumber_b65 (S : sd_St) : Option (Int32 × sd_St) := sd_cl (f_X12_errs (4 : Int32) S) (fun _ S_4 => f_X12_takeNumber_b70 S_4)
set_option maxHeartbeats 4000000 in
set_option maxRecDepth 100000 in
theorem t_X12_takeNumber_b65 (C : sd_C RX12 cX12_takeNumber 3 (some .int) D cy ad A b0 p s m args meth c) {r : Int32} {S' : sd_St} : ∀ (S : sd_St) (H : Heap) (locs : List Loc) (ls : Array Slot), f_X12_takeNumber_b65 S = some (r, S') → sd_H D cy ad A s S H locs → lv_has ls 3 [(0, .ref (ad 130))] → W p l e (sd_rm 1) s m args below meth c H locs 0 0 (MQ below (sd_Qi D cy ad A r S') args s 0 0 A) (F0 m 65 ls []) := by
  obtain ⟨hx, hb, -, hml, hown, hts, -, hG⟩ := id C
  intro S H locs ls h X hl
  unfold f_X12_takeNumber_b65 at h
  refine lv_aload_n hx hb dX12_takeNumber_65 rfl (lv_at hl 0 rfl) ?_
  refine lv_iconst (v := (4 : Int32)) hx hb dX12_takeNumber_66 (by decide) ?_
  obtain ⟨r_5, S_4, er_5, h⟩ := sd_cl_some h
  refine k_X12_errs C X hl.1 er_5 sd_w20_7 (by decide) (Nat.le_of_ble_eq_true rfl) dX12_takeNumber_67 (fun H locs X => ?_)
  exact t_X12_takeNumber_b70 C S_4 _ _ _ h X (lv_sub hl [0] rfl)
def f_X12_takeNumber_b28 (x1 : Int32) (x2 : Int32) (S : sd_St) : Option (Int32 × sd_St) := (if (S.1 130 8) = 0 then sd_ldl S 134 (S.1 130 7) (fun v_7 => (if (lg_cmp v_7 (x1.toInt64)) < 0 then f_X12_takeNumber_b65 S else sd_ldl S 134 (S.1 130 7) (fun v_9 => (if (lg_cmp v_9 (x2.toInt64)) ≤ 0 then f_X12_takeNumber_b70 S else f_X12_takeNumber_b65 S)))) else f_X12_takeNumber_b70 S)
set_option maxHeartbeats 4000000 in
set_option maxRecDepth 100000 in
theorem t_X12_takeNumber_b28 (C : sd_C RX12 cX12_takeNumber 3 (some .int) D cy ad A b0 p s m args meth c) {r : Int32} {S' : sd_St} : ∀ (x1 : Int32) (x2 : Int32) (S : sd_St) (H : Heap) (locs : List Loc) (ls : Array Slot), f_X12_takeNumber_b28 x1 x2 S = some (r, S') → sd_H D cy ad A s S H locs → lv_has ls 3 [(0, .ref (ad 130)), (1, .int x1), (2, .int x2)] → W p l e (sd_rm 1) s m args below meth c H locs 0 0 (MQ below (sd_Qi D cy ad A r S') args s 0 0 A) (F0 m 28 ls []) := by
  obtain ⟨hx, hb, -, hml, hown, hts, -, hG⟩ := id C
  intro x1 x2 S H locs ls h X hl
  unfold f_X12_takeNumber_b28 at h
  refine lv_aload_n hx hb dX12_takeNumber_28 rfl (lv_at hl 0 rfl) ?_
  refine sd_g12_8 C X (by decide) sd_w18_21 dX12_takeNumber_29 ?_
  refine lv_if_ne (tgt := 70) hx hb dX12_takeNumber_32 (by decide) (fun c_6 => ?_) (fun c_6 => ?_)
  · have h := sd_ifn c_6 h
    exact t_X12_takeNumber_b70 C S _ _ _ h X (lv_sub hl [0] rfl)
  · have h := sd_ifp c_6 h
    refine lv_aload_n hx hb dX12_takeNumber_35 rfl (lv_at hl 0 rfl) ?_
    refine sd_g12_6 (k := 130) C X (by decide) sd_w7_16 dX12_takeNumber_36 ?_
    refine lv_aload_n hx hb dX12_takeNumber_39 rfl (lv_at hl 0 rfl) ?_
    refine sd_g12_7 C X (by decide) sd_w18_22 dX12_takeNumber_40 ?_
    obtain ⟨b_7, v_7, e_7, h⟩ := sd_ldl_some h
    refine sd_lald C X (by decide) b_7 dX12_takeNumber_43 (sd_nml e_7 ?_)
    refine lv_iload_n hx hb dX12_takeNumber_44 rfl (lv_at hl 1 rfl) ?_
    refine lv_i2l (v := x1.toInt64) hx hb dX12_takeNumber_45 rfl ?_
    refine W.lcmp hx hb dX12_takeNumber_46 ?_
    refine lv_if_lt (tgt := 65) hx hb dX12_takeNumber_47 (by decide) (fun c_8 => ?_) (fun c_8 => ?_)
    · have h := sd_ifp c_8 h
      exact t_X12_takeNumber_b65 C S _ _ _ h X (lv_sub hl [0] rfl)
    · have h := sd_ifn c_8 h
      refine lv_aload_n hx hb dX12_takeNumber_50 rfl (lv_at hl 0 rfl) ?_
      refine sd_g12_6 (k := 130) C X (by decide) sd_w7_16 dX12_takeNumber_51 ?_
      refine lv_aload_n hx hb dX12_takeNumber_54 rfl (lv_at hl 0 rfl) ?_
      refine sd_g12_7 C X (by decide) sd_w18_22 dX12_takeNumber_55 ?_
      obtain ⟨b_9, v_9, e_9, h⟩ := sd_ldl_some h
      refine sd_lald C X (by decide) b_9 dX12_takeNumber_58 (sd_nml e_9 ?_)
      refine lv_iload_n hx hb dX12_takeNumber_59 rfl (lv_at hl 2 rfl) ?_
      refine lv_i2l (v := x2.toInt64) hx hb dX12_takeNumber_60 rfl ?_
      refine W.lcmp hx hb dX12_takeNumber_61 ?_
      refine lv_if_le (tgt := 70) hx hb dX12_takeNumber_62 (by decide) (fun c_10 => ?_) (fun c_10 => ?_)
      · have h := sd_ifp c_10 h
        exact t_X12_takeNumber_b70 C S _ _ _ h X (lv_sub hl [0] rfl)
      · have h := sd_ifn c_10 h
        exact t_X12_takeNumber_b65 C S _ _ _ h X (lv_sub hl [0] rfl)
def f_X12_takeNumber (x1 : Int32) (x2 : Int32) (S : sd_St) : Option (Int32 × sd_St) := (if (S.1 130 8) = 0 then sd_ld S 132 (S.1 130 7) (fun v_12 => (if v_12 = (2 : Int32) then f_X12_takeNumber_b28 x1 x2 S else sd_cl (f_X12_errs (1 : Int32) S) (fun _ S_14 => f_X12_takeNumber_b70 S_14))) else f_X12_takeNumber_b28 x1 x2 S)
set_option maxHeartbeats 4000000 in
set_option maxRecDepth 100000 in
theorem c_X12_takeNumber {x1 : Int32} {x2 : Int32} {S S' : sd_St} {r : Int32} (h : f_X12_takeNumber x1 x2 S = some (r, S')) : Met l yX12_takeNumber (Cond.code yX12_takeNumber cX12_takeNumber 3 (some .int) :: sd_wl) (sd_rm 1) (sd_P D cy ad A b0 [.ref (ad 130), .int x1, .int x2] S) (sd_Qi D cy ad A r S') 0 0 A := by
  refine sd_met (by decide) (Nat.le_of_ble_eq_true rfl) (fun p e s m args below meth c ls C X hl => ?_)
  obtain ⟨hx, hb, -, hml, hown, hts, -, hG⟩ := id C
  replace C : sd_C RX12 cX12_takeNumber 3 (some .int) D cy ad A b0 p s m args meth c := C
  replace hl : lv_has ls 3 [(0, .ref (ad 130)), (1, .int x1), (2, .int x2)] := hl
  unfold f_X12_takeNumber at h
  refine lv_aload_n hx hb dX12_takeNumber_0 rfl (lv_at hl 0 rfl) ?_
  refine sd_g12_8 C X (by decide) sd_w18_21 dX12_takeNumber_1 ?_
  refine lv_if_ne (tgt := 28) hx hb dX12_takeNumber_4 (by decide) (fun c_11 => ?_) (fun c_11 => ?_)
  · have h := sd_ifn c_11 h
    exact t_X12_takeNumber_b28 C x1 x2 S _ _ _ h X (lv_sub hl [0, 1, 2] rfl)
  · have h := sd_ifp c_11 h
    refine lv_aload_n hx hb dX12_takeNumber_7 rfl (lv_at hl 0 rfl) ?_
    refine sd_g12_4 (k := 130) C X (by decide) sd_w7_14 dX12_takeNumber_8 ?_
    refine lv_aload_n hx hb dX12_takeNumber_11 rfl (lv_at hl 0 rfl) ?_
    refine sd_g12_7 C X (by decide) sd_w18_22 dX12_takeNumber_12 ?_
    obtain ⟨b_12, v_12, e_12, h⟩ := sd_ld_some h
    refine sd_iald C X (by decide) b_12 dX12_takeNumber_15 (sd_nmi e_12 ?_)
    refine lv_iconst (v := (2 : Int32)) hx hb dX12_takeNumber_16 (by decide) ?_
    refine lv_icmp_eq (tgt := 28) hx hb dX12_takeNumber_17 (by decide) (fun c_13 => ?_) (fun c_13 => ?_)
    · have h := sd_ifp c_13 h
      exact t_X12_takeNumber_b28 C x1 x2 S _ _ _ h X (lv_sub hl [0, 1, 2] rfl)
    · have h := sd_ifn c_13 h
      refine lv_aload_n hx hb dX12_takeNumber_20 rfl (lv_at hl 0 rfl) ?_
      refine lv_iconst (v := (1 : Int32)) hx hb dX12_takeNumber_21 (by decide) ?_
      obtain ⟨r_15, S_14, er_15, h⟩ := sd_cl_some h
      refine k_X12_errs C X hl.1 er_15 sd_w20_7 (by decide) (Nat.le_of_ble_eq_true rfl) dX12_takeNumber_22 (fun H locs X => ?_)
      refine lv_goto (tgt := 70) hx hb dX12_takeNumber_25 (by decide) ?_
      exact t_X12_takeNumber_b70 C S_14 _ _ _ h X (lv_sub hl [0] rfl)
theorem k_X12_takeNumber (C : sd_C own cc nL rt D cy ad A b0 p s m args meth c) (X : sd_H D cy ad A s S H locs) (hls : ls.size = nL) {x1 : Int32} {x2 : Int32} {S2 : sd_St} {r : Int32} (h : f_X12_takeNumber x1 x2 S = some (r, S2)) (hlink : Cond.methodLink own index yX12_takeNumber ∈ sd_wl) (hR : 2 ≤ R.frames ∧ 62 ≤ R.locals ∧ cells ≤ R.cells ∧ slots ≤ R.slots) (hst : (rest.map fun v => v.category).sum ≤ 8) (hdg : decode cc pc = .ok (.invokevirtual index, 3)) (kk : ∀ (H1 : Heap) (locs1 : List Loc), sd_H D cy ad A s S2 H1 locs1 → W p l e R s m args below meth c H1 locs1 cells slots Q (F0 m (pc + 3) ls (.int r :: rest))) : W p l e R s m args below meth c H locs cells slots Q (F0 m pc ls (.int x2 :: .int x1 :: .ref (ad 130) :: rest)) :=
  sd_goI X (sd_runV C X hls (n := 2) (k := 130) (As := [.int x1, .int x2]) (c_X12_takeNumber (l := l) (b0 := b0) h) (sd_goodV hlink sd_w20_12 sd_w20_13 sd_w1_5 sd_w20_14) (ci := 12) rfl (by rw [(show sd_kd 130 = 12 by decide)]; decide) (sd_c12 (show sd_kd 130 = 12 by decide)) (by decide +kernel) rfl hR rfl hst hdg) kk
/-! ===== SecretDaysModel.isName()Z ===== -/
def f_X12_isName_b62 (q28 : (Int32 → Int32 → sd_St → Option (Int32 × sd_St))) (x2 : Int32) (w0 : Int32) (S : sd_St) : Option (Int32 × sd_St) := q28 w0 (x2 + (1 : Int32)) S
set_option maxHeartbeats 4000000 in
set_option maxRecDepth 100000 in
theorem t_X12_isName_b62 (C : sd_C RX12 cX12_isName 3 (some .boolean) D cy ad A b0 p s m args meth c) {r : Int32} {S' : sd_St} {q28 : (Int32 → Int32 → sd_St → Option (Int32 × sd_St))} (hq28 : ∀ (x1 : Int32) (x2 : Int32) (S : sd_St) (H : Heap) (locs : List Loc) (ls : Array Slot), q28 x1 x2 S = some (r, S') → sd_H D cy ad A s S H locs → lv_has ls 3 [(0, .ref (ad 130)), (1, .int x1), (2, .int x2)] → W p l e (sd_rm 0) s m args below meth c H locs 0 0 (MQ below (sd_Qi D cy ad A r S') args s 0 0 A) (F0 m 28 ls [])) : ∀ (x2 : Int32) (w0 : Int32) (S : sd_St) (H : Heap) (locs : List Loc) (ls : Array Slot), f_X12_isName_b62 q28 x2 w0 S = some (r, S') → sd_H D cy ad A s S H locs → lv_has ls 3 [(0, .ref (ad 130)), (2, .int x2)] → W p l e (sd_rm 0) s m args below meth c H locs 0 0 (MQ below (sd_Qi D cy ad A r S') args s 0 0 A) (F0 m 62 ls [.int w0]) := by
  obtain ⟨hx, hb, -, hml, hown, hts, -, hG⟩ := id C
  intro x2 w0 S H locs ls h X hl
  unfold f_X12_isName_b62 at h
  refine lv_istore_n (lv' := [(1, .int w0), (0, .ref (ad 130)), (2, .int x2)]) hx hb dX12_isName_62 rfl hl (by decide) rfl (fun ls hl => ?_)
  refine lv_iinc (v := (x2 + (1 : Int32))) (lv' := [(2, .int (x2 + (1 : Int32))), (1, .int w0), (0, .ref (ad 130))]) hx hb dX12_isName_63 hl (k := 2) rfl rfl (by decide) rfl (fun ls hl => ?_)
  refine lv_goto (tgt := 28) hx hb dX12_isName_66 (by decide) ?_
  exact hq28 w0 (x2 + (1 : Int32)) S _ _ _ h X (lv_sub hl [2, 1, 0] rfl)
def f_X12_isName_b61 (q28 : (Int32 → Int32 → sd_St → Option (Int32 × sd_St))) (x2 : Int32) (S : sd_St) : Option (Int32 × sd_St) := f_X12_isName_b62 q28 x2 (0 : Int32) S
set_option maxHeartbeats 4000000 in
set_option maxRecDepth 100000 in
theorem t_X12_isName_b61 (C : sd_C RX12 cX12_isName 3 (some .boolean) D cy ad A b0 p s m args meth c) {r : Int32} {S' : sd_St} {q28 : (Int32 → Int32 → sd_St → Option (Int32 × sd_St))} (hq28 : ∀ (x1 : Int32) (x2 : Int32) (S : sd_St) (H : Heap) (locs : List Loc) (ls : Array Slot), q28 x1 x2 S = some (r, S') → sd_H D cy ad A s S H locs → lv_has ls 3 [(0, .ref (ad 130)), (1, .int x1), (2, .int x2)] → W p l e (sd_rm 0) s m args below meth c H locs 0 0 (MQ below (sd_Qi D cy ad A r S') args s 0 0 A) (F0 m 28 ls [])) : ∀ (x2 : Int32) (S : sd_St) (H : Heap) (locs : List Loc) (ls : Array Slot), f_X12_isName_b61 q28 x2 S = some (r, S') → sd_H D cy ad A s S H locs → lv_has ls 3 [(0, .ref (ad 130)), (2, .int x2)] → W p l e (sd_rm 0) s m args below meth c H locs 0 0 (MQ below (sd_Qi D cy ad A r S') args s 0 0 A) (F0 m 61 ls []) := by
  obtain ⟨hx, hb, -, hml, hown, hts, -, hG⟩ := id C
  intro x2 S H locs ls h X hl
  unfold f_X12_isName_b61 at h
  refine lv_iconst (v := (0 : Int32)) hx hb dX12_isName_61 (by decide) ?_
  exact t_X12_isName_b62 C hq28 x2 (0 : Int32) S _ _ _ h X (lv_sub hl [0, 1] rfl)
def f_X12_isName_l28 : Nat → Int32 → Int32 → sd_St → Option (Int32 × sd_St)
  | 0 => fun _ _ _ => none
  | n + 1 => fun x1 x2 S => (if (14 : Int32) ≤ x2 then (sd_ckz x1 (some (x1, S))) else (if x1 = 0 then f_X12_isName_b61 (f_X12_isName_l28 n) x2 S else sd_ldl S 134 (S.1 130 7) (fun v_4 => sd_ldl S 135 x2 (fun v_5 => (if (lg_cmp v_4 v_5) = 0 then f_X12_isName_b61 (f_X12_isName_l28 n) x2 S else f_X12_isName_b62 (f_X12_isName_l28 n) x2 (1 : Int32) S)))))
set_option maxHeartbeats 4000000 in
set_option maxRecDepth 100000 in
theorem t_X12_isName_l28 (C : sd_C RX12 cX12_isName 3 (some .boolean) D cy ad A b0 p s m args meth c) {r : Int32} {S' : sd_St} : ∀ (n : Nat) (x1 : Int32) (x2 : Int32) (S : sd_St) (H : Heap) (locs : List Loc) (ls : Array Slot), f_X12_isName_l28 n x1 x2 S = some (r, S') → sd_H D cy ad A s S H locs → lv_has ls 3 [(0, .ref (ad 130)), (1, .int x1), (2, .int x2)] → W p l e (sd_rm 0) s m args below meth c H locs 0 0 (MQ below (sd_Qi D cy ad A r S') args s 0 0 A) (F0 m 28 ls []) := by
  obtain ⟨hx, hb, -, hml, hown, hts, -, hG⟩ := id C
  intro n
  induction n with
  | zero => intro x1 x2 S H locs ls h; cases h
  | succ n ih =>
    intro x1 x2 S H locs ls h X hl
    unfold f_X12_isName_l28 at h
    refine lv_iload_n hx hb dX12_isName_28 rfl (lv_at hl 2 rfl) ?_
    refine lv_bipush (v := (14 : Int32)) hx hb dX12_isName_29 (by decide) ?_
    refine lv_icmp_ge (tgt := 69) hx hb dX12_isName_31 (by decide) (fun c_1 => ?_) (fun c_1 => ?_)
    · have h := sd_ifp c_1 h
      refine lv_iload_n hx hb dX12_isName_69 rfl (lv_at hl 1 rfl) ?_
      obtain ⟨z_2, h⟩ := sd_ckz_some h
      cases h
      exact sd_zret C X z_2 dX12_isName_70
    · have h := sd_ifn c_1 h
      refine lv_iload_n hx hb dX12_isName_34 rfl (lv_at hl 1 rfl) ?_
      refine lv_if_eq (tgt := 61) hx hb dX12_isName_35 (by decide) (fun c_3 => ?_) (fun c_3 => ?_)
      · have h := sd_ifp c_3 h
        exact t_X12_isName_b61 C ih x2 S _ _ _ h X (lv_sub hl [0, 2] rfl)
      · have h := sd_ifn c_3 h
        refine lv_aload_n hx hb dX12_isName_38 rfl (lv_at hl 0 rfl) ?_
        refine sd_g12_6 (k := 130) C X (by decide) sd_w7_16 dX12_isName_39 ?_
        refine lv_aload_n hx hb dX12_isName_42 rfl (lv_at hl 0 rfl) ?_
        refine sd_g12_7 C X (by decide) sd_w18_22 dX12_isName_43 ?_
        obtain ⟨b_4, v_4, e_4, h⟩ := sd_ldl_some h
        refine sd_lald C X (by decide) b_4 dX12_isName_46 (sd_nml e_4 ?_)
        refine lv_aload_n hx hb dX12_isName_47 rfl (lv_at hl 0 rfl) ?_
        refine sd_g12_9 (k := 130) C X (by decide) sd_w8_7 dX12_isName_48 ?_
        refine lv_iload_n hx hb dX12_isName_51 rfl (lv_at hl 2 rfl) ?_
        obtain ⟨b_5, v_5, e_5, h⟩ := sd_ldl_some h
        refine sd_lald C X (by decide) b_5 dX12_isName_52 (sd_nml e_5 ?_)
        refine W.lcmp hx hb dX12_isName_53 ?_
        refine lv_if_eq (tgt := 61) hx hb dX12_isName_54 (by decide) (fun c_6 => ?_) (fun c_6 => ?_)
        · have h := sd_ifp c_6 h
          exact t_X12_isName_b61 C ih x2 S _ _ _ h X (lv_sub hl [0, 2] rfl)
        · have h := sd_ifn c_6 h
          refine lv_iconst (v := (1 : Int32)) hx hb dX12_isName_57 (by decide) ?_
          refine lv_goto (tgt := 62) hx hb dX12_isName_58 (by decide) ?_
          exact t_X12_isName_b62 C ih x2 (1 : Int32) S _ _ _ h X (lv_sub hl [0, 2] rfl)
def f_X12_isName_b25 (w0 : Int32) (S : sd_St) : Option (Int32 × sd_St) := f_X12_isName_l28 sd_FU w0 (0 : Int32) S
set_option maxHeartbeats 4000000 in
set_option maxRecDepth 100000 in
theorem t_X12_isName_b25 (C : sd_C RX12 cX12_isName 3 (some .boolean) D cy ad A b0 p s m args meth c) {r : Int32} {S' : sd_St} : ∀ (w0 : Int32) (S : sd_St) (H : Heap) (locs : List Loc) (ls : Array Slot), f_X12_isName_b25 w0 S = some (r, S') → sd_H D cy ad A s S H locs → lv_has ls 3 [(0, .ref (ad 130))] → W p l e (sd_rm 0) s m args below meth c H locs 0 0 (MQ below (sd_Qi D cy ad A r S') args s 0 0 A) (F0 m 25 ls [.int w0]) := by
  obtain ⟨hx, hb, -, hml, hown, hts, -, hG⟩ := id C
  intro w0 S H locs ls h X hl
  unfold f_X12_isName_b25 at h
  refine lv_istore_n (lv' := [(1, .int w0), (0, .ref (ad 130))]) hx hb dX12_isName_25 rfl hl (by decide) rfl (fun ls hl => ?_)
  refine lv_iconst (v := (0 : Int32)) hx hb dX12_isName_26 (by decide) ?_
  refine lv_istore_n (lv' := [(2, .int (0 : Int32)), (1, .int w0), (0, .ref (ad 130))]) hx hb dX12_isName_27 rfl hl (by decide) rfl (fun ls hl => ?_)
  exact t_X12_isName_l28 C sd_FU w0 (0 : Int32) S _ _ _ h X (lv_sub hl [2, 1, 0] rfl)
def f_X12_isName_b24 (S : sd_St) : Option (Int32 × sd_St) := f_X12_isName_b25 (0 : Int32) S
set_option maxHeartbeats 4000000 in
set_option maxRecDepth 100000 in
theorem t_X12_isName_b24 (C : sd_C RX12 cX12_isName 3 (some .boolean) D cy ad A b0 p s m args meth c) {r : Int32} {S' : sd_St} : ∀ (S : sd_St) (H : Heap) (locs : List Loc) (ls : Array Slot), f_X12_isName_b24 S = some (r, S') → sd_H D cy ad A s S H locs → lv_has ls 3 [(0, .ref (ad 130))] → W p l e (sd_rm 0) s m args below meth c H locs 0 0 (MQ below (sd_Qi D cy ad A r S') args s 0 0 A) (F0 m 24 ls []) := by
  obtain ⟨hx, hb, -, hml, hown, hts, -, hG⟩ := id C
  intro S H locs ls h X hl
  unfold f_X12_isName_b24 at h
  refine lv_iconst (v := (0 : Int32)) hx hb dX12_isName_24 (by decide) ?_
  exact t_X12_isName_b25 C (0 : Int32) S _ _ _ h X (lv_sub hl [0] rfl)
def f_X12_isName (S : sd_St) : Option (Int32 × sd_St) := (if (S.1 130 8) = 0 then sd_ld S 132 (S.1 130 7) (fun v_8 => (if v_8 = (1 : Int32) then f_X12_isName_b25 (1 : Int32) S else f_X12_isName_b24 S)) else f_X12_isName_b24 S)
set_option maxHeartbeats 4000000 in
set_option maxRecDepth 100000 in
theorem c_X12_isName {S S' : sd_St} {r : Int32} (h : f_X12_isName S = some (r, S')) : Met l yX12_isName (Cond.code yX12_isName cX12_isName 3 (some .boolean) :: sd_wl) (sd_rm 0) (sd_P D cy ad A b0 [.ref (ad 130)] S) (sd_Qi D cy ad A r S') 0 0 A := by
  refine sd_met (by decide) (Nat.le_of_ble_eq_true rfl) (fun p e s m args below meth c ls C X hl => ?_)
  obtain ⟨hx, hb, -, hml, hown, hts, -, hG⟩ := id C
  replace C : sd_C RX12 cX12_isName 3 (some .boolean) D cy ad A b0 p s m args meth c := C
  replace hl : lv_has ls 3 [(0, .ref (ad 130))] := hl
  unfold f_X12_isName at h
  refine lv_aload_n hx hb dX12_isName_0 rfl (lv_at hl 0 rfl) ?_
  refine sd_g12_8 C X (by decide) sd_w18_21 dX12_isName_1 ?_
  refine lv_if_ne (tgt := 24) hx hb dX12_isName_4 (by decide) (fun c_7 => ?_) (fun c_7 => ?_)
  · have h := sd_ifn c_7 h
    exact t_X12_isName_b24 C S _ _ _ h X (lv_sub hl [0] rfl)
  · have h := sd_ifp c_7 h
    refine lv_aload_n hx hb dX12_isName_7 rfl (lv_at hl 0 rfl) ?_
    refine sd_g12_4 (k := 130) C X (by decide) sd_w7_14 dX12_isName_8 ?_
    refine lv_aload_n hx hb dX12_isName_11 rfl (lv_at hl 0 rfl) ?_
    refine sd_g12_7 C X (by decide) sd_w18_22 dX12_isName_12 ?_
    obtain ⟨b_8, v_8, e_8, h⟩ := sd_ld_some h
    refine sd_iald C X (by decide) b_8 dX12_isName_15 (sd_nmi e_8 ?_)
    refine lv_iconst (v := (1 : Int32)) hx hb dX12_isName_16 (by decide) ?_
    refine lv_icmp_ne (tgt := 24) hx hb dX12_isName_17 (by decide) (fun c_9 => ?_) (fun c_9 => ?_)
    · have h := sd_ifn c_9 h
      exact t_X12_isName_b24 C S _ _ _ h X (lv_sub hl [0] rfl)
    · have h := sd_ifp c_9 h
      refine lv_iconst (v := (1 : Int32)) hx hb dX12_isName_20 (by decide) ?_
      refine lv_goto (tgt := 25) hx hb dX12_isName_21 (by decide) ?_
      exact t_X12_isName_b25 C (1 : Int32) S _ _ _ h X (lv_sub hl [0] rfl)
theorem k_X12_isName (C : sd_C own cc nL rt D cy ad A b0 p s m args meth c) (X : sd_H D cy ad A s S H locs) (hls : ls.size = nL) {S2 : sd_St} {r : Int32} (h : f_X12_isName S = some (r, S2)) (hlink : Cond.methodLink own index yX12_isName ∈ sd_wl) (hR : 1 ≤ R.frames ∧ 22 ≤ R.locals ∧ cells ≤ R.cells ∧ slots ≤ R.slots) (hst : (rest.map fun v => v.category).sum ≤ 8) (hdg : decode cc pc = .ok (.invokevirtual index, 3)) (kk : ∀ (H1 : Heap) (locs1 : List Loc), sd_H D cy ad A s S2 H1 locs1 → W p l e R s m args below meth c H1 locs1 cells slots Q (F0 m (pc + 3) ls (.int r :: rest))) : W p l e R s m args below meth c H locs cells slots Q (F0 m pc ls (.ref (ad 130) :: rest)) :=
  sd_goI X (sd_runV C X hls (n := 0) (k := 130) (As := []) (c_X12_isName (l := l) (b0 := b0) h) (sd_goodV hlink sd_w21_0 sd_w21_1 sd_w1_5 sd_w21_2) (ci := 12) rfl (by rw [(show sd_kd 130 = 12 by decide)]; decide) (sd_c12 (show sd_kd 130 = 12 by decide)) (by decide +kernel) rfl hR rfl hst hdg) kk
end SM3
