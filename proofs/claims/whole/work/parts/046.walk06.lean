section SM6
variable {p : Program} {l : Launch} {e : Env} {R : Room} {s : State} {m : MethodId} {args : Array Value} {below : List Frame} {meth : Method} {c : Code} {H : Heap} {locs : List Loc} {Q : State → Prop}
variable {cc : ByteArray} {pc nL index cells slots : Nat} {ls : Array Slot} {rest : List Value} {D : va_G} {cy : Nat → ClassId} {ad : Nat → Nat} {A : Nat → Prop} {b0 : Nat} {own : String} {rt : Option FieldType} {S : sd_St}
/-! ===== SecretDaysModel.meet(III)I ===== -/
def f_X12_meet_b165 (q90 : (Int32 → Int32 → Int32 → Int32 → sd_St → Option (Int32 × sd_St))) (x3 : Int32) (x4 : Int32) (x6 : Int32) (w0 : Int32) (S : sd_St) : Option (Int32 × sd_St) := q90 x3 x4 w0 (x6 + (1 : Int32)) S
set_option maxHeartbeats 4000000 in
set_option maxRecDepth 100000 in
theorem t_X12_meet_b165 (C : sd_C RX12 cX12_meet 8 (some .int) D cy ad A b0 p s m args meth c) {r : Int32} {S' : sd_St} {q90 : (Int32 → Int32 → Int32 → Int32 → sd_St → Option (Int32 × sd_St))} (hq90 : ∀ (x3 : Int32) (x4 : Int32) (x5 : Int32) (x6 : Int32) (S : sd_St) (H : Heap) (locs : List Loc) (ls : Array Slot), q90 x3 x4 x5 x6 S = some (r, S') → sd_H D cy ad A s S H locs → lv_has ls 8 [(0, .ref (ad 130)), (3, .int x3), (4, .int x4), (5, .int x5), (6, .int x6)] → W p l e (sd_rm 6) s m args below meth c H locs 0 0 (MQ below (sd_Qi D cy ad A r S') args s 0 0 A) (F0 m 90 ls [])) : ∀ (x3 : Int32) (x4 : Int32) (x6 : Int32) (w0 : Int32) (S : sd_St) (H : Heap) (locs : List Loc) (ls : Array Slot), f_X12_meet_b165 q90 x3 x4 x6 w0 S = some (r, S') → sd_H D cy ad A s S H locs → lv_has ls 8 [(0, .ref (ad 130)), (3, .int x3), (4, .int x4), (6, .int x6)] → W p l e (sd_rm 6) s m args below meth c H locs 0 0 (MQ below (sd_Qi D cy ad A r S') args s 0 0 A) (F0 m 165 ls [.int w0]) := by
  obtain ⟨hx, hb, -, hml, hown, hts, -, hG⟩ := id C
  intro x3 x4 x6 w0 S H locs ls h X hl
  unfold f_X12_meet_b165 at h
  refine lv_istore (lv' := [(5, .int w0), (0, .ref (ad 130)), (3, .int x3), (4, .int x4), (6, .int x6)]) hx hb dX12_meet_165 hl (by decide) rfl (fun ls hl => ?_)
  refine lv_iinc (v := (x6 + (1 : Int32))) (lv' := [(6, .int (x6 + (1 : Int32))), (5, .int w0), (0, .ref (ad 130)), (3, .int x3), (4, .int x4)]) hx hb dX12_meet_167 hl (k := 4) rfl rfl (by decide) rfl (fun ls hl => ?_)
  refine lv_goto (tgt := 90) hx hb dX12_meet_170 (by decide) ?_
  exact hq90 x3 x4 w0 (x6 + (1 : Int32)) S _ _ _ h X (lv_sub hl [2, 3, 4, 1, 0] rfl)
def f_X12_meet_b149 (q90 : (Int32 → Int32 → Int32 → Int32 → sd_St → Option (Int32 × sd_St))) (x3 : Int32) (x5 : Int32) (x6 : Int32) (x7 : Int32) (w0 : Int32) (S : sd_St) : Option (Int32 × sd_St) := (if x5 ≤ x7 then f_X12_meet_b165 q90 x3 w0 x6 x5 S else f_X12_meet_b165 q90 x3 w0 x6 x7 S)
set_option maxHeartbeats 4000000 in
set_option maxRecDepth 100000 in
theorem t_X12_meet_b149 (C : sd_C RX12 cX12_meet 8 (some .int) D cy ad A b0 p s m args meth c) {r : Int32} {S' : sd_St} {q90 : (Int32 → Int32 → Int32 → Int32 → sd_St → Option (Int32 × sd_St))} (hq90 : ∀ (x3 : Int32) (x4 : Int32) (x5 : Int32) (x6 : Int32) (S : sd_St) (H : Heap) (locs : List Loc) (ls : Array Slot), q90 x3 x4 x5 x6 S = some (r, S') → sd_H D cy ad A s S H locs → lv_has ls 8 [(0, .ref (ad 130)), (3, .int x3), (4, .int x4), (5, .int x5), (6, .int x6)] → W p l e (sd_rm 6) s m args below meth c H locs 0 0 (MQ below (sd_Qi D cy ad A r S') args s 0 0 A) (F0 m 90 ls [])) : ∀ (x3 : Int32) (x5 : Int32) (x6 : Int32) (x7 : Int32) (w0 : Int32) (S : sd_St) (H : Heap) (locs : List Loc) (ls : Array Slot), f_X12_meet_b149 q90 x3 x5 x6 x7 w0 S = some (r, S') → sd_H D cy ad A s S H locs → lv_has ls 8 [(0, .ref (ad 130)), (3, .int x3), (5, .int x5), (6, .int x6), (7, .int x7)] → W p l e (sd_rm 6) s m args below meth c H locs 0 0 (MQ below (sd_Qi D cy ad A r S') args s 0 0 A) (F0 m 149 ls [.int w0]) := by
  obtain ⟨hx, hb, -, hml, hown, hts, -, hG⟩ := id C
  intro x3 x5 x6 x7 w0 S H locs ls h X hl
  unfold f_X12_meet_b149 at h
  refine lv_istore (lv' := [(4, .int w0), (0, .ref (ad 130)), (3, .int x3), (5, .int x5), (6, .int x6), (7, .int x7)]) hx hb dX12_meet_149 hl (by decide) rfl (fun ls hl => ?_)
  refine lv_iload hx hb dX12_meet_151 (lv_at hl 5 rfl) ?_
  refine lv_iload hx hb dX12_meet_153 (lv_at hl 3 rfl) ?_
  refine lv_icmp_ge (tgt := 163) hx hb dX12_meet_155 (by decide) (fun c_1 => ?_) (fun c_1 => ?_)
  · have h := sd_ifp c_1 h
    refine lv_iload hx hb dX12_meet_163 (lv_at hl 3 rfl) ?_
    exact t_X12_meet_b165 C hq90 x3 w0 x6 x5 S _ _ _ h X (lv_sub hl [1, 2, 0, 4] rfl)
  · have h := sd_ifn c_1 h
    refine lv_iload hx hb dX12_meet_158 (lv_at hl 5 rfl) ?_
    refine lv_goto (tgt := 165) hx hb dX12_meet_160 (by decide) ?_
    exact t_X12_meet_b165 C hq90 x3 w0 x6 x7 S _ _ _ h X (lv_sub hl [1, 2, 0, 4] rfl)
def f_X12_meet_b133 (q90 : (Int32 → Int32 → Int32 → Int32 → sd_St → Option (Int32 × sd_St))) (x3 : Int32) (x4 : Int32) (x5 : Int32) (x6 : Int32) (w0 : Int32) (S : sd_St) : Option (Int32 × sd_St) := (if x5 ≤ w0 then f_X12_meet_b149 q90 x3 x5 x6 w0 x4 S else f_X12_meet_b149 q90 x3 x5 x6 w0 x6 S)
set_option maxHeartbeats 4000000 in
set_option maxRecDepth 100000 in
theorem t_X12_meet_b133 (C : sd_C RX12 cX12_meet 8 (some .int) D cy ad A b0 p s m args meth c) {r : Int32} {S' : sd_St} {q90 : (Int32 → Int32 → Int32 → Int32 → sd_St → Option (Int32 × sd_St))} (hq90 : ∀ (x3 : Int32) (x4 : Int32) (x5 : Int32) (x6 : Int32) (S : sd_St) (H : Heap) (locs : List Loc) (ls : Array Slot), q90 x3 x4 x5 x6 S = some (r, S') → sd_H D cy ad A s S H locs → lv_has ls 8 [(0, .ref (ad 130)), (3, .int x3), (4, .int x4), (5, .int x5), (6, .int x6)] → W p l e (sd_rm 6) s m args below meth c H locs 0 0 (MQ below (sd_Qi D cy ad A r S') args s 0 0 A) (F0 m 90 ls [])) : ∀ (x3 : Int32) (x4 : Int32) (x5 : Int32) (x6 : Int32) (w0 : Int32) (S : sd_St) (H : Heap) (locs : List Loc) (ls : Array Slot), f_X12_meet_b133 q90 x3 x4 x5 x6 w0 S = some (r, S') → sd_H D cy ad A s S H locs → lv_has ls 8 [(0, .ref (ad 130)), (3, .int x3), (4, .int x4), (5, .int x5), (6, .int x6)] → W p l e (sd_rm 6) s m args below meth c H locs 0 0 (MQ below (sd_Qi D cy ad A r S') args s 0 0 A) (F0 m 133 ls [.int w0]) := by
  obtain ⟨hx, hb, -, hml, hown, hts, -, hG⟩ := id C
  intro x3 x4 x5 x6 w0 S H locs ls h X hl
  unfold f_X12_meet_b133 at h
  refine lv_istore (lv' := [(7, .int w0), (0, .ref (ad 130)), (3, .int x3), (4, .int x4), (5, .int x5), (6, .int x6)]) hx hb dX12_meet_133 hl (by decide) rfl (fun ls hl => ?_)
  refine lv_iload hx hb dX12_meet_135 (lv_at hl 0 rfl) ?_
  refine lv_iload hx hb dX12_meet_137 (lv_at hl 4 rfl) ?_
  refine lv_icmp_ge (tgt := 147) hx hb dX12_meet_139 (by decide) (fun c_2 => ?_) (fun c_2 => ?_)
  · have h := sd_ifp c_2 h
    refine lv_iload hx hb dX12_meet_147 (lv_at hl 3 rfl) ?_
    exact t_X12_meet_b149 C hq90 x3 x5 x6 w0 x4 S _ _ _ h X (lv_sub hl [1, 2, 4, 5, 0] rfl)
  · have h := sd_ifn c_2 h
    refine lv_iload hx hb dX12_meet_142 (lv_at hl 5 rfl) ?_
    refine lv_goto (tgt := 149) hx hb dX12_meet_144 (by decide) ?_
    exact t_X12_meet_b149 C hq90 x3 x5 x6 w0 x6 S _ _ _ h X (lv_sub hl [1, 2, 4, 5, 0] rfl)
def f_X12_meet_l90 : Nat → Int32 → Int32 → Int32 → Int32 → sd_St → Option (Int32 × sd_St)
  | 0 => fun _ _ _ _ _ => none
  | n + 1 => fun x3 x4 x5 x6 S => sd_cl (f_X12_people S) (fun r_4 S_3 => (if r_4 ≤ x6 then (if x4 < 0 then (some (x4, S_3)) else (if x3 = (1 : Int32) then (some (x4, S_3)) else (some (x5, S_3)))) else sd_ld S_3 140 x6 (fun v_8 => sd_ld S_3 153 x6 (fun v_9 => (if v_8 ≤ v_9 then sd_ld S_3 153 x6 (fun v_11 => f_X12_meet_b133 (f_X12_meet_l90 n) x3 x4 x5 x6 v_11 S_3) else sd_ld S_3 140 x6 (fun v_12 => f_X12_meet_b133 (f_X12_meet_l90 n) x3 x4 x5 x6 v_12 S_3))))))
set_option maxHeartbeats 4000000 in
set_option maxRecDepth 100000 in
theorem t_X12_meet_l90 (C : sd_C RX12 cX12_meet 8 (some .int) D cy ad A b0 p s m args meth c) {r : Int32} {S' : sd_St} : ∀ (n : Nat) (x3 : Int32) (x4 : Int32) (x5 : Int32) (x6 : Int32) (S : sd_St) (H : Heap) (locs : List Loc) (ls : Array Slot), f_X12_meet_l90 n x3 x4 x5 x6 S = some (r, S') → sd_H D cy ad A s S H locs → lv_has ls 8 [(0, .ref (ad 130)), (3, .int x3), (4, .int x4), (5, .int x5), (6, .int x6)] → W p l e (sd_rm 6) s m args below meth c H locs 0 0 (MQ below (sd_Qi D cy ad A r S') args s 0 0 A) (F0 m 90 ls []) := by
  obtain ⟨hx, hb, -, hml, hown, hts, -, hG⟩ := id C
  intro n
  induction n with
  | zero => intro x3 x4 x5 x6 S H locs ls h; cases h
  | succ n ih =>
    intro x3 x4 x5 x6 S H locs ls h X hl
    unfold f_X12_meet_l90 at h
    refine lv_iload hx hb dX12_meet_90 (lv_at hl 4 rfl) ?_
    refine lv_aload_n hx hb dX12_meet_92 rfl (lv_at hl 0 rfl) ?_
    obtain ⟨r_4, S_3, er_4, h⟩ := sd_cl_some h
    refine k_X12_people C X hl.1 er_4 sd_w24_18 (by decide) (Nat.le_of_ble_eq_true rfl) dX12_meet_93 (fun H locs X => ?_)
    refine lv_icmp_ge (tgt := 173) hx hb dX12_meet_96 (by decide) (fun c_5 => ?_) (fun c_5 => ?_)
    · have h := sd_ifp c_5 h
      refine lv_iload hx hb dX12_meet_173 (lv_at hl 2 rfl) ?_
      refine lv_if_lt (tgt := 183) hx hb dX12_meet_175 (by decide) (fun c_6 => ?_) (fun c_6 => ?_)
      · have h := sd_ifp c_6 h
        refine lv_iload hx hb dX12_meet_183 (lv_at hl 2 rfl) ?_
        refine lv_goto (tgt := 190) hx hb dX12_meet_185 (by decide) ?_
        cases h
        exact sd_iret C X dX12_meet_190
      · have h := sd_ifn c_6 h
        refine lv_iload_n hx hb dX12_meet_178 rfl (lv_at hl 1 rfl) ?_
        refine lv_iconst (v := (1 : Int32)) hx hb dX12_meet_179 (by decide) ?_
        refine lv_icmp_ne (tgt := 188) hx hb dX12_meet_180 (by decide) (fun c_7 => ?_) (fun c_7 => ?_)
        · have h := sd_ifn c_7 h
          refine lv_iload hx hb dX12_meet_188 (lv_at hl 3 rfl) ?_
          cases h
          exact sd_iret C X dX12_meet_190
        · have h := sd_ifp c_7 h
          refine lv_iload hx hb dX12_meet_183 (lv_at hl 2 rfl) ?_
          refine lv_goto (tgt := 190) hx hb dX12_meet_185 (by decide) ?_
          cases h
          exact sd_iret C X dX12_meet_190
    · have h := sd_ifn c_5 h
      refine lv_aload_n hx hb dX12_meet_99 rfl (lv_at hl 0 rfl) ?_
      refine sd_g12_17 (k := 130) C X (by decide) sd_w8_12 dX12_meet_100 ?_
      refine lv_iload hx hb dX12_meet_103 (lv_at hl 4 rfl) ?_
      obtain ⟨b_8, v_8, e_8, h⟩ := sd_ld_some h
      refine sd_iald C X (by decide) b_8 dX12_meet_105 (sd_nmi e_8 ?_)
      refine lv_aload_n hx hb dX12_meet_106 rfl (lv_at hl 0 rfl) ?_
      refine sd_g12_32 (k := 130) C X (by decide) sd_w9_1 dX12_meet_107 ?_
      refine lv_iload hx hb dX12_meet_110 (lv_at hl 4 rfl) ?_
      obtain ⟨b_9, v_9, e_9, h⟩ := sd_ld_some h
      refine sd_iald C X (by decide) b_9 dX12_meet_112 (sd_nmi e_9 ?_)
      refine lv_icmp_le (tgt := 126) hx hb dX12_meet_113 (by decide) (fun c_10 => ?_) (fun c_10 => ?_)
      · have h := sd_ifp c_10 h
        refine lv_aload_n hx hb dX12_meet_126 rfl (lv_at hl 0 rfl) ?_
        refine sd_g12_32 (k := 130) C X (by decide) sd_w9_1 dX12_meet_127 ?_
        refine lv_iload hx hb dX12_meet_130 (lv_at hl 4 rfl) ?_
        obtain ⟨b_11, v_11, e_11, h⟩ := sd_ld_some h
        refine sd_iald C X (by decide) b_11 dX12_meet_132 (sd_nmi e_11 ?_)
        exact t_X12_meet_b133 C ih x3 x4 x5 x6 v_11 S_3 _ _ _ h X (lv_sub hl [0, 1, 2, 3, 4] rfl)
      · have h := sd_ifn c_10 h
        refine lv_aload_n hx hb dX12_meet_116 rfl (lv_at hl 0 rfl) ?_
        refine sd_g12_17 (k := 130) C X (by decide) sd_w8_12 dX12_meet_117 ?_
        refine lv_iload hx hb dX12_meet_120 (lv_at hl 4 rfl) ?_
        obtain ⟨b_12, v_12, e_12, h⟩ := sd_ld_some h
        refine sd_iald C X (by decide) b_12 dX12_meet_122 (sd_nmi e_12 ?_)
        refine lv_goto (tgt := 133) hx hb dX12_meet_123 (by decide) ?_
        exact t_X12_meet_b133 C ih x3 x4 x5 x6 v_12 S_3 _ _ _ h X (lv_sub hl [0, 1, 2, 3, 4] rfl)
def f_X12_meet_l45 : Nat → Int32 → Int32 → Int32 → sd_St → Option (Int32 × sd_St)
  | 0 => fun _ _ _ _ => none
  | n + 1 => fun x1 x3 x4 S => sd_cl (f_X12_people S) (fun r_14 S_13 => (if r_14 ≤ x4 then sd_cl (f_X12_find_ x1 S_13) (fun _ S_16 => f_X12_meet_l90 sd_FU x3 (-1 : Int32) (1000000 : Int32) (0 : Int32) S_16) else sd_ld S_13 140 x4 (fun v_18 => sd_st S_13 153 x4 v_18 (fun S_19 => (f_X12_meet_l45 n) x1 x3 (x4 + (1 : Int32)) S_19))))
set_option maxHeartbeats 4000000 in
set_option maxRecDepth 100000 in
theorem t_X12_meet_l45 (C : sd_C RX12 cX12_meet 8 (some .int) D cy ad A b0 p s m args meth c) {r : Int32} {S' : sd_St} : ∀ (n : Nat) (x1 : Int32) (x3 : Int32) (x4 : Int32) (S : sd_St) (H : Heap) (locs : List Loc) (ls : Array Slot), f_X12_meet_l45 n x1 x3 x4 S = some (r, S') → sd_H D cy ad A s S H locs → lv_has ls 8 [(0, .ref (ad 130)), (1, .int x1), (3, .int x3), (4, .int x4)] → W p l e (sd_rm 6) s m args below meth c H locs 0 0 (MQ below (sd_Qi D cy ad A r S') args s 0 0 A) (F0 m 45 ls []) := by
  obtain ⟨hx, hb, -, hml, hown, hts, -, hG⟩ := id C
  intro n
  induction n with
  | zero => intro x1 x3 x4 S H locs ls h; cases h
  | succ n ih =>
    intro x1 x3 x4 S H locs ls h X hl
    unfold f_X12_meet_l45 at h
    refine lv_iload hx hb dX12_meet_45 (lv_at hl 3 rfl) ?_
    refine lv_aload_n hx hb dX12_meet_47 rfl (lv_at hl 0 rfl) ?_
    obtain ⟨r_14, S_13, er_14, h⟩ := sd_cl_some h
    refine k_X12_people C X hl.1 er_14 sd_w24_18 (by decide) (Nat.le_of_ble_eq_true rfl) dX12_meet_48 (fun H locs X => ?_)
    refine lv_icmp_ge (tgt := 74) hx hb dX12_meet_51 (by decide) (fun c_15 => ?_) (fun c_15 => ?_)
    · have h := sd_ifp c_15 h
      refine lv_aload_n hx hb dX12_meet_74 rfl (lv_at hl 0 rfl) ?_
      refine lv_iload_n hx hb dX12_meet_75 rfl (lv_at hl 1 rfl) ?_
      obtain ⟨r_17, S_16, er_17, h⟩ := sd_cl_some h
      refine k_X12_find_ C X hl.1 er_17 sd_w31_23 (by decide) (Nat.le_of_ble_eq_true rfl) dX12_meet_76 (fun H locs X => ?_)
      refine lv_iconst (v := (-1 : Int32)) hx hb dX12_meet_79 (by decide) ?_
      refine lv_istore (lv' := [(4, .int (-1 : Int32)), (0, .ref (ad 130)), (1, .int x1), (3, .int x3)]) hx hb dX12_meet_80 hl (by decide) rfl (fun ls hl => ?_)
      refine lv_ldcw (v := (1000000 : Int32)) hx hb hown (hts _ sd_w31_10) dX12_meet_82 ?_
      refine lv_istore (lv' := [(5, .int (1000000 : Int32)), (4, .int (-1 : Int32)), (0, .ref (ad 130)), (1, .int x1), (3, .int x3)]) hx hb dX12_meet_85 hl (by decide) rfl (fun ls hl => ?_)
      refine lv_iconst (v := (0 : Int32)) hx hb dX12_meet_87 (by decide) ?_
      refine lv_istore (lv' := [(6, .int (0 : Int32)), (5, .int (1000000 : Int32)), (4, .int (-1 : Int32)), (0, .ref (ad 130)), (1, .int x1), (3, .int x3)]) hx hb dX12_meet_88 hl (by decide) rfl (fun ls hl => ?_)
      exact t_X12_meet_l90 C sd_FU x3 (-1 : Int32) (1000000 : Int32) (0 : Int32) S_16 _ _ _ h X (lv_sub hl [3, 5, 2, 1, 0] rfl)
    · have h := sd_ifn c_15 h
      refine lv_aload_n hx hb dX12_meet_54 rfl (lv_at hl 0 rfl) ?_
      refine sd_g12_32 (k := 130) C X (by decide) sd_w9_1 dX12_meet_55 ?_
      refine lv_iload hx hb dX12_meet_58 (lv_at hl 3 rfl) ?_
      refine lv_aload_n hx hb dX12_meet_60 rfl (lv_at hl 0 rfl) ?_
      refine sd_g12_17 (k := 130) C X (by decide) sd_w8_12 dX12_meet_61 ?_
      refine lv_iload hx hb dX12_meet_64 (lv_at hl 3 rfl) ?_
      obtain ⟨b_18, v_18, e_18, h⟩ := sd_ld_some h
      refine sd_iald C X (by decide) b_18 dX12_meet_66 (sd_nmi e_18 ?_)
      obtain ⟨bS_19, S_19, eS_19, h⟩ := sd_st_some h
      refine sd_iast C X (by decide) bS_19 dX12_meet_67 (fun H locs X => ?_)
      rw [← eS_19] at X
      refine lv_iinc (v := (x4 + (1 : Int32))) (lv' := [(4, .int (x4 + (1 : Int32))), (0, .ref (ad 130)), (1, .int x1), (3, .int x3)]) hx hb dX12_meet_68 hl (k := 3) rfl rfl (by decide) rfl (fun ls hl => ?_)
      refine lv_goto (tgt := 45) hx hb dX12_meet_71 (by decide) ?_
      exact ih x1 x3 (x4 + (1 : Int32)) S_19 _ _ _ h X (lv_sub hl [1, 2, 3, 0] rfl)
def f_X12_meet (x1 : Int32) (x2 : Int32) (x3 : Int32) (S : sd_St) : Option (Int32 × sd_St) := sd_nm (sd_I S 130 0 (0 : Int32)) (fun S_20 => sd_cl (f_X12_isSecret x1 S_20) (fun r_22 S_21 => (if r_22 = 0 then (some ((-1 : Int32), S_21)) else sd_cl (f_X12_isSecret x2 S_21) (fun r_25 S_24 => (if r_25 = 0 then (some ((-1 : Int32), S_24)) else (if x1 = x2 then (some ((-1 : Int32), S_24)) else sd_cl (f_X12_within x3 (0 : Int32) (1 : Int32) S_24) (fun r_29 S_28 => (if r_29 = 0 then (some ((-1 : Int32), S_28)) else sd_cl (f_X12_find_ x2 S_28) (fun _ S_31 => f_X12_meet_l45 sd_FU x1 x3 (0 : Int32) S_31)))))))))
set_option maxHeartbeats 4000000 in
set_option maxRecDepth 100000 in
theorem c_X12_meet {x1 : Int32} {x2 : Int32} {x3 : Int32} {S S' : sd_St} {r : Int32} (h : f_X12_meet x1 x2 x3 S = some (r, S')) : Met l yX12_meet (Cond.code yX12_meet cX12_meet 8 (some .int) :: sd_wl) (sd_rm 6) (sd_P D cy ad A b0 [.ref (ad 130), .int x1, .int x2, .int x3] S) (sd_Qi D cy ad A r S') 0 0 A := by
  refine sd_met (by decide) (Nat.le_of_ble_eq_true rfl) (fun p e s m args below meth c ls C X hl => ?_)
  obtain ⟨hx, hb, -, hml, hown, hts, -, hG⟩ := id C
  replace C : sd_C RX12 cX12_meet 8 (some .int) D cy ad A b0 p s m args meth c := C
  replace hl : lv_has ls 8 [(0, .ref (ad 130)), (1, .int x1), (2, .int x2), (3, .int x3)] := hl
  unfold f_X12_meet at h
  refine lv_aload_n hx hb dX12_meet_0 rfl (lv_at hl 0 rfl) ?_
  refine lv_iconst (v := (0 : Int32)) hx hb dX12_meet_1 (by decide) ?_
  obtain ⟨S_20, eS_20, h⟩ := sd_nm_some h
  refine sd_p12_0 C X (by decide) sd_w9_3 dX12_meet_2 (fun H locs X => ?_)
  rw [← eS_20] at X
  refine lv_aload_n hx hb dX12_meet_5 rfl (lv_at hl 0 rfl) ?_
  refine lv_iload_n hx hb dX12_meet_6 rfl (lv_at hl 1 rfl) ?_
  obtain ⟨r_22, S_21, er_22, h⟩ := sd_cl_some h
  refine k_X12_isSecret C X hl.1 er_22 sd_w31_15 (by decide) (Nat.le_of_ble_eq_true rfl) dX12_meet_7 (fun H locs X => ?_)
  refine lv_if_eq (tgt := 35) hx hb dX12_meet_10 (by decide) (fun c_23 => ?_) (fun c_23 => ?_)
  · have h := sd_ifp c_23 h
    refine lv_iconst (v := (-1 : Int32)) hx hb dX12_meet_35 (by decide) ?_
    cases h
    exact sd_iret C X dX12_meet_36
  · have h := sd_ifn c_23 h
    refine lv_aload_n hx hb dX12_meet_13 rfl (lv_at hl 0 rfl) ?_
    refine lv_iload_n hx hb dX12_meet_14 rfl (lv_at hl 2 rfl) ?_
    obtain ⟨r_25, S_24, er_25, h⟩ := sd_cl_some h
    refine k_X12_isSecret C X hl.1 er_25 sd_w31_15 (by decide) (Nat.le_of_ble_eq_true rfl) dX12_meet_15 (fun H locs X => ?_)
    refine lv_if_eq (tgt := 35) hx hb dX12_meet_18 (by decide) (fun c_26 => ?_) (fun c_26 => ?_)
    · have h := sd_ifp c_26 h
      refine lv_iconst (v := (-1 : Int32)) hx hb dX12_meet_35 (by decide) ?_
      cases h
      exact sd_iret C X dX12_meet_36
    · have h := sd_ifn c_26 h
      refine lv_iload_n hx hb dX12_meet_21 rfl (lv_at hl 1 rfl) ?_
      refine lv_iload_n hx hb dX12_meet_22 rfl (lv_at hl 2 rfl) ?_
      refine lv_icmp_eq (tgt := 35) hx hb dX12_meet_23 (by decide) (fun c_27 => ?_) (fun c_27 => ?_)
      · have h := sd_ifp c_27 h
        refine lv_iconst (v := (-1 : Int32)) hx hb dX12_meet_35 (by decide) ?_
        cases h
        exact sd_iret C X dX12_meet_36
      · have h := sd_ifn c_27 h
        refine lv_iload_n hx hb dX12_meet_26 rfl (lv_at hl 3 rfl) ?_
        refine lv_iconst (v := (0 : Int32)) hx hb dX12_meet_27 (by decide) ?_
        refine lv_iconst (v := (1 : Int32)) hx hb dX12_meet_28 (by decide) ?_
        obtain ⟨r_29, S_28, er_29, h⟩ := sd_cl_some h
        refine k_X12_within C X hl.1 er_29 sd_w24_22 (by decide) (Nat.le_of_ble_eq_true rfl) dX12_meet_29 (fun H locs X => ?_)
        refine lv_if_ne (tgt := 37) hx hb dX12_meet_32 (by decide) (fun c_30 => ?_) (fun c_30 => ?_)
        · have h := sd_ifn c_30 h
          refine lv_aload_n hx hb dX12_meet_37 rfl (lv_at hl 0 rfl) ?_
          refine lv_iload_n hx hb dX12_meet_38 rfl (lv_at hl 2 rfl) ?_
          obtain ⟨r_32, S_31, er_32, h⟩ := sd_cl_some h
          refine k_X12_find_ C X hl.1 er_32 sd_w31_23 (by decide) (Nat.le_of_ble_eq_true rfl) dX12_meet_39 (fun H locs X => ?_)
          refine lv_iconst (v := (0 : Int32)) hx hb dX12_meet_42 (by decide) ?_
          refine lv_istore (lv' := [(4, .int (0 : Int32)), (0, .ref (ad 130)), (1, .int x1), (2, .int x2), (3, .int x3)]) hx hb dX12_meet_43 hl (by decide) rfl (fun ls hl => ?_)
          exact t_X12_meet_l45 C sd_FU x1 x3 (0 : Int32) S_31 _ _ _ h X (lv_sub hl [1, 2, 4, 0] rfl)
        · have h := sd_ifp c_30 h
          refine lv_iconst (v := (-1 : Int32)) hx hb dX12_meet_35 (by decide) ?_
          cases h
          exact sd_iret C X dX12_meet_36
theorem k_X12_meet (C : sd_C own cc nL rt D cy ad A b0 p s m args meth c) (X : sd_H D cy ad A s S H locs) (hls : ls.size = nL) {x1 : Int32} {x2 : Int32} {x3 : Int32} {S2 : sd_St} {r : Int32} (h : f_X12_meet x1 x2 x3 S = some (r, S2)) (hlink : Cond.methodLink own index yX12_meet ∈ sd_wl) (hR : 7 ≤ R.frames ∧ 267 ≤ R.locals ∧ cells ≤ R.cells ∧ slots ≤ R.slots) (hst : (rest.map fun v => v.category).sum ≤ 8) (hdg : decode cc pc = .ok (.invokevirtual index, 3)) (kk : ∀ (H1 : Heap) (locs1 : List Loc), sd_H D cy ad A s S2 H1 locs1 → W p l e R s m args below meth c H1 locs1 cells slots Q (F0 m (pc + 3) ls (.int r :: rest))) : W p l e R s m args below meth c H locs cells slots Q (F0 m pc ls (.int x3 :: .int x2 :: .int x1 :: .ref (ad 130) :: rest)) :=
  sd_goI X (sd_runV C X hls (n := 3) (k := 130) (As := [.int x1, .int x2, .int x3]) (c_X12_meet (l := l) (b0 := b0) h) (sd_goodV hlink sd_w41_12 sd_w41_13 sd_w1_5 sd_w41_14) (ci := 12) rfl (by rw [(show sd_kd 130 = 12 by decide)]; decide) (sd_c12 (show sd_kd 130 = 12 by decide)) (by decide +kernel) rfl hR rfl hst hdg) kk
/-! ===== SecretDaysModel.newcomer(IIIII)I ===== -/
def f_X12_newcomer_b154 (q115 : (Int32 → Int32 → Int32 → Int32 → Int32 → Int32 → Int32 → sd_St → Option (Int32 × sd_St))) (x1 : Int32) (x3 : Int32) (x4 : Int32) (x5 : Int32) (x6 : Int32) (x7 : Int32) (x8 : Int32) (w1 : Int32) (w2 : Int32) (w3 : Int32) (S : sd_St) : Option (Int32 × sd_St) := sd_st S 136 w1 (w2 ||| w3) (fun S_1 => q115 x1 x3 x4 x5 x6 x7 (x8 + (1 : Int32)) S_1)
set_option maxHeartbeats 4000000 in
set_option maxRecDepth 100000 in
theorem t_X12_newcomer_b154 (C : sd_C RX12 cX12_newcomer 11 (some .int) D cy ad A b0 p s m args meth c) {r : Int32} {S' : sd_St} {q115 : (Int32 → Int32 → Int32 → Int32 → Int32 → Int32 → Int32 → sd_St → Option (Int32 × sd_St))} (hq115 : ∀ (x1 : Int32) (x3 : Int32) (x4 : Int32) (x5 : Int32) (x6 : Int32) (x7 : Int32) (x8 : Int32) (S : sd_St) (H : Heap) (locs : List Loc) (ls : Array Slot), q115 x1 x3 x4 x5 x6 x7 x8 S = some (r, S') → sd_H D cy ad A s S H locs → lv_has ls 11 [(0, .ref (ad 130)), (1, .int x1), (3, .int x3), (4, .int x4), (5, .int x5), (6, .int x6), (7, .int x7), (8, .int x8)] → W p l e (sd_rm 6) s m args below meth c H locs 0 0 (MQ below (sd_Qi D cy ad A r S') args s 0 0 A) (F0 m 115 ls [])) : ∀ (x1 : Int32) (x3 : Int32) (x4 : Int32) (x5 : Int32) (x6 : Int32) (x7 : Int32) (x8 : Int32) (w1 : Int32) (w2 : Int32) (w3 : Int32) (S : sd_St) (H : Heap) (locs : List Loc) (ls : Array Slot), f_X12_newcomer_b154 q115 x1 x3 x4 x5 x6 x7 x8 w1 w2 w3 S = some (r, S') → sd_H D cy ad A s S H locs → lv_has ls 11 [(0, .ref (ad 130)), (1, .int x1), (3, .int x3), (4, .int x4), (5, .int x5), (6, .int x6), (7, .int x7), (8, .int x8)] → W p l e (sd_rm 6) s m args below meth c H locs 0 0 (MQ below (sd_Qi D cy ad A r S') args s 0 0 A) (F0 m 154 ls [.int w3, .int w2, .int w1, .ref (ad 136)]) := by
  obtain ⟨hx, hb, -, hml, hown, hts, -, hG⟩ := id C
  intro x1 x3 x4 x5 x6 x7 x8 w1 w2 w3 S H locs ls h X hl
  unfold f_X12_newcomer_b154 at h
  refine lv_ior hx hb dX12_newcomer_154 ?_
  obtain ⟨bS_1, S_1, eS_1, h⟩ := sd_st_some h
  refine sd_iast C X (by decide) bS_1 dX12_newcomer_155 (fun H locs X => ?_)
  rw [← eS_1] at X
  refine lv_iinc (v := (x8 + (1 : Int32))) (lv' := [(8, .int (x8 + (1 : Int32))), (0, .ref (ad 130)), (1, .int x1), (3, .int x3), (4, .int x4), (5, .int x5), (6, .int x6), (7, .int x7)]) hx hb dX12_newcomer_156 hl (k := 7) rfl rfl (by decide) rfl (fun ls hl => ?_)
  refine lv_goto (tgt := 115) hx hb dX12_newcomer_159 (by decide) ?_
  exact hq115 x1 x3 x4 x5 x6 x7 (x8 + (1 : Int32)) S_1 _ _ _ h X (lv_sub hl [1, 2, 3, 4, 5, 6, 7, 0] rfl)
def f_X12_newcomer_b240 (q173 : (Int32 → Int32 → Int32 → Int32 → Int32 → Int32 → Int32 → sd_St → Option (Int32 × sd_St))) (x3 : Int32) (x4 : Int32) (x5 : Int32) (x7 : Int32) (x8 : Int32) (x10 : Int32) (w0 : Int32) (S : sd_St) : Option (Int32 × sd_St) := q173 x3 x4 x5 x7 x8 w0 (x10 + (1 : Int32)) S
set_option maxHeartbeats 4000000 in
set_option maxRecDepth 100000 in
theorem t_X12_newcomer_b240 (C : sd_C RX12 cX12_newcomer 11 (some .int) D cy ad A b0 p s m args meth c) {r : Int32} {S' : sd_St} {q173 : (Int32 → Int32 → Int32 → Int32 → Int32 → Int32 → Int32 → sd_St → Option (Int32 × sd_St))} (hq173 : ∀ (x3 : Int32) (x4 : Int32) (x5 : Int32) (x7 : Int32) (x8 : Int32) (x9 : Int32) (x10 : Int32) (S : sd_St) (H : Heap) (locs : List Loc) (ls : Array Slot), q173 x3 x4 x5 x7 x8 x9 x10 S = some (r, S') → sd_H D cy ad A s S H locs → lv_has ls 11 [(0, .ref (ad 130)), (3, .int x3), (4, .int x4), (5, .int x5), (7, .int x7), (8, .int x8), (9, .int x9), (10, .int x10)] → W p l e (sd_rm 6) s m args below meth c H locs 0 0 (MQ below (sd_Qi D cy ad A r S') args s 0 0 A) (F0 m 173 ls [])) : ∀ (x3 : Int32) (x4 : Int32) (x5 : Int32) (x7 : Int32) (x8 : Int32) (x10 : Int32) (w0 : Int32) (S : sd_St) (H : Heap) (locs : List Loc) (ls : Array Slot), f_X12_newcomer_b240 q173 x3 x4 x5 x7 x8 x10 w0 S = some (r, S') → sd_H D cy ad A s S H locs → lv_has ls 11 [(0, .ref (ad 130)), (3, .int x3), (4, .int x4), (5, .int x5), (7, .int x7), (8, .int x8), (10, .int x10)] → W p l e (sd_rm 6) s m args below meth c H locs 0 0 (MQ below (sd_Qi D cy ad A r S') args s 0 0 A) (F0 m 240 ls [.int w0]) := by
  obtain ⟨hx, hb, -, hml, hown, hts, -, hG⟩ := id C
  intro x3 x4 x5 x7 x8 x10 w0 S H locs ls h X hl
  unfold f_X12_newcomer_b240 at h
  refine lv_istore (lv' := [(9, .int w0), (0, .ref (ad 130)), (3, .int x3), (4, .int x4), (5, .int x5), (7, .int x7), (8, .int x8), (10, .int x10)]) hx hb dX12_newcomer_240 hl (by decide) rfl (fun ls hl => ?_)
  refine lv_iinc (v := (x10 + (1 : Int32))) (lv' := [(10, .int (x10 + (1 : Int32))), (9, .int w0), (0, .ref (ad 130)), (3, .int x3), (4, .int x4), (5, .int x5), (7, .int x7), (8, .int x8)]) hx hb dX12_newcomer_242 hl (k := 7) rfl rfl (by decide) rfl (fun ls hl => ?_)
  refine lv_goto (tgt := 173) hx hb dX12_newcomer_245 (by decide) ?_
  exact hq173 x3 x4 x5 x7 x8 w0 (x10 + (1 : Int32)) S _ _ _ h X (lv_sub hl [2, 3, 4, 5, 6, 7, 1, 0] rfl)
def f_X12_newcomer_b214 (q173 : (Int32 → Int32 → Int32 → Int32 → Int32 → Int32 → Int32 → sd_St → Option (Int32 × sd_St))) (x3 : Int32) (x4 : Int32) (x5 : Int32) (x7 : Int32) (x9 : Int32) (x10 : Int32) (w0 : Int32) (S : sd_St) : Option (Int32 × sd_St) := sd_ld S 140 x4 (fun v_2 => (if x9 ≤ v_2 then f_X12_newcomer_b240 q173 x3 x4 x5 x7 w0 x10 x9 S else sd_ld S 140 x4 (fun v_4 => f_X12_newcomer_b240 q173 x3 x4 x5 x7 w0 x10 v_4 S)))
set_option maxHeartbeats 4000000 in
set_option maxRecDepth 100000 in
theorem t_X12_newcomer_b214 (C : sd_C RX12 cX12_newcomer 11 (some .int) D cy ad A b0 p s m args meth c) {r : Int32} {S' : sd_St} {q173 : (Int32 → Int32 → Int32 → Int32 → Int32 → Int32 → Int32 → sd_St → Option (Int32 × sd_St))} (hq173 : ∀ (x3 : Int32) (x4 : Int32) (x5 : Int32) (x7 : Int32) (x8 : Int32) (x9 : Int32) (x10 : Int32) (S : sd_St) (H : Heap) (locs : List Loc) (ls : Array Slot), q173 x3 x4 x5 x7 x8 x9 x10 S = some (r, S') → sd_H D cy ad A s S H locs → lv_has ls 11 [(0, .ref (ad 130)), (3, .int x3), (4, .int x4), (5, .int x5), (7, .int x7), (8, .int x8), (9, .int x9), (10, .int x10)] → W p l e (sd_rm 6) s m args below meth c H locs 0 0 (MQ below (sd_Qi D cy ad A r S') args s 0 0 A) (F0 m 173 ls [])) : ∀ (x3 : Int32) (x4 : Int32) (x5 : Int32) (x7 : Int32) (x9 : Int32) (x10 : Int32) (w0 : Int32) (S : sd_St) (H : Heap) (locs : List Loc) (ls : Array Slot), f_X12_newcomer_b214 q173 x3 x4 x5 x7 x9 x10 w0 S = some (r, S') → sd_H D cy ad A s S H locs → lv_has ls 11 [(0, .ref (ad 130)), (3, .int x3), (4, .int x4), (5, .int x5), (7, .int x7), (9, .int x9), (10, .int x10)] → W p l e (sd_rm 6) s m args below meth c H locs 0 0 (MQ below (sd_Qi D cy ad A r S') args s 0 0 A) (F0 m 214 ls [.int w0]) := by
  obtain ⟨hx, hb, -, hml, hown, hts, -, hG⟩ := id C
  intro x3 x4 x5 x7 x9 x10 w0 S H locs ls h X hl
  unfold f_X12_newcomer_b214 at h
  refine lv_istore (lv' := [(8, .int w0), (0, .ref (ad 130)), (3, .int x3), (4, .int x4), (5, .int x5), (7, .int x7), (9, .int x9), (10, .int x10)]) hx hb dX12_newcomer_214 hl (by decide) rfl (fun ls hl => ?_)
  refine lv_aload_n hx hb dX12_newcomer_216 rfl (lv_at hl 1 rfl) ?_
  refine sd_g12_17 (k := 130) C X (by decide) sd_w8_12 dX12_newcomer_217 ?_
  refine lv_iload hx hb dX12_newcomer_220 (lv_at hl 3 rfl) ?_
  obtain ⟨b_2, v_2, e_2, h⟩ := sd_ld_some h
  refine sd_iald C X (by decide) b_2 dX12_newcomer_222 (sd_nmi e_2 ?_)
  refine lv_iload hx hb dX12_newcomer_223 (lv_at hl 6 rfl) ?_
  refine lv_icmp_ge (tgt := 238) hx hb dX12_newcomer_225 (by decide) (fun c_3 => ?_) (fun c_3 => ?_)
  · have h := sd_ifp c_3 h
    refine lv_iload hx hb dX12_newcomer_238 (lv_at hl 6 rfl) ?_
    exact t_X12_newcomer_b240 C hq173 x3 x4 x5 x7 w0 x10 x9 S _ _ _ h X (lv_sub hl [1, 2, 3, 4, 5, 0, 7] rfl)
  · have h := sd_ifn c_3 h
    refine lv_aload_n hx hb dX12_newcomer_228 rfl (lv_at hl 1 rfl) ?_
    refine sd_g12_17 (k := 130) C X (by decide) sd_w8_12 dX12_newcomer_229 ?_
    refine lv_iload hx hb dX12_newcomer_232 (lv_at hl 3 rfl) ?_
    obtain ⟨b_4, v_4, e_4, h⟩ := sd_ld_some h
    refine sd_iald C X (by decide) b_4 dX12_newcomer_234 (sd_nmi e_4 ?_)
    refine lv_goto (tgt := 240) hx hb dX12_newcomer_235 (by decide) ?_
    exact t_X12_newcomer_b240 C hq173 x3 x4 x5 x7 w0 x10 v_4 S _ _ _ h X (lv_sub hl [1, 2, 3, 4, 5, 0, 7] rfl)
def f_X12_newcomer_l173 : Nat → Int32 → Int32 → Int32 → Int32 → Int32 → Int32 → Int32 → sd_St → Option (Int32 × sd_St)
  | 0 => fun _ _ _ _ _ _ _ _ => none
  | n + 1 => fun x3 x4 x5 x7 x8 x9 x10 S => (if (366 : Int32) ≤ x10 then sd_cl (f_X12_carry (1 : Int32) (0 : Int32) S) (fun _ S_6 => (if x8 < 0 then (some (x8, S_6)) else (if x5 = (1 : Int32) then (some (x8, S_6)) else (some (x9, S_6))))) else sd_st S 136 x7 x10 (fun S_10 => sd_cl (f_X12_find_ x3 S_10) (fun _ S_11 => sd_ld S_11 140 x4 (fun v_13 => (if x9 ≤ v_13 then f_X12_newcomer_b214 (f_X12_newcomer_l173 n) x3 x4 x5 x7 x9 x10 x8 S_11 else f_X12_newcomer_b214 (f_X12_newcomer_l173 n) x3 x4 x5 x7 x9 x10 x10 S_11)))))
set_option maxHeartbeats 4000000 in
set_option maxRecDepth 100000 in
theorem t_X12_newcomer_l173 (C : sd_C RX12 cX12_newcomer 11 (some .int) D cy ad A b0 p s m args meth c) {r : Int32} {S' : sd_St} : ∀ (n : Nat) (x3 : Int32) (x4 : Int32) (x5 : Int32) (x7 : Int32) (x8 : Int32) (x9 : Int32) (x10 : Int32) (S : sd_St) (H : Heap) (locs : List Loc) (ls : Array Slot), f_X12_newcomer_l173 n x3 x4 x5 x7 x8 x9 x10 S = some (r, S') → sd_H D cy ad A s S H locs → lv_has ls 11 [(0, .ref (ad 130)), (3, .int x3), (4, .int x4), (5, .int x5), (7, .int x7), (8, .int x8), (9, .int x9), (10, .int x10)] → W p l e (sd_rm 6) s m args below meth c H locs 0 0 (MQ below (sd_Qi D cy ad A r S') args s 0 0 A) (F0 m 173 ls []) := by
  obtain ⟨hx, hb, -, hml, hown, hts, -, hG⟩ := id C
  intro n
  induction n with
  | zero => intro x3 x4 x5 x7 x8 x9 x10 S H locs ls h; cases h
  | succ n ih =>
    intro x3 x4 x5 x7 x8 x9 x10 S H locs ls h X hl
    unfold f_X12_newcomer_l173 at h
    refine lv_iload hx hb dX12_newcomer_173 (lv_at hl 7 rfl) ?_
    refine lv_sipush (v := (366 : Int32)) hx hb dX12_newcomer_175 (by decide) ?_
    refine lv_icmp_ge (tgt := 248) hx hb dX12_newcomer_178 (by decide) (fun c_5 => ?_) (fun c_5 => ?_)
    · have h := sd_ifp c_5 h
      refine lv_aload_n hx hb dX12_newcomer_248 rfl (lv_at hl 0 rfl) ?_
      refine lv_iconst (v := (1 : Int32)) hx hb dX12_newcomer_249 (by decide) ?_
      refine lv_iconst (v := (0 : Int32)) hx hb dX12_newcomer_250 (by decide) ?_
      obtain ⟨r_7, S_6, er_7, h⟩ := sd_cl_some h
      refine k_X12_carry C X hl.1 er_7 sd_w23_7 (by decide) (Nat.le_of_ble_eq_true rfl) dX12_newcomer_251 (fun H locs X => ?_)
      refine lv_iload hx hb dX12_newcomer_254 (lv_at hl 5 rfl) ?_
      refine lv_if_lt (tgt := 265) hx hb dX12_newcomer_256 (by decide) (fun c_8 => ?_) (fun c_8 => ?_)
      · have h := sd_ifp c_8 h
        refine lv_iload hx hb dX12_newcomer_265 (lv_at hl 5 rfl) ?_
        refine lv_goto (tgt := 272) hx hb dX12_newcomer_267 (by decide) ?_
        cases h
        exact sd_iret C X dX12_newcomer_272
      · have h := sd_ifn c_8 h
        refine lv_iload hx hb dX12_newcomer_259 (lv_at hl 3 rfl) ?_
        refine lv_iconst (v := (1 : Int32)) hx hb dX12_newcomer_261 (by decide) ?_
        refine lv_icmp_ne (tgt := 270) hx hb dX12_newcomer_262 (by decide) (fun c_9 => ?_) (fun c_9 => ?_)
        · have h := sd_ifn c_9 h
          refine lv_iload hx hb dX12_newcomer_270 (lv_at hl 6 rfl) ?_
          cases h
          exact sd_iret C X dX12_newcomer_272
        · have h := sd_ifp c_9 h
          refine lv_iload hx hb dX12_newcomer_265 (lv_at hl 5 rfl) ?_
          refine lv_goto (tgt := 272) hx hb dX12_newcomer_267 (by decide) ?_
          cases h
          exact sd_iret C X dX12_newcomer_272
    · have h := sd_ifn c_5 h
      refine lv_aload_n hx hb dX12_newcomer_181 rfl (lv_at hl 0 rfl) ?_
      refine sd_g12_10 (k := 130) C X (by decide) sd_w8_8 dX12_newcomer_182 ?_
      refine lv_iload hx hb dX12_newcomer_185 (lv_at hl 4 rfl) ?_
      refine lv_iload hx hb dX12_newcomer_187 (lv_at hl 7 rfl) ?_
      obtain ⟨bS_10, S_10, eS_10, h⟩ := sd_st_some h
      refine sd_iast C X (by decide) bS_10 dX12_newcomer_189 (fun H locs X => ?_)
      rw [← eS_10] at X
      refine lv_aload_n hx hb dX12_newcomer_190 rfl (lv_at hl 0 rfl) ?_
      refine lv_iload_n hx hb dX12_newcomer_191 rfl (lv_at hl 1 rfl) ?_
      obtain ⟨r_12, S_11, er_12, h⟩ := sd_cl_some h
      refine k_X12_find_ C X hl.1 er_12 sd_w31_23 (by decide) (Nat.le_of_ble_eq_true rfl) dX12_newcomer_192 (fun H locs X => ?_)
      refine lv_aload_n hx hb dX12_newcomer_195 rfl (lv_at hl 0 rfl) ?_
      refine sd_g12_17 (k := 130) C X (by decide) sd_w8_12 dX12_newcomer_196 ?_
      refine lv_iload hx hb dX12_newcomer_199 (lv_at hl 2 rfl) ?_
      obtain ⟨b_13, v_13, e_13, h⟩ := sd_ld_some h
      refine sd_iald C X (by decide) b_13 dX12_newcomer_201 (sd_nmi e_13 ?_)
      refine lv_iload hx hb dX12_newcomer_202 (lv_at hl 6 rfl) ?_
      refine lv_icmp_ge (tgt := 212) hx hb dX12_newcomer_204 (by decide) (fun c_14 => ?_) (fun c_14 => ?_)
      · have h := sd_ifp c_14 h
        refine lv_iload hx hb dX12_newcomer_212 (lv_at hl 5 rfl) ?_
        exact t_X12_newcomer_b214 C ih x3 x4 x5 x7 x9 x10 x8 S_11 _ _ _ h X (lv_sub hl [0, 1, 2, 3, 4, 6, 7] rfl)
      · have h := sd_ifn c_14 h
        refine lv_iload hx hb dX12_newcomer_207 (lv_at hl 7 rfl) ?_
        refine lv_goto (tgt := 214) hx hb dX12_newcomer_209 (by decide) ?_
        exact t_X12_newcomer_b214 C ih x3 x4 x5 x7 x9 x10 x10 S_11 _ _ _ h X (lv_sub hl [0, 1, 2, 3, 4, 6, 7] rfl)
def f_X12_newcomer_l115 : Nat → Int32 → Int32 → Int32 → Int32 → Int32 → Int32 → Int32 → sd_St → Option (Int32 × sd_St)
  | 0 => fun _ _ _ _ _ _ _ _ => none
  | n + 1 => fun x1 x3 x4 x5 x6 x7 x8 S => (if x6 ≤ x8 then f_X12_newcomer_l173 sd_FU x3 x4 x5 x7 (-1 : Int32) (1000000 : Int32) (0 : Int32) S else sd_ld S 136 (((3 : Int32) + ((4 : Int32) * x8)) + (3 : Int32)) (fun v_16 => (if ((x1 >>> (x8 &&& 31)) &&& (1 : Int32)) = (1 : Int32) then f_X12_newcomer_b154 (f_X12_newcomer_l115 n) x1 x3 x4 x5 x6 x7 x8 (((3 : Int32) + ((4 : Int32) * x8)) + (3 : Int32)) v_16 ((1 : Int32) <<< (x6 &&& 31)) S else f_X12_newcomer_b154 (f_X12_newcomer_l115 n) x1 x3 x4 x5 x6 x7 x8 (((3 : Int32) + ((4 : Int32) * x8)) + (3 : Int32)) v_16 (0 : Int32) S)))
set_option maxHeartbeats 4000000 in
set_option maxRecDepth 100000 in
theorem t_X12_newcomer_l115 (C : sd_C RX12 cX12_newcomer 11 (some .int) D cy ad A b0 p s m args meth c) {r : Int32} {S' : sd_St} : ∀ (n : Nat) (x1 : Int32) (x3 : Int32) (x4 : Int32) (x5 : Int32) (x6 : Int32) (x7 : Int32) (x8 : Int32) (S : sd_St) (H : Heap) (locs : List Loc) (ls : Array Slot), f_X12_newcomer_l115 n x1 x3 x4 x5 x6 x7 x8 S = some (r, S') → sd_H D cy ad A s S H locs → lv_has ls 11 [(0, .ref (ad 130)), (1, .int x1), (3, .int x3), (4, .int x4), (5, .int x5), (6, .int x6), (7, .int x7), (8, .int x8)] → W p l e (sd_rm 6) s m args below meth c H locs 0 0 (MQ below (sd_Qi D cy ad A r S') args s 0 0 A) (F0 m 115 ls []) := by
  obtain ⟨hx, hb, -, hml, hown, hts, -, hG⟩ := id C
  intro n
  induction n with
  | zero => intro x1 x3 x4 x5 x6 x7 x8 S H locs ls h; cases h
  | succ n ih =>
    intro x1 x3 x4 x5 x6 x7 x8 S H locs ls h X hl
    unfold f_X12_newcomer_l115 at h
    refine lv_iload hx hb dX12_newcomer_115 (lv_at hl 7 rfl) ?_
    refine lv_iload hx hb dX12_newcomer_117 (lv_at hl 5 rfl) ?_
    refine lv_icmp_ge (tgt := 162) hx hb dX12_newcomer_119 (by decide) (fun c_15 => ?_) (fun c_15 => ?_)
    · have h := sd_ifp c_15 h
      refine lv_iconst (v := (-1 : Int32)) hx hb dX12_newcomer_162 (by decide) ?_
      refine lv_istore (lv' := [(8, .int (-1 : Int32)), (0, .ref (ad 130)), (1, .int x1), (3, .int x3), (4, .int x4), (5, .int x5), (6, .int x6), (7, .int x7)]) hx hb dX12_newcomer_163 hl (by decide) rfl (fun ls hl => ?_)
      refine lv_ldcw (v := (1000000 : Int32)) hx hb hown (hts _ sd_w31_10) dX12_newcomer_165 ?_
      refine lv_istore (lv' := [(9, .int (1000000 : Int32)), (8, .int (-1 : Int32)), (0, .ref (ad 130)), (1, .int x1), (3, .int x3), (4, .int x4), (5, .int x5), (6, .int x6), (7, .int x7)]) hx hb dX12_newcomer_168 hl (by decide) rfl (fun ls hl => ?_)
      refine lv_iconst (v := (0 : Int32)) hx hb dX12_newcomer_170 (by decide) ?_
      refine lv_istore (lv' := [(10, .int (0 : Int32)), (9, .int (1000000 : Int32)), (8, .int (-1 : Int32)), (0, .ref (ad 130)), (1, .int x1), (3, .int x3), (4, .int x4), (5, .int x5), (6, .int x6), (7, .int x7)]) hx hb dX12_newcomer_171 hl (by decide) rfl (fun ls hl => ?_)
      exact t_X12_newcomer_l173 C sd_FU x3 x4 x5 x7 (-1 : Int32) (1000000 : Int32) (0 : Int32) S _ _ _ h X (lv_sub hl [3, 5, 6, 7, 9, 2, 1, 0] rfl)
    · have h := sd_ifn c_15 h
      refine lv_aload_n hx hb dX12_newcomer_122 rfl (lv_at hl 0 rfl) ?_
      refine sd_g12_10 (k := 130) C X (by decide) sd_w8_8 dX12_newcomer_123 ?_
      refine lv_iconst (v := (3 : Int32)) hx hb dX12_newcomer_126 (by decide) ?_
      refine lv_iconst (v := (4 : Int32)) hx hb dX12_newcomer_127 (by decide) ?_
      refine lv_iload hx hb dX12_newcomer_128 (lv_at hl 7 rfl) ?_
      refine lv_imul hx hb dX12_newcomer_130 ?_
      refine lv_iadd hx hb dX12_newcomer_131 ?_
      refine lv_iconst (v := (3 : Int32)) hx hb dX12_newcomer_132 (by decide) ?_
      refine lv_iadd hx hb dX12_newcomer_133 ?_
      refine lv_dup2_11 hx hb dX12_newcomer_134 rfl rfl ?_
      obtain ⟨b_16, v_16, e_16, h⟩ := sd_ld_some h
      refine sd_iald C X (by decide) b_16 dX12_newcomer_135 (sd_nmi e_16 ?_)
      refine lv_iload_n hx hb dX12_newcomer_136 rfl (lv_at hl 1 rfl) ?_
      refine lv_iload hx hb dX12_newcomer_137 (lv_at hl 7 rfl) ?_
      refine lv_ishr hx hb dX12_newcomer_139 ?_
      refine lv_iconst (v := (1 : Int32)) hx hb dX12_newcomer_140 (by decide) ?_
      refine lv_iand hx hb dX12_newcomer_141 ?_
      refine lv_iconst (v := (1 : Int32)) hx hb dX12_newcomer_142 (by decide) ?_
      refine lv_icmp_ne (tgt := 153) hx hb dX12_newcomer_143 (by decide) (fun c_17 => ?_) (fun c_17 => ?_)
      · have h := sd_ifn c_17 h
        refine lv_iconst (v := (0 : Int32)) hx hb dX12_newcomer_153 (by decide) ?_
        exact t_X12_newcomer_b154 C ih x1 x3 x4 x5 x6 x7 x8 (((3 : Int32) + ((4 : Int32) * x8)) + (3 : Int32)) v_16 (0 : Int32) S _ _ _ h X (lv_sub hl [0, 1, 2, 3, 4, 5, 6, 7] rfl)
      · have h := sd_ifp c_17 h
        refine lv_iconst (v := (1 : Int32)) hx hb dX12_newcomer_146 (by decide) ?_
        refine lv_iload hx hb dX12_newcomer_147 (lv_at hl 5 rfl) ?_
        refine lv_ishl hx hb dX12_newcomer_149 ?_
        refine lv_goto (tgt := 154) hx hb dX12_newcomer_150 (by decide) ?_
        exact t_X12_newcomer_b154 C ih x1 x3 x4 x5 x6 x7 x8 (((3 : Int32) + ((4 : Int32) * x8)) + (3 : Int32)) v_16 ((1 : Int32) <<< (x6 &&& 31)) S _ _ _ h X (lv_sub hl [0, 1, 2, 3, 4, 5, 6, 7] rfl)
def f_X12_newcomer (x1 : Int32) (x2 : Int32) (x3 : Int32) (x4 : Int32) (x5 : Int32) (S : sd_St) : Option (Int32 × sd_St) := sd_nm (sd_I S 130 0 (0 : Int32)) (fun S_18 => sd_cl (f_X12_people S_18) (fun r_20 S_19 => (if r_20 = (12 : Int32) then (some ((-1 : Int32), S_19)) else sd_cl (f_X12_areThere x3 x4 S_19) (fun r_23 S_22 => (if r_23 = 0 then (some ((-1 : Int32), S_22)) else sd_cl (f_X12_isSet x1 r_20 S_22) (fun r_26 S_25 => (if r_26 = 0 then (some ((-1 : Int32), S_25)) else sd_cl (f_X12_isSet x2 r_20 S_25) (fun r_29 S_28 => (if r_29 = 0 then (some ((-1 : Int32), S_28)) else sd_cl (f_X12_within x5 (0 : Int32) (1 : Int32) S_28) (fun r_32 S_31 => (if r_32 = 0 then (some ((-1 : Int32), S_31)) else sd_cl (f_X12_carry (0 : Int32) (1 : Int32) S_31) (fun _ S_34 => sd_st S_34 136 (2 : Int32) (r_20 + (1 : Int32)) (fun S_36 => sd_nm (((3 : Int32) + ((4 : Int32) * r_20))) (fun v_37 => sd_st S_36 136 (v_37 + (1 : Int32)) (0 : Int32) (fun S_38 => sd_st S_38 136 (v_37 + (2 : Int32)) (0 : Int32) (fun S_39 => sd_st S_39 136 (v_37 + (3 : Int32)) x2 (fun S_40 => f_X12_newcomer_l115 sd_FU x1 x3 x4 x5 r_20 v_37 (0 : Int32) S_40)))))))))))))))))
set_option maxHeartbeats 4000000 in
set_option maxRecDepth 100000 in
theorem c_X12_newcomer {x1 : Int32} {x2 : Int32} {x3 : Int32} {x4 : Int32} {x5 : Int32} {S S' : sd_St} {r : Int32} (h : f_X12_newcomer x1 x2 x3 x4 x5 S = some (r, S')) : Met l yX12_newcomer (Cond.code yX12_newcomer cX12_newcomer 11 (some .int) :: sd_wl) (sd_rm 6) (sd_P D cy ad A b0 [.ref (ad 130), .int x1, .int x2, .int x3, .int x4, .int x5] S) (sd_Qi D cy ad A r S') 0 0 A := by
  refine sd_met (by decide) (Nat.le_of_ble_eq_true rfl) (fun p e s m args below meth c ls C X hl => ?_)
  obtain ⟨hx, hb, -, hml, hown, hts, -, hG⟩ := id C
  replace C : sd_C RX12 cX12_newcomer 11 (some .int) D cy ad A b0 p s m args meth c := C
  replace hl : lv_has ls 11 [(0, .ref (ad 130)), (1, .int x1), (2, .int x2), (3, .int x3), (4, .int x4), (5, .int x5)] := hl
  unfold f_X12_newcomer at h
  refine lv_aload_n hx hb dX12_newcomer_0 rfl (lv_at hl 0 rfl) ?_
  refine lv_iconst (v := (0 : Int32)) hx hb dX12_newcomer_1 (by decide) ?_
  obtain ⟨S_18, eS_18, h⟩ := sd_nm_some h
  refine sd_p12_0 C X (by decide) sd_w9_3 dX12_newcomer_2 (fun H locs X => ?_)
  rw [← eS_18] at X
  refine lv_aload_n hx hb dX12_newcomer_5 rfl (lv_at hl 0 rfl) ?_
  obtain ⟨r_20, S_19, er_20, h⟩ := sd_cl_some h
  refine k_X12_people C X hl.1 er_20 sd_w24_18 (by decide) (Nat.le_of_ble_eq_true rfl) dX12_newcomer_6 (fun H locs X => ?_)
  refine lv_istore (lv' := [(6, .int r_20), (0, .ref (ad 130)), (1, .int x1), (2, .int x2), (3, .int x3), (4, .int x4), (5, .int x5)]) hx hb dX12_newcomer_9 hl (by decide) rfl (fun ls hl => ?_)
  refine lv_iload hx hb dX12_newcomer_11 (lv_at hl 0 rfl) ?_
  refine lv_bipush (v := (12 : Int32)) hx hb dX12_newcomer_13 (by decide) ?_
  refine lv_icmp_eq (tgt := 56) hx hb dX12_newcomer_15 (by decide) (fun c_21 => ?_) (fun c_21 => ?_)
  · have h := sd_ifp c_21 h
    refine lv_iconst (v := (-1 : Int32)) hx hb dX12_newcomer_56 (by decide) ?_
    cases h
    exact sd_iret C X dX12_newcomer_57
  · have h := sd_ifn c_21 h
    refine lv_aload_n hx hb dX12_newcomer_18 rfl (lv_at hl 1 rfl) ?_
    refine lv_iload_n hx hb dX12_newcomer_19 rfl (lv_at hl 4 rfl) ?_
    refine lv_iload hx hb dX12_newcomer_20 (lv_at hl 5 rfl) ?_
    obtain ⟨r_23, S_22, er_23, h⟩ := sd_cl_some h
    refine k_X12_areThere C X hl.1 er_23 sd_w31_11 (by decide) (Nat.le_of_ble_eq_true rfl) dX12_newcomer_22 (fun H locs X => ?_)
    refine lv_if_eq (tgt := 56) hx hb dX12_newcomer_25 (by decide) (fun c_24 => ?_) (fun c_24 => ?_)
    · have h := sd_ifp c_24 h
      refine lv_iconst (v := (-1 : Int32)) hx hb dX12_newcomer_56 (by decide) ?_
      cases h
      exact sd_iret C X dX12_newcomer_57
    · have h := sd_ifn c_24 h
      refine lv_iload_n hx hb dX12_newcomer_28 rfl (lv_at hl 2 rfl) ?_
      refine lv_iload hx hb dX12_newcomer_29 (lv_at hl 0 rfl) ?_
      obtain ⟨r_26, S_25, er_26, h⟩ := sd_cl_some h
      refine k_X12_isSet C X hl.1 er_26 sd_w37_17 (by decide) (Nat.le_of_ble_eq_true rfl) dX12_newcomer_31 (fun H locs X => ?_)
      refine lv_if_eq (tgt := 56) hx hb dX12_newcomer_34 (by decide) (fun c_27 => ?_) (fun c_27 => ?_)
      · have h := sd_ifp c_27 h
        refine lv_iconst (v := (-1 : Int32)) hx hb dX12_newcomer_56 (by decide) ?_
        cases h
        exact sd_iret C X dX12_newcomer_57
      · have h := sd_ifn c_27 h
        refine lv_iload_n hx hb dX12_newcomer_37 rfl (lv_at hl 3 rfl) ?_
        refine lv_iload hx hb dX12_newcomer_38 (lv_at hl 0 rfl) ?_
        obtain ⟨r_29, S_28, er_29, h⟩ := sd_cl_some h
        refine k_X12_isSet C X hl.1 er_29 sd_w37_17 (by decide) (Nat.le_of_ble_eq_true rfl) dX12_newcomer_40 (fun H locs X => ?_)
        refine lv_if_eq (tgt := 56) hx hb dX12_newcomer_43 (by decide) (fun c_30 => ?_) (fun c_30 => ?_)
        · have h := sd_ifp c_30 h
          refine lv_iconst (v := (-1 : Int32)) hx hb dX12_newcomer_56 (by decide) ?_
          cases h
          exact sd_iret C X dX12_newcomer_57
        · have h := sd_ifn c_30 h
          refine lv_iload hx hb dX12_newcomer_46 (lv_at hl 6 rfl) ?_
          refine lv_iconst (v := (0 : Int32)) hx hb dX12_newcomer_48 (by decide) ?_
          refine lv_iconst (v := (1 : Int32)) hx hb dX12_newcomer_49 (by decide) ?_
          obtain ⟨r_32, S_31, er_32, h⟩ := sd_cl_some h
          refine k_X12_within C X hl.1 er_32 sd_w24_22 (by decide) (Nat.le_of_ble_eq_true rfl) dX12_newcomer_50 (fun H locs X => ?_)
          refine lv_if_ne (tgt := 58) hx hb dX12_newcomer_53 (by decide) (fun c_33 => ?_) (fun c_33 => ?_)
          · have h := sd_ifn c_33 h
            refine lv_aload_n hx hb dX12_newcomer_58 rfl (lv_at hl 1 rfl) ?_
            refine lv_iconst (v := (0 : Int32)) hx hb dX12_newcomer_59 (by decide) ?_
            refine lv_iconst (v := (1 : Int32)) hx hb dX12_newcomer_60 (by decide) ?_
            obtain ⟨r_35, S_34, er_35, h⟩ := sd_cl_some h
            refine k_X12_carry C X hl.1 er_35 sd_w23_7 (by decide) (Nat.le_of_ble_eq_true rfl) dX12_newcomer_61 (fun H locs X => ?_)
            refine lv_aload_n hx hb dX12_newcomer_64 rfl (lv_at hl 1 rfl) ?_
            refine sd_g12_10 (k := 130) C X (by decide) sd_w8_8 dX12_newcomer_65 ?_
            refine lv_iconst (v := (2 : Int32)) hx hb dX12_newcomer_68 (by decide) ?_
            refine lv_iload hx hb dX12_newcomer_69 (lv_at hl 0 rfl) ?_
            refine lv_iconst (v := (1 : Int32)) hx hb dX12_newcomer_71 (by decide) ?_
            refine lv_iadd hx hb dX12_newcomer_72 ?_
            obtain ⟨bS_36, S_36, eS_36, h⟩ := sd_st_some h
            refine sd_iast C X (by decide) bS_36 dX12_newcomer_73 (fun H locs X => ?_)
            rw [← eS_36] at X
            refine lv_iconst (v := (3 : Int32)) hx hb dX12_newcomer_74 (by decide) ?_
            refine lv_iconst (v := (4 : Int32)) hx hb dX12_newcomer_75 (by decide) ?_
            refine lv_iload hx hb dX12_newcomer_76 (lv_at hl 0 rfl) ?_
            refine lv_imul hx hb dX12_newcomer_78 ?_
            refine lv_iadd hx hb dX12_newcomer_79 ?_
            obtain ⟨v_37, e_37, h⟩ := sd_nm_some h
            refine sd_nmi e_37 ?_
            refine lv_istore (lv' := [(7, .int v_37), (6, .int r_20), (0, .ref (ad 130)), (1, .int x1), (2, .int x2), (3, .int x3), (4, .int x4), (5, .int x5)]) hx hb dX12_newcomer_80 hl (by decide) rfl (fun ls hl => ?_)
            refine lv_aload_n hx hb dX12_newcomer_82 rfl (lv_at hl 2 rfl) ?_
            refine sd_g12_10 (k := 130) C X (by decide) sd_w8_8 dX12_newcomer_83 ?_
            refine lv_iload hx hb dX12_newcomer_86 (lv_at hl 0 rfl) ?_
            refine lv_iconst (v := (1 : Int32)) hx hb dX12_newcomer_88 (by decide) ?_
            refine lv_iadd hx hb dX12_newcomer_89 ?_
            refine lv_iconst (v := (0 : Int32)) hx hb dX12_newcomer_90 (by decide) ?_
            obtain ⟨bS_38, S_38, eS_38, h⟩ := sd_st_some h
            refine sd_iast C X (by decide) bS_38 dX12_newcomer_91 (fun H locs X => ?_)
            rw [← eS_38] at X
            refine lv_aload_n hx hb dX12_newcomer_92 rfl (lv_at hl 2 rfl) ?_
            refine sd_g12_10 (k := 130) C X (by decide) sd_w8_8 dX12_newcomer_93 ?_
            refine lv_iload hx hb dX12_newcomer_96 (lv_at hl 0 rfl) ?_
            refine lv_iconst (v := (2 : Int32)) hx hb dX12_newcomer_98 (by decide) ?_
            refine lv_iadd hx hb dX12_newcomer_99 ?_
            refine lv_iconst (v := (0 : Int32)) hx hb dX12_newcomer_100 (by decide) ?_
            obtain ⟨bS_39, S_39, eS_39, h⟩ := sd_st_some h
            refine sd_iast C X (by decide) bS_39 dX12_newcomer_101 (fun H locs X => ?_)
            rw [← eS_39] at X
            refine lv_aload_n hx hb dX12_newcomer_102 rfl (lv_at hl 2 rfl) ?_
            refine sd_g12_10 (k := 130) C X (by decide) sd_w8_8 dX12_newcomer_103 ?_
            refine lv_iload hx hb dX12_newcomer_106 (lv_at hl 0 rfl) ?_
            refine lv_iconst (v := (3 : Int32)) hx hb dX12_newcomer_108 (by decide) ?_
            refine lv_iadd hx hb dX12_newcomer_109 ?_
            refine lv_iload_n hx hb dX12_newcomer_110 rfl (lv_at hl 4 rfl) ?_
            obtain ⟨bS_40, S_40, eS_40, h⟩ := sd_st_some h
            refine sd_iast C X (by decide) bS_40 dX12_newcomer_111 (fun H locs X => ?_)
            rw [← eS_40] at X
            refine lv_iconst (v := (0 : Int32)) hx hb dX12_newcomer_112 (by decide) ?_
            refine lv_istore (lv' := [(8, .int (0 : Int32)), (7, .int v_37), (6, .int r_20), (0, .ref (ad 130)), (1, .int x1), (2, .int x2), (3, .int x3), (4, .int x4), (5, .int x5)]) hx hb dX12_newcomer_113 hl (by decide) rfl (fun ls hl => ?_)
            exact t_X12_newcomer_l115 C sd_FU x1 x3 x4 x5 r_20 v_37 (0 : Int32) S_40 _ _ _ h X (lv_sub hl [3, 4, 6, 7, 8, 2, 1, 0] rfl)
          · have h := sd_ifp c_33 h
            refine lv_iconst (v := (-1 : Int32)) hx hb dX12_newcomer_56 (by decide) ?_
            cases h
            exact sd_iret C X dX12_newcomer_57
theorem k_X12_newcomer (C : sd_C own cc nL rt D cy ad A b0 p s m args meth c) (X : sd_H D cy ad A s S H locs) (hls : ls.size = nL) {x1 : Int32} {x2 : Int32} {x3 : Int32} {x4 : Int32} {x5 : Int32} {S2 : sd_St} {r : Int32} (h : f_X12_newcomer x1 x2 x3 x4 x5 S = some (r, S2)) (hlink : Cond.methodLink own index yX12_newcomer ∈ sd_wl) (hR : 7 ≤ R.frames ∧ 270 ≤ R.locals ∧ cells ≤ R.cells ∧ slots ≤ R.slots) (hst : (rest.map fun v => v.category).sum ≤ 8) (hdg : decode cc pc = .ok (.invokevirtual index, 3)) (kk : ∀ (H1 : Heap) (locs1 : List Loc), sd_H D cy ad A s S2 H1 locs1 → W p l e R s m args below meth c H1 locs1 cells slots Q (F0 m (pc + 3) ls (.int r :: rest))) : W p l e R s m args below meth c H locs cells slots Q (F0 m pc ls (.int x5 :: .int x4 :: .int x3 :: .int x2 :: .int x1 :: .ref (ad 130) :: rest)) :=
  sd_goI X (sd_runV C X hls (n := 5) (k := 130) (As := [.int x1, .int x2, .int x3, .int x4, .int x5]) (c_X12_newcomer (l := l) (b0 := b0) h) (sd_goodV hlink sd_w43_11 sd_w43_12 sd_w1_5 sd_w43_13) (ci := 12) rfl (by rw [(show sd_kd 130 = 12 by decide)]; decide) (sd_c12 (show sd_kd 130 = 12 by decide)) (by decide +kernel) rfl hR rfl hst hdg) kk
/-! ===== SecretDaysModel.reports()I ===== -/
def f_X12_reports (S : sd_St) : Option (Int32 × sd_St) := sd_ld S 136 (97 : Int32) (fun v_1 => (some (v_1, S)))
set_option maxHeartbeats 4000000 in
set_option maxRecDepth 100000 in
theorem c_X12_reports {S S' : sd_St} {r : Int32} (h : f_X12_reports S = some (r, S')) : Met l yX12_reports (Cond.code yX12_reports cX12_reports 1 (some .int) :: sd_wl) (sd_rm 0) (sd_P D cy ad A b0 [.ref (ad 130)] S) (sd_Qi D cy ad A r S') 0 0 A := by
  refine sd_met (by decide) (Nat.le_of_ble_eq_true rfl) (fun p e s m args below meth c ls C X hl => ?_)
  obtain ⟨hx, hb, -, hml, hown, hts, -, hG⟩ := id C
  replace C : sd_C RX12 cX12_reports 1 (some .int) D cy ad A b0 p s m args meth c := C
  replace hl : lv_has ls 1 [(0, .ref (ad 130))] := hl
  unfold f_X12_reports at h
  refine lv_aload_n hx hb dX12_reports_0 rfl (lv_at hl 0 rfl) ?_
  refine sd_g12_10 (k := 130) C X (by decide) sd_w8_8 dX12_reports_1 ?_
  refine lv_bipush (v := (97 : Int32)) hx hb dX12_reports_4 (by decide) ?_
  obtain ⟨b_1, v_1, e_1, h⟩ := sd_ld_some h
  refine sd_iald C X (by decide) b_1 dX12_reports_6 (sd_nmi e_1 ?_)
  cases h
  exact sd_iret C X dX12_reports_7
theorem k_X12_reports (C : sd_C own cc nL rt D cy ad A b0 p s m args meth c) (X : sd_H D cy ad A s S H locs) (hls : ls.size = nL) {S2 : sd_St} {r : Int32} (h : f_X12_reports S = some (r, S2)) (hlink : Cond.methodLink own index yX12_reports ∈ sd_wl) (hR : 1 ≤ R.frames ∧ 20 ≤ R.locals ∧ cells ≤ R.cells ∧ slots ≤ R.slots) (hst : (rest.map fun v => v.category).sum ≤ 8) (hdg : decode cc pc = .ok (.invokevirtual index, 3)) (kk : ∀ (H1 : Heap) (locs1 : List Loc), sd_H D cy ad A s S2 H1 locs1 → W p l e R s m args below meth c H1 locs1 cells slots Q (F0 m (pc + 3) ls (.int r :: rest))) : W p l e R s m args below meth c H locs cells slots Q (F0 m pc ls (.ref (ad 130) :: rest)) :=
  sd_goI X (sd_runV C X hls (n := 0) (k := 130) (As := []) (c_X12_reports (l := l) (b0 := b0) h) (sd_goodV hlink sd_w44_4 sd_w44_5 sd_w1_5 sd_w44_6) (ci := 12) rfl (by rw [(show sd_kd 130 = 12 by decide)]; decide) (sd_c12 (show sd_kd 130 = 12 by decide)) (by decide +kernel) rfl hR rfl hst hdg) kk
/-! ===== SecretDaysModel.report(IIIZ)I ===== -/
def f_X12_report_b89 (w1 : Int32) (w2 : Int32) (S : sd_St) : Option (Int32 × sd_St) := sd_st S 136 w1 w2 (fun S_1 => sd_ld S_1 136 (97 : Int32) (fun v_2 => sd_st S_1 136 (97 : Int32) (v_2 + (1 : Int32)) (fun S_3 => sd_cl (f_X12_reports S_3) (fun r_5 S_4 => (some (r_5, S_4))))))
set_option maxHeartbeats 4000000 in
set_option maxRecDepth 100000 in
theorem t_X12_report_b89 (C : sd_C RX12 cX12_report 6 (some .int) D cy ad A b0 p s m args meth c) {r : Int32} {S' : sd_St} : ∀ (w1 : Int32) (w2 : Int32) (S : sd_St) (H : Heap) (locs : List Loc) (ls : Array Slot), f_X12_report_b89 w1 w2 S = some (r, S') → sd_H D cy ad A s S H locs → lv_has ls 6 [(0, .ref (ad 130))] → W p l e (sd_rm 3) s m args below meth c H locs 0 0 (MQ below (sd_Qi D cy ad A r S') args s 0 0 A) (F0 m 89 ls [.int w2, .int w1, .ref (ad 136)]) := by
  obtain ⟨hx, hb, -, hml, hown, hts, -, hG⟩ := id C
  intro w1 w2 S H locs ls h X hl
  unfold f_X12_report_b89 at h
  obtain ⟨bS_1, S_1, eS_1, h⟩ := sd_st_some h
  refine sd_iast C X (by decide) bS_1 dX12_report_89 (fun H locs X => ?_)
  rw [← eS_1] at X
  refine lv_aload_n hx hb dX12_report_90 rfl (lv_at hl 0 rfl) ?_
  refine sd_g12_10 (k := 130) C X (by decide) sd_w8_8 dX12_report_91 ?_
  refine lv_bipush (v := (97 : Int32)) hx hb dX12_report_94 (by decide) ?_
  refine lv_dup2_11 hx hb dX12_report_96 rfl rfl ?_
  obtain ⟨b_2, v_2, e_2, h⟩ := sd_ld_some h
  refine sd_iald C X (by decide) b_2 dX12_report_97 (sd_nmi e_2 ?_)
  refine lv_iconst (v := (1 : Int32)) hx hb dX12_report_98 (by decide) ?_
  refine lv_iadd hx hb dX12_report_99 ?_
  obtain ⟨bS_3, S_3, eS_3, h⟩ := sd_st_some h
  refine sd_iast C X (by decide) bS_3 dX12_report_100 (fun H locs X => ?_)
  rw [← eS_3] at X
  refine lv_aload_n hx hb dX12_report_101 rfl (lv_at hl 0 rfl) ?_
  obtain ⟨r_5, S_4, er_5, h⟩ := sd_cl_some h
  refine k_X12_reports C X hl.1 er_5 sd_w44_3 (by decide) (Nat.le_of_ble_eq_true rfl) dX12_report_102 (fun H locs X => ?_)
  cases h
  exact sd_iret C X dX12_report_105
def f_X12_report (x1 : Int32) (x2 : Int32) (x3 : Int32) (x4 : Int32) (S : sd_St) : Option (Int32 × sd_St) := sd_nm (sd_I S 130 0 (0 : Int32)) (fun S_6 => sd_cl (f_X12_areThere x2 x1 S_6) (fun r_8 S_7 => (if r_8 = 0 then (some ((-1 : Int32), S_7)) else sd_cl (f_X12_isDate x3 S_7) (fun r_11 S_10 => (if r_11 = 0 then (some ((-1 : Int32), S_10)) else sd_cl (f_X12_reports S_10) (fun r_14 S_13 => (if r_14 = (16 : Int32) then (some ((-1 : Int32), S_13)) else sd_cl (f_X12_reports S_13) (fun r_17 S_16 => sd_nm (((98 : Int32) + ((4 : Int32) * r_17))) (fun v_18 => sd_st S_16 136 v_18 x1 (fun S_19 => sd_st S_19 136 (v_18 + (1 : Int32)) x2 (fun S_20 => sd_st S_20 136 (v_18 + (2 : Int32)) x3 (fun S_21 => (if x4 = 0 then f_X12_report_b89 (v_18 + (3 : Int32)) (0 : Int32) S_21 else f_X12_report_b89 (v_18 + (3 : Int32)) (1 : Int32) S_21)))))))))))))
set_option maxHeartbeats 4000000 in
set_option maxRecDepth 100000 in
theorem c_X12_report {x1 : Int32} {x2 : Int32} {x3 : Int32} {x4 : Int32} {S S' : sd_St} {r : Int32} (h : f_X12_report x1 x2 x3 x4 S = some (r, S')) : Met l yX12_report (Cond.code yX12_report cX12_report 6 (some .int) :: sd_wl) (sd_rm 3) (sd_P D cy ad A b0 [.ref (ad 130), .int x1, .int x2, .int x3, .int x4] S) (sd_Qi D cy ad A r S') 0 0 A := by
  refine sd_met (by decide) (Nat.le_of_ble_eq_true rfl) (fun p e s m args below meth c ls C X hl => ?_)
  obtain ⟨hx, hb, -, hml, hown, hts, -, hG⟩ := id C
  replace C : sd_C RX12 cX12_report 6 (some .int) D cy ad A b0 p s m args meth c := C
  replace hl : lv_has ls 6 [(0, .ref (ad 130)), (1, .int x1), (2, .int x2), (3, .int x3), (4, .int x4)] := hl
  unfold f_X12_report at h
  refine lv_aload_n hx hb dX12_report_0 rfl (lv_at hl 0 rfl) ?_
  refine lv_iconst (v := (0 : Int32)) hx hb dX12_report_1 (by decide) ?_
  obtain ⟨S_6, eS_6, h⟩ := sd_nm_some h
  refine sd_p12_0 C X (by decide) sd_w9_3 dX12_report_2 (fun H locs X => ?_)
  rw [← eS_6] at X
  refine lv_aload_n hx hb dX12_report_5 rfl (lv_at hl 0 rfl) ?_
  refine lv_iload_n hx hb dX12_report_6 rfl (lv_at hl 2 rfl) ?_
  refine lv_iload_n hx hb dX12_report_7 rfl (lv_at hl 1 rfl) ?_
  obtain ⟨r_8, S_7, er_8, h⟩ := sd_cl_some h
  refine k_X12_areThere C X hl.1 er_8 sd_w31_11 (by decide) (Nat.le_of_ble_eq_true rfl) dX12_report_8 (fun H locs X => ?_)
  refine lv_if_eq (tgt := 30) hx hb dX12_report_11 (by decide) (fun c_9 => ?_) (fun c_9 => ?_)
  · have h := sd_ifp c_9 h
    refine lv_iconst (v := (-1 : Int32)) hx hb dX12_report_30 (by decide) ?_
    cases h
    exact sd_iret C X dX12_report_31
  · have h := sd_ifn c_9 h
    refine lv_iload_n hx hb dX12_report_14 rfl (lv_at hl 3 rfl) ?_
    obtain ⟨r_11, S_10, er_11, h⟩ := sd_cl_some h
    refine k_X12_isDate C X hl.1 er_11 sd_w26_1 (by decide) (Nat.le_of_ble_eq_true rfl) dX12_report_15 (fun H locs X => ?_)
    refine lv_if_eq (tgt := 30) hx hb dX12_report_18 (by decide) (fun c_12 => ?_) (fun c_12 => ?_)
    · have h := sd_ifp c_12 h
      refine lv_iconst (v := (-1 : Int32)) hx hb dX12_report_30 (by decide) ?_
      cases h
      exact sd_iret C X dX12_report_31
    · have h := sd_ifn c_12 h
      refine lv_aload_n hx hb dX12_report_21 rfl (lv_at hl 0 rfl) ?_
      obtain ⟨r_14, S_13, er_14, h⟩ := sd_cl_some h
      refine k_X12_reports C X hl.1 er_14 sd_w44_3 (by decide) (Nat.le_of_ble_eq_true rfl) dX12_report_22 (fun H locs X => ?_)
      refine lv_bipush (v := (16 : Int32)) hx hb dX12_report_25 (by decide) ?_
      refine lv_icmp_ne (tgt := 32) hx hb dX12_report_27 (by decide) (fun c_15 => ?_) (fun c_15 => ?_)
      · have h := sd_ifn c_15 h
        refine lv_bipush (v := (98 : Int32)) hx hb dX12_report_32 (by decide) ?_
        refine lv_iconst (v := (4 : Int32)) hx hb dX12_report_34 (by decide) ?_
        refine lv_aload_n hx hb dX12_report_35 rfl (lv_at hl 0 rfl) ?_
        obtain ⟨r_17, S_16, er_17, h⟩ := sd_cl_some h
        refine k_X12_reports C X hl.1 er_17 sd_w44_3 (by decide) (Nat.le_of_ble_eq_true rfl) dX12_report_36 (fun H locs X => ?_)
        refine lv_imul hx hb dX12_report_39 ?_
        refine lv_iadd hx hb dX12_report_40 ?_
        obtain ⟨v_18, e_18, h⟩ := sd_nm_some h
        refine sd_nmi e_18 ?_
        refine lv_istore (lv' := [(5, .int v_18), (0, .ref (ad 130)), (1, .int x1), (2, .int x2), (3, .int x3), (4, .int x4)]) hx hb dX12_report_41 hl (by decide) rfl (fun ls hl => ?_)
        refine lv_aload_n hx hb dX12_report_43 rfl (lv_at hl 1 rfl) ?_
        refine sd_g12_10 (k := 130) C X (by decide) sd_w8_8 dX12_report_44 ?_
        refine lv_iload hx hb dX12_report_47 (lv_at hl 0 rfl) ?_
        refine lv_iload_n hx hb dX12_report_49 rfl (lv_at hl 2 rfl) ?_
        obtain ⟨bS_19, S_19, eS_19, h⟩ := sd_st_some h
        refine sd_iast C X (by decide) bS_19 dX12_report_50 (fun H locs X => ?_)
        rw [← eS_19] at X
        refine lv_aload_n hx hb dX12_report_51 rfl (lv_at hl 1 rfl) ?_
        refine sd_g12_10 (k := 130) C X (by decide) sd_w8_8 dX12_report_52 ?_
        refine lv_iload hx hb dX12_report_55 (lv_at hl 0 rfl) ?_
        refine lv_iconst (v := (1 : Int32)) hx hb dX12_report_57 (by decide) ?_
        refine lv_iadd hx hb dX12_report_58 ?_
        refine lv_iload_n hx hb dX12_report_59 rfl (lv_at hl 3 rfl) ?_
        obtain ⟨bS_20, S_20, eS_20, h⟩ := sd_st_some h
        refine sd_iast C X (by decide) bS_20 dX12_report_60 (fun H locs X => ?_)
        rw [← eS_20] at X
        refine lv_aload_n hx hb dX12_report_61 rfl (lv_at hl 1 rfl) ?_
        refine sd_g12_10 (k := 130) C X (by decide) sd_w8_8 dX12_report_62 ?_
        refine lv_iload hx hb dX12_report_65 (lv_at hl 0 rfl) ?_
        refine lv_iconst (v := (2 : Int32)) hx hb dX12_report_67 (by decide) ?_
        refine lv_iadd hx hb dX12_report_68 ?_
        refine lv_iload_n hx hb dX12_report_69 rfl (lv_at hl 4 rfl) ?_
        obtain ⟨bS_21, S_21, eS_21, h⟩ := sd_st_some h
        refine sd_iast C X (by decide) bS_21 dX12_report_70 (fun H locs X => ?_)
        rw [← eS_21] at X
        refine lv_aload_n hx hb dX12_report_71 rfl (lv_at hl 1 rfl) ?_
        refine sd_g12_10 (k := 130) C X (by decide) sd_w8_8 dX12_report_72 ?_
        refine lv_iload hx hb dX12_report_75 (lv_at hl 0 rfl) ?_
        refine lv_iconst (v := (3 : Int32)) hx hb dX12_report_77 (by decide) ?_
        refine lv_iadd hx hb dX12_report_78 ?_
        refine lv_iload hx hb dX12_report_79 (lv_at hl 5 rfl) ?_
        refine lv_if_eq (tgt := 88) hx hb dX12_report_81 (by decide) (fun c_22 => ?_) (fun c_22 => ?_)
        · have h := sd_ifp c_22 h
          refine lv_iconst (v := (0 : Int32)) hx hb dX12_report_88 (by decide) ?_
          exact t_X12_report_b89 C (v_18 + (3 : Int32)) (0 : Int32) S_21 _ _ _ h X (lv_sub hl [1] rfl)
        · have h := sd_ifn c_22 h
          refine lv_iconst (v := (1 : Int32)) hx hb dX12_report_84 (by decide) ?_
          refine lv_goto (tgt := 89) hx hb dX12_report_85 (by decide) ?_
          exact t_X12_report_b89 C (v_18 + (3 : Int32)) (1 : Int32) S_21 _ _ _ h X (lv_sub hl [1] rfl)
      · have h := sd_ifp c_15 h
        refine lv_iconst (v := (-1 : Int32)) hx hb dX12_report_30 (by decide) ?_
        cases h
        exact sd_iret C X dX12_report_31
theorem k_X12_report (C : sd_C own cc nL rt D cy ad A b0 p s m args meth c) (X : sd_H D cy ad A s S H locs) (hls : ls.size = nL) {x1 : Int32} {x2 : Int32} {x3 : Int32} {x4 : Int32} {S2 : sd_St} {r : Int32} (h : f_X12_report x1 x2 x3 x4 S = some (r, S2)) (hlink : Cond.methodLink own index yX12_report ∈ sd_wl) (hR : 4 ≤ R.frames ∧ 145 ≤ R.locals ∧ cells ≤ R.cells ∧ slots ≤ R.slots) (hst : (rest.map fun v => v.category).sum ≤ 8) (hdg : decode cc pc = .ok (.invokevirtual index, 3)) (kk : ∀ (H1 : Heap) (locs1 : List Loc), sd_H D cy ad A s S2 H1 locs1 → W p l e R s m args below meth c H1 locs1 cells slots Q (F0 m (pc + 3) ls (.int r :: rest))) : W p l e R s m args below meth c H locs cells slots Q (F0 m pc ls (.int x4 :: .int x3 :: .int x2 :: .int x1 :: .ref (ad 130) :: rest)) :=
  sd_goI X (sd_runV C X hls (n := 4) (k := 130) (As := [.int x1, .int x2, .int x3, .int x4]) (c_X12_report (l := l) (b0 := b0) h) (sd_goodV hlink sd_w44_0 sd_w44_1 sd_w1_5 sd_w44_2) (ci := 12) rfl (by rw [(show sd_kd 130 = 12 by decide)]; decide) (sd_c12 (show sd_kd 130 = 12 by decide)) (by decide +kernel) rfl hR rfl hst hdg) kk
/-! ===== SecretDaysModel.clear()Z ===== -/
def f_X12_clear (S : sd_St) : Option (Int32 × sd_St) := sd_nm (sd_I S 130 0 (0 : Int32)) (fun S_1 => sd_st S_1 136 (97 : Int32) (0 : Int32) (fun S_2 => (some ((1 : Int32), S_2))))
set_option maxHeartbeats 4000000 in
set_option maxRecDepth 100000 in
theorem c_X12_clear {S S' : sd_St} {r : Int32} (h : f_X12_clear S = some (r, S')) : Met l yX12_clear (Cond.code yX12_clear cX12_clear 1 (some .boolean) :: sd_wl) (sd_rm 0) (sd_P D cy ad A b0 [.ref (ad 130)] S) (sd_Qi D cy ad A r S') 0 0 A := by
  refine sd_met (by decide) (Nat.le_of_ble_eq_true rfl) (fun p e s m args below meth c ls C X hl => ?_)
  obtain ⟨hx, hb, -, hml, hown, hts, -, hG⟩ := id C
  replace C : sd_C RX12 cX12_clear 1 (some .boolean) D cy ad A b0 p s m args meth c := C
  replace hl : lv_has ls 1 [(0, .ref (ad 130))] := hl
  unfold f_X12_clear at h
  refine lv_aload_n hx hb dX12_clear_0 rfl (lv_at hl 0 rfl) ?_
  refine lv_iconst (v := (0 : Int32)) hx hb dX12_clear_1 (by decide) ?_
  obtain ⟨S_1, eS_1, h⟩ := sd_nm_some h
  refine sd_p12_0 C X (by decide) sd_w9_3 dX12_clear_2 (fun H locs X => ?_)
  rw [← eS_1] at X
  refine lv_aload_n hx hb dX12_clear_5 rfl (lv_at hl 0 rfl) ?_
  refine sd_g12_10 (k := 130) C X (by decide) sd_w8_8 dX12_clear_6 ?_
  refine lv_bipush (v := (97 : Int32)) hx hb dX12_clear_9 (by decide) ?_
  refine lv_iconst (v := (0 : Int32)) hx hb dX12_clear_11 (by decide) ?_
  obtain ⟨bS_2, S_2, eS_2, h⟩ := sd_st_some h
  refine sd_iast C X (by decide) bS_2 dX12_clear_12 (fun H locs X => ?_)
  rw [← eS_2] at X
  refine lv_iconst (v := (1 : Int32)) hx hb dX12_clear_13 (by decide) ?_
  cases h
  exact sd_zret C X (by decide) dX12_clear_14
theorem k_X12_clear (C : sd_C own cc nL rt D cy ad A b0 p s m args meth c) (X : sd_H D cy ad A s S H locs) (hls : ls.size = nL) {S2 : sd_St} {r : Int32} (h : f_X12_clear S = some (r, S2)) (hlink : Cond.methodLink own index yX12_clear ∈ sd_wl) (hR : 1 ≤ R.frames ∧ 20 ≤ R.locals ∧ cells ≤ R.cells ∧ slots ≤ R.slots) (hst : (rest.map fun v => v.category).sum ≤ 8) (hdg : decode cc pc = .ok (.invokevirtual index, 3)) (kk : ∀ (H1 : Heap) (locs1 : List Loc), sd_H D cy ad A s S2 H1 locs1 → W p l e R s m args below meth c H1 locs1 cells slots Q (F0 m (pc + 3) ls (.int r :: rest))) : W p l e R s m args below meth c H locs cells slots Q (F0 m pc ls (.ref (ad 130) :: rest)) :=
  sd_goI X (sd_runV C X hls (n := 0) (k := 130) (As := []) (c_X12_clear (l := l) (b0 := b0) h) (sd_goodV hlink sd_w44_12 sd_w44_13 sd_w1_5 sd_w44_14) (ci := 12) rfl (by rw [(show sd_kd 130 = 12 by decide)]; decide) (sd_c12 (show sd_kd 130 = 12 by decide)) (by decide +kernel) rfl hR rfl hst hdg) kk
/-! ===== SecretDaysModel.areSo(I)Z ===== -/
def f_X12_areSo_b96 (q4 : (Int32 → Int32 → Int32 → sd_St → Option (Int32 × sd_St))) (x1 : Int32) (x3 : Int32) (w0 : Int32) (S : sd_St) : Option (Int32 × sd_St) := q4 x1 w0 (x3 + (1 : Int32)) S
set_option maxHeartbeats 4000000 in
set_option maxRecDepth 100000 in
theorem t_X12_areSo_b96 (C : sd_C RX12 cX12_areSo 6 (some .boolean) D cy ad A b0 p s m args meth c) {r : Int32} {S' : sd_St} {q4 : (Int32 → Int32 → Int32 → sd_St → Option (Int32 × sd_St))} (hq4 : ∀ (x1 : Int32) (x2 : Int32) (x3 : Int32) (S : sd_St) (H : Heap) (locs : List Loc) (ls : Array Slot), q4 x1 x2 x3 S = some (r, S') → sd_H D cy ad A s S H locs → lv_has ls 6 [(0, .ref (ad 130)), (1, .int x1), (2, .int x2), (3, .int x3)] → W p l e (sd_rm 1) s m args below meth c H locs 0 0 (MQ below (sd_Qi D cy ad A r S') args s 0 0 A) (F0 m 4 ls [])) : ∀ (x1 : Int32) (x3 : Int32) (w0 : Int32) (S : sd_St) (H : Heap) (locs : List Loc) (ls : Array Slot), f_X12_areSo_b96 q4 x1 x3 w0 S = some (r, S') → sd_H D cy ad A s S H locs → lv_has ls 6 [(0, .ref (ad 130)), (1, .int x1), (3, .int x3)] → W p l e (sd_rm 1) s m args below meth c H locs 0 0 (MQ below (sd_Qi D cy ad A r S') args s 0 0 A) (F0 m 96 ls [.int w0]) := by
  obtain ⟨hx, hb, -, hml, hown, hts, -, hG⟩ := id C
  intro x1 x3 w0 S H locs ls h X hl
  unfold f_X12_areSo_b96 at h
  refine lv_istore_n (lv' := [(2, .int w0), (0, .ref (ad 130)), (1, .int x1), (3, .int x3)]) hx hb dX12_areSo_96 rfl hl (by decide) rfl (fun ls hl => ?_)
  refine lv_iinc (v := (x3 + (1 : Int32))) (lv' := [(3, .int (x3 + (1 : Int32))), (2, .int w0), (0, .ref (ad 130)), (1, .int x1)]) hx hb dX12_areSo_97 hl (k := 3) rfl rfl (by decide) rfl (fun ls hl => ?_)
  refine lv_goto (tgt := 4) hx hb dX12_areSo_100 (by decide) ?_
  exact hq4 x1 w0 (x3 + (1 : Int32)) S _ _ _ h X (lv_sub hl [2, 3, 1, 0] rfl)
def f_X12_areSo_b91 (q4 : (Int32 → Int32 → Int32 → sd_St → Option (Int32 × sd_St))) (x1 : Int32) (x3 : Int32) (S : sd_St) : Option (Int32 × sd_St) := f_X12_areSo_b96 q4 x1 x3 (1 : Int32) S
set_option maxHeartbeats 4000000 in
set_option maxRecDepth 100000 in
theorem t_X12_areSo_b91 (C : sd_C RX12 cX12_areSo 6 (some .boolean) D cy ad A b0 p s m args meth c) {r : Int32} {S' : sd_St} {q4 : (Int32 → Int32 → Int32 → sd_St → Option (Int32 × sd_St))} (hq4 : ∀ (x1 : Int32) (x2 : Int32) (x3 : Int32) (S : sd_St) (H : Heap) (locs : List Loc) (ls : Array Slot), q4 x1 x2 x3 S = some (r, S') → sd_H D cy ad A s S H locs → lv_has ls 6 [(0, .ref (ad 130)), (1, .int x1), (2, .int x2), (3, .int x3)] → W p l e (sd_rm 1) s m args below meth c H locs 0 0 (MQ below (sd_Qi D cy ad A r S') args s 0 0 A) (F0 m 4 ls [])) : ∀ (x1 : Int32) (x3 : Int32) (S : sd_St) (H : Heap) (locs : List Loc) (ls : Array Slot), f_X12_areSo_b91 q4 x1 x3 S = some (r, S') → sd_H D cy ad A s S H locs → lv_has ls 6 [(0, .ref (ad 130)), (1, .int x1), (3, .int x3)] → W p l e (sd_rm 1) s m args below meth c H locs 0 0 (MQ below (sd_Qi D cy ad A r S') args s 0 0 A) (F0 m 91 ls []) := by
  obtain ⟨hx, hb, -, hml, hown, hts, -, hG⟩ := id C
  intro x1 x3 S H locs ls h X hl
  unfold f_X12_areSo_b91 at h
  refine lv_iconst (v := (1 : Int32)) hx hb dX12_areSo_91 (by decide) ?_
  refine lv_goto (tgt := 96) hx hb dX12_areSo_92 (by decide) ?_
  exact t_X12_areSo_b96 C hq4 x1 x3 (1 : Int32) S _ _ _ h X (lv_sub hl [0, 1, 2] rfl)
def f_X12_areSo_b95 (q4 : (Int32 → Int32 → Int32 → sd_St → Option (Int32 × sd_St))) (x1 : Int32) (x3 : Int32) (S : sd_St) : Option (Int32 × sd_St) := f_X12_areSo_b96 q4 x1 x3 (0 : Int32) S
set_option maxHeartbeats 4000000 in
set_option maxRecDepth 100000 in
theorem t_X12_areSo_b95 (C : sd_C RX12 cX12_areSo 6 (some .boolean) D cy ad A b0 p s m args meth c) {r : Int32} {S' : sd_St} {q4 : (Int32 → Int32 → Int32 → sd_St → Option (Int32 × sd_St))} (hq4 : ∀ (x1 : Int32) (x2 : Int32) (x3 : Int32) (S : sd_St) (H : Heap) (locs : List Loc) (ls : Array Slot), q4 x1 x2 x3 S = some (r, S') → sd_H D cy ad A s S H locs → lv_has ls 6 [(0, .ref (ad 130)), (1, .int x1), (2, .int x2), (3, .int x3)] → W p l e (sd_rm 1) s m args below meth c H locs 0 0 (MQ below (sd_Qi D cy ad A r S') args s 0 0 A) (F0 m 4 ls [])) : ∀ (x1 : Int32) (x3 : Int32) (S : sd_St) (H : Heap) (locs : List Loc) (ls : Array Slot), f_X12_areSo_b95 q4 x1 x3 S = some (r, S') → sd_H D cy ad A s S H locs → lv_has ls 6 [(0, .ref (ad 130)), (1, .int x1), (3, .int x3)] → W p l e (sd_rm 1) s m args below meth c H locs 0 0 (MQ below (sd_Qi D cy ad A r S') args s 0 0 A) (F0 m 95 ls []) := by
  obtain ⟨hx, hb, -, hml, hown, hts, -, hG⟩ := id C
  intro x1 x3 S H locs ls h X hl
  unfold f_X12_areSo_b95 at h
  refine lv_iconst (v := (0 : Int32)) hx hb dX12_areSo_95 (by decide) ?_
  exact t_X12_areSo_b96 C hq4 x1 x3 (0 : Int32) S _ _ _ h X (lv_sub hl [0, 1, 2] rfl)
def f_X12_areSo_b88 (q4 : (Int32 → Int32 → Int32 → sd_St → Option (Int32 × sd_St))) (x1 : Int32) (x3 : Int32) (w0 : Int32) (w1 : Int32) (S : sd_St) : Option (Int32 × sd_St) := (if w0 = w1 then f_X12_areSo_b91 q4 x1 x3 S else f_X12_areSo_b95 q4 x1 x3 S)
set_option maxHeartbeats 4000000 in
set_option maxRecDepth 100000 in
theorem t_X12_areSo_b88 (C : sd_C RX12 cX12_areSo 6 (some .boolean) D cy ad A b0 p s m args meth c) {r : Int32} {S' : sd_St} {q4 : (Int32 → Int32 → Int32 → sd_St → Option (Int32 × sd_St))} (hq4 : ∀ (x1 : Int32) (x2 : Int32) (x3 : Int32) (S : sd_St) (H : Heap) (locs : List Loc) (ls : Array Slot), q4 x1 x2 x3 S = some (r, S') → sd_H D cy ad A s S H locs → lv_has ls 6 [(0, .ref (ad 130)), (1, .int x1), (2, .int x2), (3, .int x3)] → W p l e (sd_rm 1) s m args below meth c H locs 0 0 (MQ below (sd_Qi D cy ad A r S') args s 0 0 A) (F0 m 4 ls [])) : ∀ (x1 : Int32) (x3 : Int32) (w0 : Int32) (w1 : Int32) (S : sd_St) (H : Heap) (locs : List Loc) (ls : Array Slot), f_X12_areSo_b88 q4 x1 x3 w0 w1 S = some (r, S') → sd_H D cy ad A s S H locs → lv_has ls 6 [(0, .ref (ad 130)), (1, .int x1), (3, .int x3)] → W p l e (sd_rm 1) s m args below meth c H locs 0 0 (MQ below (sd_Qi D cy ad A r S') args s 0 0 A) (F0 m 88 ls [.int w1, .int w0]) := by
  obtain ⟨hx, hb, -, hml, hown, hts, -, hG⟩ := id C
  intro x1 x3 w0 w1 S H locs ls h X hl
  unfold f_X12_areSo_b88 at h
  refine lv_icmp_ne (tgt := 95) hx hb dX12_areSo_88 (by decide) (fun c_1 => ?_) (fun c_1 => ?_)
  · have h := sd_ifn c_1 h
    exact t_X12_areSo_b95 C hq4 x1 x3 S _ _ _ h X (lv_sub hl [0, 1, 2] rfl)
  · have h := sd_ifp c_1 h
    exact t_X12_areSo_b91 C hq4 x1 x3 S _ _ _ h X (lv_sub hl [0, 1, 2] rfl)
def f_X12_areSo_b49 (q4 : (Int32 → Int32 → Int32 → sd_St → Option (Int32 × sd_St))) (x1 : Int32) (x2 : Int32) (x3 : Int32) (x4 : Int32) (w0 : Int32) (S : sd_St) : Option (Int32 × sd_St) := (if x2 = 0 then f_X12_areSo_b95 q4 x1 x3 S else sd_ld S 136 (x4 + (1 : Int32)) (fun v_3 => (if v_3 = x1 then sd_ld S 136 (x4 + (3 : Int32)) (fun v_5 => (if v_5 = (1 : Int32) then f_X12_areSo_b88 q4 x1 x3 w0 (1 : Int32) S else f_X12_areSo_b88 q4 x1 x3 w0 (0 : Int32) S)) else f_X12_areSo_b91 q4 x1 x3 S)))
set_option maxHeartbeats 4000000 in
set_option maxRecDepth 100000 in
theorem t_X12_areSo_b49 (C : sd_C RX12 cX12_areSo 6 (some .boolean) D cy ad A b0 p s m args meth c) {r : Int32} {S' : sd_St} {q4 : (Int32 → Int32 → Int32 → sd_St → Option (Int32 × sd_St))} (hq4 : ∀ (x1 : Int32) (x2 : Int32) (x3 : Int32) (S : sd_St) (H : Heap) (locs : List Loc) (ls : Array Slot), q4 x1 x2 x3 S = some (r, S') → sd_H D cy ad A s S H locs → lv_has ls 6 [(0, .ref (ad 130)), (1, .int x1), (2, .int x2), (3, .int x3)] → W p l e (sd_rm 1) s m args below meth c H locs 0 0 (MQ below (sd_Qi D cy ad A r S') args s 0 0 A) (F0 m 4 ls [])) : ∀ (x1 : Int32) (x2 : Int32) (x3 : Int32) (x4 : Int32) (w0 : Int32) (S : sd_St) (H : Heap) (locs : List Loc) (ls : Array Slot), f_X12_areSo_b49 q4 x1 x2 x3 x4 w0 S = some (r, S') → sd_H D cy ad A s S H locs → lv_has ls 6 [(0, .ref (ad 130)), (1, .int x1), (2, .int x2), (3, .int x3), (4, .int x4)] → W p l e (sd_rm 1) s m args below meth c H locs 0 0 (MQ below (sd_Qi D cy ad A r S') args s 0 0 A) (F0 m 49 ls [.int w0]) := by
  obtain ⟨hx, hb, -, hml, hown, hts, -, hG⟩ := id C
  intro x1 x2 x3 x4 w0 S H locs ls h X hl
  unfold f_X12_areSo_b49 at h
  refine lv_istore (lv' := [(5, .int w0), (0, .ref (ad 130)), (1, .int x1), (2, .int x2), (3, .int x3), (4, .int x4)]) hx hb dX12_areSo_49 hl (by decide) rfl (fun ls hl => ?_)
  refine lv_iload_n hx hb dX12_areSo_51 rfl (lv_at hl 3 rfl) ?_
  refine lv_if_eq (tgt := 95) hx hb dX12_areSo_52 (by decide) (fun c_2 => ?_) (fun c_2 => ?_)
  · have h := sd_ifp c_2 h
    exact t_X12_areSo_b95 C hq4 x1 x3 S _ _ _ h X (lv_sub hl [1, 2, 4] rfl)
  · have h := sd_ifn c_2 h
    refine lv_aload_n hx hb dX12_areSo_55 rfl (lv_at hl 1 rfl) ?_
    refine sd_g12_10 (k := 130) C X (by decide) sd_w8_8 dX12_areSo_56 ?_
    refine lv_iload hx hb dX12_areSo_59 (lv_at hl 5 rfl) ?_
    refine lv_iconst (v := (1 : Int32)) hx hb dX12_areSo_61 (by decide) ?_
    refine lv_iadd hx hb dX12_areSo_62 ?_
    obtain ⟨b_3, v_3, e_3, h⟩ := sd_ld_some h
    refine sd_iald C X (by decide) b_3 dX12_areSo_63 (sd_nmi e_3 ?_)
    refine lv_iload_n hx hb dX12_areSo_64 rfl (lv_at hl 2 rfl) ?_
    refine lv_icmp_ne (tgt := 91) hx hb dX12_areSo_65 (by decide) (fun c_4 => ?_) (fun c_4 => ?_)
    · have h := sd_ifn c_4 h
      exact t_X12_areSo_b91 C hq4 x1 x3 S _ _ _ h X (lv_sub hl [1, 2, 4] rfl)
    · have h := sd_ifp c_4 h
      refine lv_iload hx hb dX12_areSo_68 (lv_at hl 0 rfl) ?_
      refine lv_aload_n hx hb dX12_areSo_70 rfl (lv_at hl 1 rfl) ?_
      refine sd_g12_10 (k := 130) C X (by decide) sd_w8_8 dX12_areSo_71 ?_
      refine lv_iload hx hb dX12_areSo_74 (lv_at hl 5 rfl) ?_
      refine lv_iconst (v := (3 : Int32)) hx hb dX12_areSo_76 (by decide) ?_
      refine lv_iadd hx hb dX12_areSo_77 ?_
      obtain ⟨b_5, v_5, e_5, h⟩ := sd_ld_some h
      refine sd_iald C X (by decide) b_5 dX12_areSo_78 (sd_nmi e_5 ?_)
      refine lv_iconst (v := (1 : Int32)) hx hb dX12_areSo_79 (by decide) ?_
      refine lv_icmp_ne (tgt := 87) hx hb dX12_areSo_80 (by decide) (fun c_6 => ?_) (fun c_6 => ?_)
      · have h := sd_ifn c_6 h
        refine lv_iconst (v := (0 : Int32)) hx hb dX12_areSo_87 (by decide) ?_
        exact t_X12_areSo_b88 C hq4 x1 x3 w0 (0 : Int32) S _ _ _ h X (lv_sub hl [1, 2, 4] rfl)
      · have h := sd_ifp c_6 h
        refine lv_iconst (v := (1 : Int32)) hx hb dX12_areSo_83 (by decide) ?_
        refine lv_goto (tgt := 88) hx hb dX12_areSo_84 (by decide) ?_
        exact t_X12_areSo_b88 C hq4 x1 x3 w0 (1 : Int32) S _ _ _ h X (lv_sub hl [1, 2, 4] rfl)
def f_X12_areSo_l4 : Nat → Int32 → Int32 → Int32 → sd_St → Option (Int32 × sd_St)
  | 0 => fun _ _ _ _ => none
  | n + 1 => fun x1 x2 x3 S => sd_cl (f_X12_reports S) (fun r_8 S_7 => (if r_8 ≤ x3 then (sd_ckz x2 (some (x2, S_7))) else sd_nm (((98 : Int32) + ((4 : Int32) * x3))) (fun v_11 => sd_ld S_7 136 v_11 (fun v_12 => sd_ld S_7 140 v_12 (fun v_13 => sd_ld S_7 136 (v_11 + (2 : Int32)) (fun v_14 => (if v_14 < v_13 then f_X12_areSo_b49 (f_X12_areSo_l4 n) x1 x2 x3 v_11 (0 : Int32) S_7 else f_X12_areSo_b49 (f_X12_areSo_l4 n) x1 x2 x3 v_11 (1 : Int32) S_7)))))))
set_option maxHeartbeats 4000000 in
set_option maxRecDepth 100000 in
theorem t_X12_areSo_l4 (C : sd_C RX12 cX12_areSo 6 (some .boolean) D cy ad A b0 p s m args meth c) {r : Int32} {S' : sd_St} : ∀ (n : Nat) (x1 : Int32) (x2 : Int32) (x3 : Int32) (S : sd_St) (H : Heap) (locs : List Loc) (ls : Array Slot), f_X12_areSo_l4 n x1 x2 x3 S = some (r, S') → sd_H D cy ad A s S H locs → lv_has ls 6 [(0, .ref (ad 130)), (1, .int x1), (2, .int x2), (3, .int x3)] → W p l e (sd_rm 1) s m args below meth c H locs 0 0 (MQ below (sd_Qi D cy ad A r S') args s 0 0 A) (F0 m 4 ls []) := by
  obtain ⟨hx, hb, -, hml, hown, hts, -, hG⟩ := id C
  intro n
  induction n with
  | zero => intro x1 x2 x3 S H locs ls h; cases h
  | succ n ih =>
    intro x1 x2 x3 S H locs ls h X hl
    unfold f_X12_areSo_l4 at h
    refine lv_iload_n hx hb dX12_areSo_4 rfl (lv_at hl 3 rfl) ?_
    refine lv_aload_n hx hb dX12_areSo_5 rfl (lv_at hl 0 rfl) ?_
    obtain ⟨r_8, S_7, er_8, h⟩ := sd_cl_some h
    refine k_X12_reports C X hl.1 er_8 sd_w44_3 (by decide) (Nat.le_of_ble_eq_true rfl) dX12_areSo_6 (fun H locs X => ?_)
    refine lv_icmp_ge (tgt := 103) hx hb dX12_areSo_9 (by decide) (fun c_9 => ?_) (fun c_9 => ?_)
    · have h := sd_ifp c_9 h
      refine lv_iload_n hx hb dX12_areSo_103 rfl (lv_at hl 2 rfl) ?_
      obtain ⟨z_10, h⟩ := sd_ckz_some h
      cases h
      exact sd_zret C X z_10 dX12_areSo_104
    · have h := sd_ifn c_9 h
      refine lv_bipush (v := (98 : Int32)) hx hb dX12_areSo_12 (by decide) ?_
      refine lv_iconst (v := (4 : Int32)) hx hb dX12_areSo_14 (by decide) ?_
      refine lv_iload_n hx hb dX12_areSo_15 rfl (lv_at hl 3 rfl) ?_
      refine lv_imul hx hb dX12_areSo_16 ?_
      refine lv_iadd hx hb dX12_areSo_17 ?_
      obtain ⟨v_11, e_11, h⟩ := sd_nm_some h
      refine sd_nmi e_11 ?_
      refine lv_istore (lv' := [(4, .int v_11), (0, .ref (ad 130)), (1, .int x1), (2, .int x2), (3, .int x3)]) hx hb dX12_areSo_18 hl (by decide) rfl (fun ls hl => ?_)
      refine lv_aload_n hx hb dX12_areSo_20 rfl (lv_at hl 1 rfl) ?_
      refine sd_g12_17 (k := 130) C X (by decide) sd_w8_12 dX12_areSo_21 ?_
      refine lv_aload_n hx hb dX12_areSo_24 rfl (lv_at hl 1 rfl) ?_
      refine sd_g12_10 (k := 130) C X (by decide) sd_w8_8 dX12_areSo_25 ?_
      refine lv_iload hx hb dX12_areSo_28 (lv_at hl 0 rfl) ?_
      obtain ⟨b_12, v_12, e_12, h⟩ := sd_ld_some h
      refine sd_iald C X (by decide) b_12 dX12_areSo_30 (sd_nmi e_12 ?_)
      obtain ⟨b_13, v_13, e_13, h⟩ := sd_ld_some h
      refine sd_iald C X (by decide) b_13 dX12_areSo_31 (sd_nmi e_13 ?_)
      refine lv_aload_n hx hb dX12_areSo_32 rfl (lv_at hl 1 rfl) ?_
      refine sd_g12_10 (k := 130) C X (by decide) sd_w8_8 dX12_areSo_33 ?_
      refine lv_iload hx hb dX12_areSo_36 (lv_at hl 0 rfl) ?_
      refine lv_iconst (v := (2 : Int32)) hx hb dX12_areSo_38 (by decide) ?_
      refine lv_iadd hx hb dX12_areSo_39 ?_
      obtain ⟨b_14, v_14, e_14, h⟩ := sd_ld_some h
      refine sd_iald C X (by decide) b_14 dX12_areSo_40 (sd_nmi e_14 ?_)
      refine lv_icmp_gt (tgt := 48) hx hb dX12_areSo_41 (by decide) (fun c_15 => ?_) (fun c_15 => ?_)
      · have h := sd_ifp c_15 h
        refine lv_iconst (v := (0 : Int32)) hx hb dX12_areSo_48 (by decide) ?_
        exact t_X12_areSo_b49 C ih x1 x2 x3 v_11 (0 : Int32) S_7 _ _ _ h X (lv_sub hl [1, 2, 3, 4, 0] rfl)
      · have h := sd_ifn c_15 h
        refine lv_iconst (v := (1 : Int32)) hx hb dX12_areSo_44 (by decide) ?_
        refine lv_goto (tgt := 49) hx hb dX12_areSo_45 (by decide) ?_
        exact t_X12_areSo_b49 C ih x1 x2 x3 v_11 (1 : Int32) S_7 _ _ _ h X (lv_sub hl [1, 2, 3, 4, 0] rfl)
def f_X12_areSo (x1 : Int32) (S : sd_St) : Option (Int32 × sd_St) := f_X12_areSo_l4 sd_FU x1 (1 : Int32) (0 : Int32) S
set_option maxHeartbeats 4000000 in
set_option maxRecDepth 100000 in
theorem c_X12_areSo {x1 : Int32} {S S' : sd_St} {r : Int32} (h : f_X12_areSo x1 S = some (r, S')) : Met l yX12_areSo (Cond.code yX12_areSo cX12_areSo 6 (some .boolean) :: sd_wl) (sd_rm 1) (sd_P D cy ad A b0 [.ref (ad 130), .int x1] S) (sd_Qi D cy ad A r S') 0 0 A := by
  refine sd_met (by decide) (Nat.le_of_ble_eq_true rfl) (fun p e s m args below meth c ls C X hl => ?_)
  obtain ⟨hx, hb, -, hml, hown, hts, -, hG⟩ := id C
  replace C : sd_C RX12 cX12_areSo 6 (some .boolean) D cy ad A b0 p s m args meth c := C
  replace hl : lv_has ls 6 [(0, .ref (ad 130)), (1, .int x1)] := hl
  unfold f_X12_areSo at h
  refine lv_iconst (v := (1 : Int32)) hx hb dX12_areSo_0 (by decide) ?_
  refine lv_istore_n (lv' := [(2, .int (1 : Int32)), (0, .ref (ad 130)), (1, .int x1)]) hx hb dX12_areSo_1 rfl hl (by decide) rfl (fun ls hl => ?_)
  refine lv_iconst (v := (0 : Int32)) hx hb dX12_areSo_2 (by decide) ?_
  refine lv_istore_n (lv' := [(3, .int (0 : Int32)), (2, .int (1 : Int32)), (0, .ref (ad 130)), (1, .int x1)]) hx hb dX12_areSo_3 rfl hl (by decide) rfl (fun ls hl => ?_)
  exact t_X12_areSo_l4 C sd_FU x1 (1 : Int32) (0 : Int32) S _ _ _ h X (lv_sub hl [2, 3, 1, 0] rfl)
theorem k_X12_areSo (C : sd_C own cc nL rt D cy ad A b0 p s m args meth c) (X : sd_H D cy ad A s S H locs) (hls : ls.size = nL) {x1 : Int32} {S2 : sd_St} {r : Int32} (h : f_X12_areSo x1 S = some (r, S2)) (hlink : Cond.methodLink own index yX12_areSo ∈ sd_wl) (hR : 2 ≤ R.frames ∧ 65 ≤ R.locals ∧ cells ≤ R.cells ∧ slots ≤ R.slots) (hst : (rest.map fun v => v.category).sum ≤ 8) (hdg : decode cc pc = .ok (.invokevirtual index, 3)) (kk : ∀ (H1 : Heap) (locs1 : List Loc), sd_H D cy ad A s S2 H1 locs1 → W p l e R s m args below meth c H1 locs1 cells slots Q (F0 m (pc + 3) ls (.int r :: rest))) : W p l e R s m args below meth c H locs cells slots Q (F0 m pc ls (.int x1 :: .ref (ad 130) :: rest)) :=
  sd_goI X (sd_runV C X hls (n := 1) (k := 130) (As := [.int x1]) (c_X12_areSo (l := l) (b0 := b0) h) (sd_goodV hlink sd_w45_9 sd_w45_10 sd_w1_5 sd_w45_11) (ci := 12) rfl (by rw [(show sd_kd 130 = 12 by decide)]; decide) (sd_c12 (show sd_kd 130 = 12 by decide)) (by decide +kernel) rfl hR rfl hst hdg) kk
/-! ===== SecretDaysModel.holdAll()Z ===== -/
def f_X12_holdAll_l4 : Nat → Int32 → Int32 → sd_St → Option (Int32 × sd_St)
  | 0 => fun _ _ _ => none
  | n + 1 => fun x1 x2 S => sd_cl (f_X12_secrets S) (fun r_2 S_1 => (if r_2 ≤ x2 then (sd_ckz x1 (some (x1, S_1))) else (if x1 = 0 then (sd_ckz x1 (some (x1, S_1))) else sd_cl (f_X12_find_ x2 S_1) (fun _ S_7 => sd_cl (f_X12_areSo x2 S_7) (fun r_10 S_9 => (f_X12_holdAll_l4 n) r_10 (x2 + (1 : Int32)) S_9)))))
set_option maxHeartbeats 4000000 in
set_option maxRecDepth 100000 in
theorem t_X12_holdAll_l4 (C : sd_C RX12 cX12_holdAll 3 (some .boolean) D cy ad A b0 p s m args meth c) {r : Int32} {S' : sd_St} : ∀ (n : Nat) (x1 : Int32) (x2 : Int32) (S : sd_St) (H : Heap) (locs : List Loc) (ls : Array Slot), f_X12_holdAll_l4 n x1 x2 S = some (r, S') → sd_H D cy ad A s S H locs → lv_has ls 3 [(0, .ref (ad 130)), (1, .int x1), (2, .int x2)] → W p l e (sd_rm 6) s m args below meth c H locs 0 0 (MQ below (sd_Qi D cy ad A r S') args s 0 0 A) (F0 m 4 ls []) := by
  obtain ⟨hx, hb, -, hml, hown, hts, -, hG⟩ := id C
  intro n
  induction n with
  | zero => intro x1 x2 S H locs ls h; cases h
  | succ n ih =>
    intro x1 x2 S H locs ls h X hl
    unfold f_X12_holdAll_l4 at h
    refine lv_iload_n hx hb dX12_holdAll_4 rfl (lv_at hl 2 rfl) ?_
    refine lv_aload_n hx hb dX12_holdAll_5 rfl (lv_at hl 0 rfl) ?_
    obtain ⟨r_2, S_1, er_2, h⟩ := sd_cl_some h
    refine k_X12_secrets C X hl.1 er_2 sd_w31_19 (by decide) (Nat.le_of_ble_eq_true rfl) dX12_holdAll_6 (fun H locs X => ?_)
    refine lv_icmp_ge (tgt := 33) hx hb dX12_holdAll_9 (by decide) (fun c_3 => ?_) (fun c_3 => ?_)
    · have h := sd_ifp c_3 h
      refine lv_iload_n hx hb dX12_holdAll_33 rfl (lv_at hl 1 rfl) ?_
      obtain ⟨z_4, h⟩ := sd_ckz_some h
      cases h
      exact sd_zret C X z_4 dX12_holdAll_34
    · have h := sd_ifn c_3 h
      refine lv_iload_n hx hb dX12_holdAll_12 rfl (lv_at hl 1 rfl) ?_
      refine lv_if_eq (tgt := 33) hx hb dX12_holdAll_13 (by decide) (fun c_5 => ?_) (fun c_5 => ?_)
      · have h := sd_ifp c_5 h
        refine lv_iload_n hx hb dX12_holdAll_33 rfl (lv_at hl 1 rfl) ?_
        obtain ⟨z_6, h⟩ := sd_ckz_some h
        cases h
        exact sd_zret C X z_6 dX12_holdAll_34
      · have h := sd_ifn c_5 h
        refine lv_aload_n hx hb dX12_holdAll_16 rfl (lv_at hl 0 rfl) ?_
        refine lv_iload_n hx hb dX12_holdAll_17 rfl (lv_at hl 2 rfl) ?_
        obtain ⟨r_8, S_7, er_8, h⟩ := sd_cl_some h
        refine k_X12_find_ C X hl.1 er_8 sd_w31_23 (by decide) (Nat.le_of_ble_eq_true rfl) dX12_holdAll_18 (fun H locs X => ?_)
        refine lv_aload_n hx hb dX12_holdAll_21 rfl (lv_at hl 0 rfl) ?_
        refine lv_iload_n hx hb dX12_holdAll_22 rfl (lv_at hl 2 rfl) ?_
        obtain ⟨r_10, S_9, er_10, h⟩ := sd_cl_some h
        refine k_X12_areSo C X hl.1 er_10 sd_w45_8 (by decide) (Nat.le_of_ble_eq_true rfl) dX12_holdAll_23 (fun H locs X => ?_)
        refine lv_istore_n (lv' := [(1, .int r_10), (0, .ref (ad 130)), (2, .int x2)]) hx hb dX12_holdAll_26 rfl hl (by decide) rfl (fun ls hl => ?_)
        refine lv_iinc (v := (x2 + (1 : Int32))) (lv' := [(2, .int (x2 + (1 : Int32))), (1, .int r_10), (0, .ref (ad 130))]) hx hb dX12_holdAll_27 hl (k := 2) rfl rfl (by decide) rfl (fun ls hl => ?_)
        refine lv_goto (tgt := 4) hx hb dX12_holdAll_30 (by decide) ?_
        exact ih r_10 (x2 + (1 : Int32)) S_9 _ _ _ h X (lv_sub hl [2, 1, 0] rfl)
def f_X12_holdAll (S : sd_St) : Option (Int32 × sd_St) := f_X12_holdAll_l4 sd_FU (1 : Int32) (0 : Int32) S
set_option maxHeartbeats 4000000 in
set_option maxRecDepth 100000 in
theorem c_X12_holdAll {S S' : sd_St} {r : Int32} (h : f_X12_holdAll S = some (r, S')) : Met l yX12_holdAll (Cond.code yX12_holdAll cX12_holdAll 3 (some .boolean) :: sd_wl) (sd_rm 6) (sd_P D cy ad A b0 [.ref (ad 130)] S) (sd_Qi D cy ad A r S') 0 0 A := by
  refine sd_met (by decide) (Nat.le_of_ble_eq_true rfl) (fun p e s m args below meth c ls C X hl => ?_)
  obtain ⟨hx, hb, -, hml, hown, hts, -, hG⟩ := id C
  replace C : sd_C RX12 cX12_holdAll 3 (some .boolean) D cy ad A b0 p s m args meth c := C
  replace hl : lv_has ls 3 [(0, .ref (ad 130))] := hl
  unfold f_X12_holdAll at h
  refine lv_iconst (v := (1 : Int32)) hx hb dX12_holdAll_0 (by decide) ?_
  refine lv_istore_n (lv' := [(1, .int (1 : Int32)), (0, .ref (ad 130))]) hx hb dX12_holdAll_1 rfl hl (by decide) rfl (fun ls hl => ?_)
  refine lv_iconst (v := (0 : Int32)) hx hb dX12_holdAll_2 (by decide) ?_
  refine lv_istore_n (lv' := [(2, .int (0 : Int32)), (1, .int (1 : Int32)), (0, .ref (ad 130))]) hx hb dX12_holdAll_3 rfl hl (by decide) rfl (fun ls hl => ?_)
  exact t_X12_holdAll_l4 C sd_FU (1 : Int32) (0 : Int32) S _ _ _ h X (lv_sub hl [2, 1, 0] rfl)
theorem k_X12_holdAll (C : sd_C own cc nL rt D cy ad A b0 p s m args meth c) (X : sd_H D cy ad A s S H locs) (hls : ls.size = nL) {S2 : sd_St} {r : Int32} (h : f_X12_holdAll S = some (r, S2)) (hlink : Cond.methodLink own index yX12_holdAll ∈ sd_wl) (hR : 7 ≤ R.frames ∧ 262 ≤ R.locals ∧ cells ≤ R.cells ∧ slots ≤ R.slots) (hst : (rest.map fun v => v.category).sum ≤ 8) (hdg : decode cc pc = .ok (.invokevirtual index, 3)) (kk : ∀ (H1 : Heap) (locs1 : List Loc), sd_H D cy ad A s S2 H1 locs1 → W p l e R s m args below meth c H1 locs1 cells slots Q (F0 m (pc + 3) ls (.int r :: rest))) : W p l e R s m args below meth c H locs cells slots Q (F0 m pc ls (.ref (ad 130) :: rest)) :=
  sd_goI X (sd_runV C X hls (n := 0) (k := 130) (As := []) (c_X12_holdAll (l := l) (b0 := b0) h) (sd_goodV hlink sd_w45_5 sd_w45_6 sd_w1_5 sd_w45_7) (ci := 12) rfl (by rw [(show sd_kd 130 = 12 by decide)]; decide) (sd_c12 (show sd_kd 130 = 12 by decide)) (by decide +kernel) rfl hR rfl hst hdg) kk
/-! ===== SecretDaysModel.holds()I ===== -/
def f_X12_holds (S : sd_St) : Option (Int32 × sd_St) := sd_nm (sd_I S 130 0 (0 : Int32)) (fun S_1 => sd_cl (f_X12_holdAll S_1) (fun r_3 S_2 => (if r_3 = 0 then (some ((0 : Int32), S_2)) else (some ((1 : Int32), S_2)))))
set_option maxHeartbeats 4000000 in
set_option maxRecDepth 100000 in
theorem c_X12_holds {S S' : sd_St} {r : Int32} (h : f_X12_holds S = some (r, S')) : Met l yX12_holds (Cond.code yX12_holds cX12_holds 1 (some .int) :: sd_wl) (sd_rm 7) (sd_P D cy ad A b0 [.ref (ad 130)] S) (sd_Qi D cy ad A r S') 0 0 A := by
  refine sd_met (by decide) (Nat.le_of_ble_eq_true rfl) (fun p e s m args below meth c ls C X hl => ?_)
  obtain ⟨hx, hb, -, hml, hown, hts, -, hG⟩ := id C
  replace C : sd_C RX12 cX12_holds 1 (some .int) D cy ad A b0 p s m args meth c := C
  replace hl : lv_has ls 1 [(0, .ref (ad 130))] := hl
  unfold f_X12_holds at h
  refine lv_aload_n hx hb dX12_holds_0 rfl (lv_at hl 0 rfl) ?_
  refine lv_iconst (v := (0 : Int32)) hx hb dX12_holds_1 (by decide) ?_
  obtain ⟨S_1, eS_1, h⟩ := sd_nm_some h
  refine sd_p12_0 C X (by decide) sd_w9_3 dX12_holds_2 (fun H locs X => ?_)
  rw [← eS_1] at X
  refine lv_aload_n hx hb dX12_holds_5 rfl (lv_at hl 0 rfl) ?_
  obtain ⟨r_3, S_2, er_3, h⟩ := sd_cl_some h
  refine k_X12_holdAll C X hl.1 er_3 sd_w45_4 (by decide) (Nat.le_of_ble_eq_true rfl) dX12_holds_6 (fun H locs X => ?_)
  refine lv_if_eq (tgt := 16) hx hb dX12_holds_9 (by decide) (fun c_4 => ?_) (fun c_4 => ?_)
  · have h := sd_ifp c_4 h
    refine lv_iconst (v := (0 : Int32)) hx hb dX12_holds_16 (by decide) ?_
    cases h
    exact sd_iret C X dX12_holds_17
  · have h := sd_ifn c_4 h
    refine lv_iconst (v := (1 : Int32)) hx hb dX12_holds_12 (by decide) ?_
    refine lv_goto (tgt := 17) hx hb dX12_holds_13 (by decide) ?_
    cases h
    exact sd_iret C X dX12_holds_17
theorem k_X12_holds (C : sd_C own cc nL rt D cy ad A b0 p s m args meth c) (X : sd_H D cy ad A s S H locs) (hls : ls.size = nL) {S2 : sd_St} {r : Int32} (h : f_X12_holds S = some (r, S2)) (hlink : Cond.methodLink own index yX12_holds ∈ sd_wl) (hR : 8 ≤ R.frames ∧ 300 ≤ R.locals ∧ cells ≤ R.cells ∧ slots ≤ R.slots) (hst : (rest.map fun v => v.category).sum ≤ 8) (hdg : decode cc pc = .ok (.invokevirtual index, 3)) (kk : ∀ (H1 : Heap) (locs1 : List Loc), sd_H D cy ad A s S2 H1 locs1 → W p l e R s m args below meth c H1 locs1 cells slots Q (F0 m (pc + 3) ls (.int r :: rest))) : W p l e R s m args below meth c H locs cells slots Q (F0 m pc ls (.ref (ad 130) :: rest)) :=
  sd_goI X (sd_runV C X hls (n := 0) (k := 130) (As := []) (c_X12_holds (l := l) (b0 := b0) h) (sd_goodV hlink sd_w45_1 sd_w45_2 sd_w1_5 sd_w45_3) (ci := 12) rfl (by rw [(show sd_kd 130 = 12 by decide)]; decide) (sd_c12 (show sd_kd 130 = 12 by decide)) (by decide +kernel) rfl hR rfl hst hdg) kk
/-! ===== SecretDaysModel.began(I)I ===== -/
def f_X12_began_b53 (q19 : (Int32 → Int32 → Int32 → sd_St → Option (Int32 × sd_St))) (x1 : Int32) (x3 : Int32) (w0 : Int32) (w1 : Int32) (S : sd_St) : Option (Int32 × sd_St) := sd_nm ((w0 ||| w1)) (fun v_1 => q19 x1 v_1 (x3 + (1 : Int32)) S)
set_option maxHeartbeats 4000000 in
set_option maxRecDepth 100000 in
theorem t_X12_began_b53 (C : sd_C RX12 cX12_began 4 (some .int) D cy ad A b0 p s m args meth c) {r : Int32} {S' : sd_St} {q19 : (Int32 → Int32 → Int32 → sd_St → Option (Int32 × sd_St))} (hq19 : ∀ (x1 : Int32) (x2 : Int32) (x3 : Int32) (S : sd_St) (H : Heap) (locs : List Loc) (ls : Array Slot), q19 x1 x2 x3 S = some (r, S') → sd_H D cy ad A s S H locs → lv_has ls 4 [(0, .ref (ad 130)), (1, .int x1), (2, .int x2), (3, .int x3)] → W p l e (sd_rm 5) s m args below meth c H locs 0 0 (MQ below (sd_Qi D cy ad A r S') args s 0 0 A) (F0 m 19 ls [])) : ∀ (x1 : Int32) (x3 : Int32) (w0 : Int32) (w1 : Int32) (S : sd_St) (H : Heap) (locs : List Loc) (ls : Array Slot), f_X12_began_b53 q19 x1 x3 w0 w1 S = some (r, S') → sd_H D cy ad A s S H locs → lv_has ls 4 [(0, .ref (ad 130)), (1, .int x1), (3, .int x3)] → W p l e (sd_rm 5) s m args below meth c H locs 0 0 (MQ below (sd_Qi D cy ad A r S') args s 0 0 A) (F0 m 53 ls [.int w1, .int w0]) := by
  obtain ⟨hx, hb, -, hml, hown, hts, -, hG⟩ := id C
  intro x1 x3 w0 w1 S H locs ls h X hl
  unfold f_X12_began_b53 at h
  refine lv_ior hx hb dX12_began_53 ?_
  obtain ⟨v_1, e_1, h⟩ := sd_nm_some h
  refine sd_nmi e_1 ?_
  refine lv_istore_n (lv' := [(2, .int v_1), (0, .ref (ad 130)), (1, .int x1), (3, .int x3)]) hx hb dX12_began_54 rfl hl (by decide) rfl (fun ls hl => ?_)
  refine lv_iinc (v := (x3 + (1 : Int32))) (lv' := [(3, .int (x3 + (1 : Int32))), (2, .int v_1), (0, .ref (ad 130)), (1, .int x1)]) hx hb dX12_began_55 hl (k := 3) rfl rfl (by decide) rfl (fun ls hl => ?_)
  refine lv_goto (tgt := 19) hx hb dX12_began_58 (by decide) ?_
  exact hq19 x1 v_1 (x3 + (1 : Int32)) S _ _ _ h X (lv_sub hl [2, 3, 1, 0] rfl)
def f_X12_began_l19 : Nat → Int32 → Int32 → Int32 → sd_St → Option (Int32 × sd_St)
  | 0 => fun _ _ _ _ => none
  | n + 1 => fun x1 x2 x3 S => sd_cl (f_X12_people S) (fun r_3 S_2 => (if r_3 ≤ x3 then (some (x2, S_2)) else sd_cl (f_X12_fromOf x1 S_2) (fun r_6 S_5 => sd_cl (f_X12_goes x3 r_6 S_5) (fun _ S_7 => sd_cl (f_X12_areSo x1 S_7) (fun r_10 S_9 => (if r_10 = 0 then f_X12_began_b53 (f_X12_began_l19 n) x1 x3 x2 (0 : Int32) S_9 else f_X12_began_b53 (f_X12_began_l19 n) x1 x3 x2 ((1 : Int32) <<< (x3 &&& 31)) S_9))))))
set_option maxHeartbeats 4000000 in
set_option maxRecDepth 100000 in
theorem t_X12_began_l19 (C : sd_C RX12 cX12_began 4 (some .int) D cy ad A b0 p s m args meth c) {r : Int32} {S' : sd_St} : ∀ (n : Nat) (x1 : Int32) (x2 : Int32) (x3 : Int32) (S : sd_St) (H : Heap) (locs : List Loc) (ls : Array Slot), f_X12_began_l19 n x1 x2 x3 S = some (r, S') → sd_H D cy ad A s S H locs → lv_has ls 4 [(0, .ref (ad 130)), (1, .int x1), (2, .int x2), (3, .int x3)] → W p l e (sd_rm 5) s m args below meth c H locs 0 0 (MQ below (sd_Qi D cy ad A r S') args s 0 0 A) (F0 m 19 ls []) := by
  obtain ⟨hx, hb, -, hml, hown, hts, -, hG⟩ := id C
  intro n
  induction n with
  | zero => intro x1 x2 x3 S H locs ls h; cases h
  | succ n ih =>
    intro x1 x2 x3 S H locs ls h X hl
    unfold f_X12_began_l19 at h
    refine lv_iload_n hx hb dX12_began_19 rfl (lv_at hl 3 rfl) ?_
    refine lv_aload_n hx hb dX12_began_20 rfl (lv_at hl 0 rfl) ?_
    obtain ⟨r_3, S_2, er_3, h⟩ := sd_cl_some h
    refine k_X12_people C X hl.1 er_3 sd_w24_18 (by decide) (Nat.le_of_ble_eq_true rfl) dX12_began_21 (fun H locs X => ?_)
    refine lv_icmp_ge (tgt := 61) hx hb dX12_began_24 (by decide) (fun c_4 => ?_) (fun c_4 => ?_)
    · have h := sd_ifp c_4 h
      refine lv_iload_n hx hb dX12_began_61 rfl (lv_at hl 2 rfl) ?_
      cases h
      exact sd_iret C X dX12_began_62
    · have h := sd_ifn c_4 h
      refine lv_aload_n hx hb dX12_began_27 rfl (lv_at hl 0 rfl) ?_
      refine lv_iload_n hx hb dX12_began_28 rfl (lv_at hl 3 rfl) ?_
      refine lv_aload_n hx hb dX12_began_29 rfl (lv_at hl 0 rfl) ?_
      refine lv_iload_n hx hb dX12_began_30 rfl (lv_at hl 1 rfl) ?_
      obtain ⟨r_6, S_5, er_6, h⟩ := sd_cl_some h
      refine k_X12_fromOf C X hl.1 er_6 sd_w32_7 (by decide) (Nat.le_of_ble_eq_true rfl) dX12_began_31 (fun H locs X => ?_)
      obtain ⟨r_8, S_7, er_8, h⟩ := sd_cl_some h
      refine k_X12_goes C X hl.1 er_8 sd_w32_11 (by decide) (Nat.le_of_ble_eq_true rfl) dX12_began_34 (fun H locs X => ?_)
      refine lv_iload_n hx hb dX12_began_37 rfl (lv_at hl 2 rfl) ?_
      refine lv_aload_n hx hb dX12_began_38 rfl (lv_at hl 0 rfl) ?_
      refine lv_iload_n hx hb dX12_began_39 rfl (lv_at hl 1 rfl) ?_
      obtain ⟨r_10, S_9, er_10, h⟩ := sd_cl_some h
      refine k_X12_areSo C X hl.1 er_10 sd_w45_8 (by decide) (Nat.le_of_ble_eq_true rfl) dX12_began_40 (fun H locs X => ?_)
      refine lv_if_eq (tgt := 52) hx hb dX12_began_43 (by decide) (fun c_11 => ?_) (fun c_11 => ?_)
      · have h := sd_ifp c_11 h
        refine lv_iconst (v := (0 : Int32)) hx hb dX12_began_52 (by decide) ?_
        exact t_X12_began_b53 C ih x1 x3 x2 (0 : Int32) S_9 _ _ _ h X (lv_sub hl [0, 1, 3] rfl)
      · have h := sd_ifn c_11 h
        refine lv_iconst (v := (1 : Int32)) hx hb dX12_began_46 (by decide) ?_
        refine lv_iload_n hx hb dX12_began_47 rfl (lv_at hl 3 rfl) ?_
        refine lv_ishl hx hb dX12_began_48 ?_
        refine lv_goto (tgt := 53) hx hb dX12_began_49 (by decide) ?_
        exact t_X12_began_b53 C ih x1 x3 x2 ((1 : Int32) <<< (x3 &&& 31)) S_9 _ _ _ h X (lv_sub hl [0, 1, 3] rfl)
def f_X12_began (x1 : Int32) (S : sd_St) : Option (Int32 × sd_St) := sd_nm (sd_I S 130 0 (0 : Int32)) (fun S_12 => sd_cl (f_X12_isSecret x1 S_12) (fun r_14 S_13 => (if r_14 = 0 then (some ((-1 : Int32), S_13)) else f_X12_began_l19 sd_FU x1 (0 : Int32) (0 : Int32) S_13)))
set_option maxHeartbeats 4000000 in
set_option maxRecDepth 100000 in
theorem c_X12_began {x1 : Int32} {S S' : sd_St} {r : Int32} (h : f_X12_began x1 S = some (r, S')) : Met l yX12_began (Cond.code yX12_began cX12_began 4 (some .int) :: sd_wl) (sd_rm 5) (sd_P D cy ad A b0 [.ref (ad 130), .int x1] S) (sd_Qi D cy ad A r S') 0 0 A := by
  refine sd_met (by decide) (Nat.le_of_ble_eq_true rfl) (fun p e s m args below meth c ls C X hl => ?_)
  obtain ⟨hx, hb, -, hml, hown, hts, -, hG⟩ := id C
  replace C : sd_C RX12 cX12_began 4 (some .int) D cy ad A b0 p s m args meth c := C
  replace hl : lv_has ls 4 [(0, .ref (ad 130)), (1, .int x1)] := hl
  unfold f_X12_began at h
  refine lv_aload_n hx hb dX12_began_0 rfl (lv_at hl 0 rfl) ?_
  refine lv_iconst (v := (0 : Int32)) hx hb dX12_began_1 (by decide) ?_
  obtain ⟨S_12, eS_12, h⟩ := sd_nm_some h
  refine sd_p12_0 C X (by decide) sd_w9_3 dX12_began_2 (fun H locs X => ?_)
  rw [← eS_12] at X
  refine lv_aload_n hx hb dX12_began_5 rfl (lv_at hl 0 rfl) ?_
  refine lv_iload_n hx hb dX12_began_6 rfl (lv_at hl 1 rfl) ?_
  obtain ⟨r_14, S_13, er_14, h⟩ := sd_cl_some h
  refine k_X12_isSecret C X hl.1 er_14 sd_w31_15 (by decide) (Nat.le_of_ble_eq_true rfl) dX12_began_7 (fun H locs X => ?_)
  refine lv_if_ne (tgt := 15) hx hb dX12_began_10 (by decide) (fun c_15 => ?_) (fun c_15 => ?_)
  · have h := sd_ifn c_15 h
    refine lv_iconst (v := (0 : Int32)) hx hb dX12_began_15 (by decide) ?_
    refine lv_istore_n (lv' := [(2, .int (0 : Int32)), (0, .ref (ad 130)), (1, .int x1)]) hx hb dX12_began_16 rfl hl (by decide) rfl (fun ls hl => ?_)
    refine lv_iconst (v := (0 : Int32)) hx hb dX12_began_17 (by decide) ?_
    refine lv_istore_n (lv' := [(3, .int (0 : Int32)), (2, .int (0 : Int32)), (0, .ref (ad 130)), (1, .int x1)]) hx hb dX12_began_18 rfl hl (by decide) rfl (fun ls hl => ?_)
    exact t_X12_began_l19 C sd_FU x1 (0 : Int32) (0 : Int32) S_13 _ _ _ h X (lv_sub hl [2, 3, 1, 0] rfl)
  · have h := sd_ifp c_15 h
    refine lv_iconst (v := (-1 : Int32)) hx hb dX12_began_13 (by decide) ?_
    cases h
    exact sd_iret C X dX12_began_14
theorem k_X12_began (C : sd_C own cc nL rt D cy ad A b0 p s m args meth c) (X : sd_H D cy ad A s S H locs) (hls : ls.size = nL) {x1 : Int32} {S2 : sd_St} {r : Int32} (h : f_X12_began x1 S = some (r, S2)) (hlink : Cond.methodLink own index yX12_began ∈ sd_wl) (hR : 6 ≤ R.frames ∧ 223 ≤ R.locals ∧ cells ≤ R.cells ∧ slots ≤ R.slots) (hst : (rest.map fun v => v.category).sum ≤ 8) (hdg : decode cc pc = .ok (.invokevirtual index, 3)) (kk : ∀ (H1 : Heap) (locs1 : List Loc), sd_H D cy ad A s S2 H1 locs1 → W p l e R s m args below meth c H1 locs1 cells slots Q (F0 m (pc + 3) ls (.int r :: rest))) : W p l e R s m args below meth c H locs cells slots Q (F0 m pc ls (.int x1 :: .ref (ad 130) :: rest)) :=
  sd_goI X (sd_runV C X hls (n := 1) (k := 130) (As := [.int x1]) (c_X12_began (l := l) (b0 := b0) h) (sd_goodV hlink sd_w45_22 sd_w45_23 sd_w1_5 sd_w46_0) (ci := 12) rfl (by rw [(show sd_kd 130 = 12 by decide)]; decide) (sd_c12 (show sd_kd 130 = 12 by decide)) (by decide +kernel) rfl hR rfl hst hdg) kk
/-! ===== SecretDaysModel.findInstead(I)I ===== -/
def f_X12_findInstead_b54 (q11 : (Int32 → Int32 → Int32 → Int32 → sd_St → Option (Int32 × sd_St))) (x1 : Int32) (x2 : Int32) (x4 : Int32) (w0 : Int32) (S : sd_St) : Option (Int32 × sd_St) := q11 x1 x2 w0 (x4 + (1 : Int32)) S
set_option maxHeartbeats 4000000 in
set_option maxRecDepth 100000 in
theorem t_X12_findInstead_b54 (C : sd_C RX12 cX12_findInstead 5 (some .int) D cy ad A b0 p s m args meth c) {r : Int32} {S' : sd_St} {q11 : (Int32 → Int32 → Int32 → Int32 → sd_St → Option (Int32 × sd_St))} (hq11 : ∀ (x1 : Int32) (x2 : Int32) (x3 : Int32) (x4 : Int32) (S : sd_St) (H : Heap) (locs : List Loc) (ls : Array Slot), q11 x1 x2 x3 x4 S = some (r, S') → sd_H D cy ad A s S H locs → lv_has ls 5 [(0, .ref (ad 130)), (1, .int x1), (2, .int x2), (3, .int x3), (4, .int x4)] → W p l e (sd_rm 7) s m args below meth c H locs 0 0 (MQ below (sd_Qi D cy ad A r S') args s 0 0 A) (F0 m 11 ls [])) : ∀ (x1 : Int32) (x2 : Int32) (x4 : Int32) (w0 : Int32) (S : sd_St) (H : Heap) (locs : List Loc) (ls : Array Slot), f_X12_findInstead_b54 q11 x1 x2 x4 w0 S = some (r, S') → sd_H D cy ad A s S H locs → lv_has ls 5 [(0, .ref (ad 130)), (1, .int x1), (2, .int x2), (4, .int x4)] → W p l e (sd_rm 7) s m args below meth c H locs 0 0 (MQ below (sd_Qi D cy ad A r S') args s 0 0 A) (F0 m 54 ls [.int w0]) := by
  obtain ⟨hx, hb, -, hml, hown, hts, -, hG⟩ := id C
  intro x1 x2 x4 w0 S H locs ls h X hl
  unfold f_X12_findInstead_b54 at h
  refine lv_istore_n (lv' := [(3, .int w0), (0, .ref (ad 130)), (1, .int x1), (2, .int x2), (4, .int x4)]) hx hb dX12_findInstead_54 rfl hl (by decide) rfl (fun ls hl => ?_)
  refine lv_iinc (v := (x4 + (1 : Int32))) (lv' := [(4, .int (x4 + (1 : Int32))), (3, .int w0), (0, .ref (ad 130)), (1, .int x1), (2, .int x2)]) hx hb dX12_findInstead_55 hl (k := 4) rfl rfl (by decide) rfl (fun ls hl => ?_)
  refine lv_goto (tgt := 11) hx hb dX12_findInstead_58 (by decide) ?_
  exact hq11 x1 x2 w0 (x4 + (1 : Int32)) S _ _ _ h X (lv_sub hl [2, 3, 4, 1, 0] rfl)
def f_X12_findInstead_b53 (q11 : (Int32 → Int32 → Int32 → Int32 → sd_St → Option (Int32 × sd_St))) (x1 : Int32) (x2 : Int32) (x4 : Int32) (S : sd_St) : Option (Int32 × sd_St) := f_X12_findInstead_b54 q11 x1 x2 x4 (-1 : Int32) S
set_option maxHeartbeats 4000000 in
set_option maxRecDepth 100000 in
theorem t_X12_findInstead_b53 (C : sd_C RX12 cX12_findInstead 5 (some .int) D cy ad A b0 p s m args meth c) {r : Int32} {S' : sd_St} {q11 : (Int32 → Int32 → Int32 → Int32 → sd_St → Option (Int32 × sd_St))} (hq11 : ∀ (x1 : Int32) (x2 : Int32) (x3 : Int32) (x4 : Int32) (S : sd_St) (H : Heap) (locs : List Loc) (ls : Array Slot), q11 x1 x2 x3 x4 S = some (r, S') → sd_H D cy ad A s S H locs → lv_has ls 5 [(0, .ref (ad 130)), (1, .int x1), (2, .int x2), (3, .int x3), (4, .int x4)] → W p l e (sd_rm 7) s m args below meth c H locs 0 0 (MQ below (sd_Qi D cy ad A r S') args s 0 0 A) (F0 m 11 ls [])) : ∀ (x1 : Int32) (x2 : Int32) (x4 : Int32) (S : sd_St) (H : Heap) (locs : List Loc) (ls : Array Slot), f_X12_findInstead_b53 q11 x1 x2 x4 S = some (r, S') → sd_H D cy ad A s S H locs → lv_has ls 5 [(0, .ref (ad 130)), (1, .int x1), (2, .int x2), (4, .int x4)] → W p l e (sd_rm 7) s m args below meth c H locs 0 0 (MQ below (sd_Qi D cy ad A r S') args s 0 0 A) (F0 m 53 ls []) := by
  obtain ⟨hx, hb, -, hml, hown, hts, -, hG⟩ := id C
  intro x1 x2 x4 S H locs ls h X hl
  unfold f_X12_findInstead_b53 at h
  refine lv_iconst (v := (-1 : Int32)) hx hb dX12_findInstead_53 (by decide) ?_
  exact t_X12_findInstead_b54 C hq11 x1 x2 x4 (-1 : Int32) S _ _ _ h X (lv_sub hl [0, 1, 2, 3] rfl)
def f_X12_findInstead_b61 (x1 : Int32) (x2 : Int32) (x3 : Int32) (S : sd_St) : Option (Int32 × sd_St) := sd_st S 136 ((3 : Int32) + ((4 : Int32) * x1)) x2 (fun S_1 => (some (x3, S_1)))
set_option maxHeartbeats 4000000 in
set_option maxRecDepth 100000 in
theorem t_X12_findInstead_b61 (C : sd_C RX12 cX12_findInstead 5 (some .int) D cy ad A b0 p s m args meth c) {r : Int32} {S' : sd_St} : ∀ (x1 : Int32) (x2 : Int32) (x3 : Int32) (S : sd_St) (H : Heap) (locs : List Loc) (ls : Array Slot), f_X12_findInstead_b61 x1 x2 x3 S = some (r, S') → sd_H D cy ad A s S H locs → lv_has ls 5 [(0, .ref (ad 130)), (1, .int x1), (2, .int x2), (3, .int x3)] → W p l e (sd_rm 7) s m args below meth c H locs 0 0 (MQ below (sd_Qi D cy ad A r S') args s 0 0 A) (F0 m 61 ls []) := by
  obtain ⟨hx, hb, -, hml, hown, hts, -, hG⟩ := id C
  intro x1 x2 x3 S H locs ls h X hl
  unfold f_X12_findInstead_b61 at h
  refine lv_aload_n hx hb dX12_findInstead_61 rfl (lv_at hl 0 rfl) ?_
  refine sd_g12_10 (k := 130) C X (by decide) sd_w8_8 dX12_findInstead_62 ?_
  refine lv_iconst (v := (3 : Int32)) hx hb dX12_findInstead_65 (by decide) ?_
  refine lv_iconst (v := (4 : Int32)) hx hb dX12_findInstead_66 (by decide) ?_
  refine lv_iload_n hx hb dX12_findInstead_67 rfl (lv_at hl 1 rfl) ?_
  refine lv_imul hx hb dX12_findInstead_68 ?_
  refine lv_iadd hx hb dX12_findInstead_69 ?_
  refine lv_iload_n hx hb dX12_findInstead_70 rfl (lv_at hl 2 rfl) ?_
  obtain ⟨bS_1, S_1, eS_1, h⟩ := sd_st_some h
  refine sd_iast C X (by decide) bS_1 dX12_findInstead_71 (fun H locs X => ?_)
  rw [← eS_1] at X
  refine lv_iload_n hx hb dX12_findInstead_72 rfl (lv_at hl 3 rfl) ?_
  cases h
  exact sd_iret C X dX12_findInstead_73
def f_X12_findInstead_l11 : Nat → Int32 → Int32 → Int32 → Int32 → sd_St → Option (Int32 × sd_St)
  | 0 => fun _ _ _ _ _ => none
  | n + 1 => fun x1 x2 x3 x4 S => (if (366 : Int32) ≤ x4 then f_X12_findInstead_b61 x1 x2 x3 S else (if 0 ≤ x3 then f_X12_findInstead_b61 x1 x2 x3 S else sd_st S 136 ((3 : Int32) + ((4 : Int32) * x1)) x4 (fun S_4 => (if x4 = x2 then f_X12_findInstead_b53 (f_X12_findInstead_l11 n) x1 x2 x4 S_4 else sd_cl (f_X12_holdAll S_4) (fun r_7 S_6 => (if r_7 = 0 then f_X12_findInstead_b53 (f_X12_findInstead_l11 n) x1 x2 x4 S_6 else f_X12_findInstead_b54 (f_X12_findInstead_l11 n) x1 x2 x4 x4 S_6))))))
set_option maxHeartbeats 4000000 in
set_option maxRecDepth 100000 in
theorem t_X12_findInstead_l11 (C : sd_C RX12 cX12_findInstead 5 (some .int) D cy ad A b0 p s m args meth c) {r : Int32} {S' : sd_St} : ∀ (n : Nat) (x1 : Int32) (x2 : Int32) (x3 : Int32) (x4 : Int32) (S : sd_St) (H : Heap) (locs : List Loc) (ls : Array Slot), f_X12_findInstead_l11 n x1 x2 x3 x4 S = some (r, S') → sd_H D cy ad A s S H locs → lv_has ls 5 [(0, .ref (ad 130)), (1, .int x1), (2, .int x2), (3, .int x3), (4, .int x4)] → W p l e (sd_rm 7) s m args below meth c H locs 0 0 (MQ below (sd_Qi D cy ad A r S') args s 0 0 A) (F0 m 11 ls []) := by
  obtain ⟨hx, hb, -, hml, hown, hts, -, hG⟩ := id C
  intro n
  induction n with
  | zero => intro x1 x2 x3 x4 S H locs ls h; cases h
  | succ n ih =>
    intro x1 x2 x3 x4 S H locs ls h X hl
    unfold f_X12_findInstead_l11 at h
    refine lv_iload hx hb dX12_findInstead_11 (lv_at hl 4 rfl) ?_
    refine lv_sipush (v := (366 : Int32)) hx hb dX12_findInstead_13 (by decide) ?_
    refine lv_icmp_ge (tgt := 61) hx hb dX12_findInstead_16 (by decide) (fun c_2 => ?_) (fun c_2 => ?_)
    · have h := sd_ifp c_2 h
      exact t_X12_findInstead_b61 C x1 x2 x3 S _ _ _ h X (lv_sub hl [0, 1, 2, 3] rfl)
    · have h := sd_ifn c_2 h
      refine lv_iload_n hx hb dX12_findInstead_19 rfl (lv_at hl 3 rfl) ?_
      refine lv_if_ge (tgt := 61) hx hb dX12_findInstead_20 (by decide) (fun c_3 => ?_) (fun c_3 => ?_)
      · have h := sd_ifp c_3 h
        exact t_X12_findInstead_b61 C x1 x2 x3 S _ _ _ h X (lv_sub hl [0, 1, 2, 3] rfl)
      · have h := sd_ifn c_3 h
        refine lv_aload_n hx hb dX12_findInstead_23 rfl (lv_at hl 0 rfl) ?_
        refine sd_g12_10 (k := 130) C X (by decide) sd_w8_8 dX12_findInstead_24 ?_
        refine lv_iconst (v := (3 : Int32)) hx hb dX12_findInstead_27 (by decide) ?_
        refine lv_iconst (v := (4 : Int32)) hx hb dX12_findInstead_28 (by decide) ?_
        refine lv_iload_n hx hb dX12_findInstead_29 rfl (lv_at hl 1 rfl) ?_
        refine lv_imul hx hb dX12_findInstead_30 ?_
        refine lv_iadd hx hb dX12_findInstead_31 ?_
        refine lv_iload hx hb dX12_findInstead_32 (lv_at hl 4 rfl) ?_
        obtain ⟨bS_4, S_4, eS_4, h⟩ := sd_st_some h
        refine sd_iast C X (by decide) bS_4 dX12_findInstead_34 (fun H locs X => ?_)
        rw [← eS_4] at X
        refine lv_iload hx hb dX12_findInstead_35 (lv_at hl 4 rfl) ?_
        refine lv_iload_n hx hb dX12_findInstead_37 rfl (lv_at hl 2 rfl) ?_
        refine lv_icmp_eq (tgt := 53) hx hb dX12_findInstead_38 (by decide) (fun c_5 => ?_) (fun c_5 => ?_)
        · have h := sd_ifp c_5 h
          exact t_X12_findInstead_b53 C ih x1 x2 x4 S_4 _ _ _ h X (lv_sub hl [0, 1, 2, 4] rfl)
        · have h := sd_ifn c_5 h
          refine lv_aload_n hx hb dX12_findInstead_41 rfl (lv_at hl 0 rfl) ?_
          obtain ⟨r_7, S_6, er_7, h⟩ := sd_cl_some h
          refine k_X12_holdAll C X hl.1 er_7 sd_w45_4 (by decide) (Nat.le_of_ble_eq_true rfl) dX12_findInstead_42 (fun H locs X => ?_)
          refine lv_if_eq (tgt := 53) hx hb dX12_findInstead_45 (by decide) (fun c_8 => ?_) (fun c_8 => ?_)
          · have h := sd_ifp c_8 h
            exact t_X12_findInstead_b53 C ih x1 x2 x4 S_6 _ _ _ h X (lv_sub hl [0, 1, 2, 4] rfl)
          · have h := sd_ifn c_8 h
            refine lv_iload hx hb dX12_findInstead_48 (lv_at hl 4 rfl) ?_
            refine lv_goto (tgt := 54) hx hb dX12_findInstead_50 (by decide) ?_
            exact t_X12_findInstead_b54 C ih x1 x2 x4 x4 S_6 _ _ _ h X (lv_sub hl [0, 1, 2, 4] rfl)
def f_X12_findInstead (x1 : Int32) (S : sd_St) : Option (Int32 × sd_St) := sd_cl (f_X12_bornOf x1 S) (fun r_10 S_9 => f_X12_findInstead_l11 sd_FU x1 r_10 (-1 : Int32) (0 : Int32) S_9)
set_option maxHeartbeats 4000000 in
set_option maxRecDepth 100000 in
theorem c_X12_findInstead {x1 : Int32} {S S' : sd_St} {r : Int32} (h : f_X12_findInstead x1 S = some (r, S')) : Met l yX12_findInstead (Cond.code yX12_findInstead cX12_findInstead 5 (some .int) :: sd_wl) (sd_rm 7) (sd_P D cy ad A b0 [.ref (ad 130), .int x1] S) (sd_Qi D cy ad A r S') 0 0 A := by
  refine sd_met (by decide) (Nat.le_of_ble_eq_true rfl) (fun p e s m args below meth c ls C X hl => ?_)
  obtain ⟨hx, hb, -, hml, hown, hts, -, hG⟩ := id C
  replace C : sd_C RX12 cX12_findInstead 5 (some .int) D cy ad A b0 p s m args meth c := C
  replace hl : lv_has ls 5 [(0, .ref (ad 130)), (1, .int x1)] := hl
  unfold f_X12_findInstead at h
  refine lv_aload_n hx hb dX12_findInstead_0 rfl (lv_at hl 0 rfl) ?_
  refine lv_iload_n hx hb dX12_findInstead_1 rfl (lv_at hl 1 rfl) ?_
  obtain ⟨r_10, S_9, er_10, h⟩ := sd_cl_some h
  refine k_X12_bornOf C X hl.1 er_10 sd_w27_13 (by decide) (Nat.le_of_ble_eq_true rfl) dX12_findInstead_2 (fun H locs X => ?_)
  refine lv_istore_n (lv' := [(2, .int r_10), (0, .ref (ad 130)), (1, .int x1)]) hx hb dX12_findInstead_5 rfl hl (by decide) rfl (fun ls hl => ?_)
  refine lv_iconst (v := (-1 : Int32)) hx hb dX12_findInstead_6 (by decide) ?_
  refine lv_istore_n (lv' := [(3, .int (-1 : Int32)), (2, .int r_10), (0, .ref (ad 130)), (1, .int x1)]) hx hb dX12_findInstead_7 rfl hl (by decide) rfl (fun ls hl => ?_)
  refine lv_iconst (v := (0 : Int32)) hx hb dX12_findInstead_8 (by decide) ?_
  refine lv_istore (lv' := [(4, .int (0 : Int32)), (3, .int (-1 : Int32)), (2, .int r_10), (0, .ref (ad 130)), (1, .int x1)]) hx hb dX12_findInstead_9 hl (by decide) rfl (fun ls hl => ?_)
  exact t_X12_findInstead_l11 C sd_FU x1 r_10 (-1 : Int32) (0 : Int32) S_9 _ _ _ h X (lv_sub hl [3, 4, 2, 1, 0] rfl)
theorem k_X12_findInstead (C : sd_C own cc nL rt D cy ad A b0 p s m args meth c) (X : sd_H D cy ad A s S H locs) (hls : ls.size = nL) {x1 : Int32} {S2 : sd_St} {r : Int32} (h : f_X12_findInstead x1 S = some (r, S2)) (hlink : Cond.methodLink own index yX12_findInstead ∈ sd_wl) (hR : 8 ≤ R.frames ∧ 304 ≤ R.locals ∧ cells ≤ R.cells ∧ slots ≤ R.slots) (hst : (rest.map fun v => v.category).sum ≤ 8) (hdg : decode cc pc = .ok (.invokevirtual index, 3)) (kk : ∀ (H1 : Heap) (locs1 : List Loc), sd_H D cy ad A s S2 H1 locs1 → W p l e R s m args below meth c H1 locs1 cells slots Q (F0 m (pc + 3) ls (.int r :: rest))) : W p l e R s m args below meth c H locs cells slots Q (F0 m pc ls (.int x1 :: .ref (ad 130) :: rest)) :=
  sd_goI X (sd_runV C X hls (n := 1) (k := 130) (As := [.int x1]) (c_X12_findInstead (l := l) (b0 := b0) h) (sd_goodV hlink sd_w47_2 sd_w47_3 sd_w1_5 sd_w47_4) (ci := 12) rfl (by rw [(show sd_kd 130 = 12 by decide)]; decide) (sd_c12 (show sd_kd 130 = 12 by decide)) (by decide +kernel) rfl hR rfl hst hdg) kk
/-! ===== SecretDaysModel.wrong()I ===== -/
def f_X12_wrong_b33 (q9 : (Int32 → Int32 → sd_St → Option (Int32 × sd_St))) (x2 : Int32) (w0 : Int32) (w1 : Int32) (S : sd_St) : Option (Int32 × sd_St) := sd_nm ((w0 ||| w1)) (fun v_1 => q9 v_1 (x2 + (1 : Int32)) S)
set_option maxHeartbeats 4000000 in
set_option maxRecDepth 100000 in
theorem t_X12_wrong_b33 (C : sd_C RX12 cX12_wrong 3 (some .int) D cy ad A b0 p s m args meth c) {r : Int32} {S' : sd_St} {q9 : (Int32 → Int32 → sd_St → Option (Int32 × sd_St))} (hq9 : ∀ (x1 : Int32) (x2 : Int32) (S : sd_St) (H : Heap) (locs : List Loc) (ls : Array Slot), q9 x1 x2 S = some (r, S') → sd_H D cy ad A s S H locs → lv_has ls 3 [(0, .ref (ad 130)), (1, .int x1), (2, .int x2)] → W p l e (sd_rm 8) s m args below meth c H locs 0 0 (MQ below (sd_Qi D cy ad A r S') args s 0 0 A) (F0 m 9 ls [])) : ∀ (x2 : Int32) (w0 : Int32) (w1 : Int32) (S : sd_St) (H : Heap) (locs : List Loc) (ls : Array Slot), f_X12_wrong_b33 q9 x2 w0 w1 S = some (r, S') → sd_H D cy ad A s S H locs → lv_has ls 3 [(0, .ref (ad 130)), (2, .int x2)] → W p l e (sd_rm 8) s m args below meth c H locs 0 0 (MQ below (sd_Qi D cy ad A r S') args s 0 0 A) (F0 m 33 ls [.int w1, .int w0]) := by
  obtain ⟨hx, hb, -, hml, hown, hts, -, hG⟩ := id C
  intro x2 w0 w1 S H locs ls h X hl
  unfold f_X12_wrong_b33 at h
  refine lv_ior hx hb dX12_wrong_33 ?_
  obtain ⟨v_1, e_1, h⟩ := sd_nm_some h
  refine sd_nmi e_1 ?_
  refine lv_istore_n (lv' := [(1, .int v_1), (0, .ref (ad 130)), (2, .int x2)]) hx hb dX12_wrong_34 rfl hl (by decide) rfl (fun ls hl => ?_)
  refine lv_iinc (v := (x2 + (1 : Int32))) (lv' := [(2, .int (x2 + (1 : Int32))), (1, .int v_1), (0, .ref (ad 130))]) hx hb dX12_wrong_35 hl (k := 2) rfl rfl (by decide) rfl (fun ls hl => ?_)
  refine lv_goto (tgt := 9) hx hb dX12_wrong_38 (by decide) ?_
  exact hq9 v_1 (x2 + (1 : Int32)) S _ _ _ h X (lv_sub hl [2, 1, 0] rfl)
def f_X12_wrong_l9 : Nat → Int32 → Int32 → sd_St → Option (Int32 × sd_St)
  | 0 => fun _ _ _ => none
  | n + 1 => fun x1 x2 S => sd_cl (f_X12_people S) (fun r_3 S_2 => (if r_3 ≤ x2 then (some (x1, S_2)) else sd_cl (f_X12_findInstead x2 S_2) (fun r_6 S_5 => (if r_6 < 0 then f_X12_wrong_b33 (f_X12_wrong_l9 n) x2 x1 (0 : Int32) S_5 else f_X12_wrong_b33 (f_X12_wrong_l9 n) x2 x1 ((1 : Int32) <<< (x2 &&& 31)) S_5))))
set_option maxHeartbeats 4000000 in
set_option maxRecDepth 100000 in
theorem t_X12_wrong_l9 (C : sd_C RX12 cX12_wrong 3 (some .int) D cy ad A b0 p s m args meth c) {r : Int32} {S' : sd_St} : ∀ (n : Nat) (x1 : Int32) (x2 : Int32) (S : sd_St) (H : Heap) (locs : List Loc) (ls : Array Slot), f_X12_wrong_l9 n x1 x2 S = some (r, S') → sd_H D cy ad A s S H locs → lv_has ls 3 [(0, .ref (ad 130)), (1, .int x1), (2, .int x2)] → W p l e (sd_rm 8) s m args below meth c H locs 0 0 (MQ below (sd_Qi D cy ad A r S') args s 0 0 A) (F0 m 9 ls []) := by
  obtain ⟨hx, hb, -, hml, hown, hts, -, hG⟩ := id C
  intro n
  induction n with
  | zero => intro x1 x2 S H locs ls h; cases h
  | succ n ih =>
    intro x1 x2 S H locs ls h X hl
    unfold f_X12_wrong_l9 at h
    refine lv_iload_n hx hb dX12_wrong_9 rfl (lv_at hl 2 rfl) ?_
    refine lv_aload_n hx hb dX12_wrong_10 rfl (lv_at hl 0 rfl) ?_
    obtain ⟨r_3, S_2, er_3, h⟩ := sd_cl_some h
    refine k_X12_people C X hl.1 er_3 sd_w24_18 (by decide) (Nat.le_of_ble_eq_true rfl) dX12_wrong_11 (fun H locs X => ?_)
    refine lv_icmp_ge (tgt := 41) hx hb dX12_wrong_14 (by decide) (fun c_4 => ?_) (fun c_4 => ?_)
    · have h := sd_ifp c_4 h
      refine lv_iload_n hx hb dX12_wrong_41 rfl (lv_at hl 1 rfl) ?_
      cases h
      exact sd_iret C X dX12_wrong_42
    · have h := sd_ifn c_4 h
      refine lv_iload_n hx hb dX12_wrong_17 rfl (lv_at hl 1 rfl) ?_
      refine lv_aload_n hx hb dX12_wrong_18 rfl (lv_at hl 0 rfl) ?_
      refine lv_iload_n hx hb dX12_wrong_19 rfl (lv_at hl 2 rfl) ?_
      obtain ⟨r_6, S_5, er_6, h⟩ := sd_cl_some h
      refine k_X12_findInstead C X hl.1 er_6 sd_w47_1 (by decide) (Nat.le_of_ble_eq_true rfl) dX12_wrong_20 (fun H locs X => ?_)
      refine lv_if_lt (tgt := 32) hx hb dX12_wrong_23 (by decide) (fun c_7 => ?_) (fun c_7 => ?_)
      · have h := sd_ifp c_7 h
        refine lv_iconst (v := (0 : Int32)) hx hb dX12_wrong_32 (by decide) ?_
        exact t_X12_wrong_b33 C ih x2 x1 (0 : Int32) S_5 _ _ _ h X (lv_sub hl [0, 2] rfl)
      · have h := sd_ifn c_7 h
        refine lv_iconst (v := (1 : Int32)) hx hb dX12_wrong_26 (by decide) ?_
        refine lv_iload_n hx hb dX12_wrong_27 rfl (lv_at hl 2 rfl) ?_
        refine lv_ishl hx hb dX12_wrong_28 ?_
        refine lv_goto (tgt := 33) hx hb dX12_wrong_29 (by decide) ?_
        exact t_X12_wrong_b33 C ih x2 x1 ((1 : Int32) <<< (x2 &&& 31)) S_5 _ _ _ h X (lv_sub hl [0, 2] rfl)
def f_X12_wrong (S : sd_St) : Option (Int32 × sd_St) := sd_nm (sd_I S 130 0 (0 : Int32)) (fun S_8 => f_X12_wrong_l9 sd_FU (0 : Int32) (0 : Int32) S_8)
set_option maxHeartbeats 4000000 in
set_option maxRecDepth 100000 in
theorem c_X12_wrong {S S' : sd_St} {r : Int32} (h : f_X12_wrong S = some (r, S')) : Met l yX12_wrong (Cond.code yX12_wrong cX12_wrong 3 (some .int) :: sd_wl) (sd_rm 8) (sd_P D cy ad A b0 [.ref (ad 130)] S) (sd_Qi D cy ad A r S') 0 0 A := by
  refine sd_met (by decide) (Nat.le_of_ble_eq_true rfl) (fun p e s m args below meth c ls C X hl => ?_)
  obtain ⟨hx, hb, -, hml, hown, hts, -, hG⟩ := id C
  replace C : sd_C RX12 cX12_wrong 3 (some .int) D cy ad A b0 p s m args meth c := C
  replace hl : lv_has ls 3 [(0, .ref (ad 130))] := hl
  unfold f_X12_wrong at h
  refine lv_aload_n hx hb dX12_wrong_0 rfl (lv_at hl 0 rfl) ?_
  refine lv_iconst (v := (0 : Int32)) hx hb dX12_wrong_1 (by decide) ?_
  obtain ⟨S_8, eS_8, h⟩ := sd_nm_some h
  refine sd_p12_0 C X (by decide) sd_w9_3 dX12_wrong_2 (fun H locs X => ?_)
  rw [← eS_8] at X
  refine lv_iconst (v := (0 : Int32)) hx hb dX12_wrong_5 (by decide) ?_
  refine lv_istore_n (lv' := [(1, .int (0 : Int32)), (0, .ref (ad 130))]) hx hb dX12_wrong_6 rfl hl (by decide) rfl (fun ls hl => ?_)
  refine lv_iconst (v := (0 : Int32)) hx hb dX12_wrong_7 (by decide) ?_
  refine lv_istore_n (lv' := [(2, .int (0 : Int32)), (1, .int (0 : Int32)), (0, .ref (ad 130))]) hx hb dX12_wrong_8 rfl hl (by decide) rfl (fun ls hl => ?_)
  exact t_X12_wrong_l9 C sd_FU (0 : Int32) (0 : Int32) S_8 _ _ _ h X (lv_sub hl [2, 1, 0] rfl)
theorem k_X12_wrong (C : sd_C own cc nL rt D cy ad A b0 p s m args meth c) (X : sd_H D cy ad A s S H locs) (hls : ls.size = nL) {S2 : sd_St} {r : Int32} (h : f_X12_wrong S = some (r, S2)) (hlink : Cond.methodLink own index yX12_wrong ∈ sd_wl) (hR : 9 ≤ R.frames ∧ 342 ≤ R.locals ∧ cells ≤ R.cells ∧ slots ≤ R.slots) (hst : (rest.map fun v => v.category).sum ≤ 8) (hdg : decode cc pc = .ok (.invokevirtual index, 3)) (kk : ∀ (H1 : Heap) (locs1 : List Loc), sd_H D cy ad A s S2 H1 locs1 → W p l e R s m args below meth c H1 locs1 cells slots Q (F0 m (pc + 3) ls (.int r :: rest))) : W p l e R s m args below meth c H locs cells slots Q (F0 m pc ls (.ref (ad 130) :: rest)) :=
  sd_goI X (sd_runV C X hls (n := 0) (k := 130) (As := []) (c_X12_wrong (l := l) (b0 := b0) h) (sd_goodV hlink sd_w46_22 sd_w46_23 sd_w1_5 sd_w47_0) (ci := 12) rfl (by rw [(show sd_kd 130 = 12 by decide)]; decide) (sd_c12 (show sd_kd 130 = 12 by decide)) (by decide +kernel) rfl hR rfl hst hdg) kk
/-! ===== SecretDaysModel.instead(I)I ===== -/
def f_X12_instead (x1 : Int32) (S : sd_St) : Option (Int32 × sd_St) := sd_nm (sd_I S 130 0 (0 : Int32)) (fun S_1 => sd_cl (f_X12_isPerson x1 S_1) (fun r_3 S_2 => (if r_3 = 0 then (some ((-1 : Int32), S_2)) else sd_cl (f_X12_findInstead x1 S_2) (fun r_6 S_5 => (some (r_6, S_5))))))
set_option maxHeartbeats 4000000 in
set_option maxRecDepth 100000 in
theorem c_X12_instead {x1 : Int32} {S S' : sd_St} {r : Int32} (h : f_X12_instead x1 S = some (r, S')) : Met l yX12_instead (Cond.code yX12_instead cX12_instead 2 (some .int) :: sd_wl) (sd_rm 8) (sd_P D cy ad A b0 [.ref (ad 130), .int x1] S) (sd_Qi D cy ad A r S') 0 0 A := by
  refine sd_met (by decide) (Nat.le_of_ble_eq_true rfl) (fun p e s m args below meth c ls C X hl => ?_)
  obtain ⟨hx, hb, -, hml, hown, hts, -, hG⟩ := id C
  replace C : sd_C RX12 cX12_instead 2 (some .int) D cy ad A b0 p s m args meth c := C
  replace hl : lv_has ls 2 [(0, .ref (ad 130)), (1, .int x1)] := hl
  unfold f_X12_instead at h
  refine lv_aload_n hx hb dX12_instead_0 rfl (lv_at hl 0 rfl) ?_
  refine lv_iconst (v := (0 : Int32)) hx hb dX12_instead_1 (by decide) ?_
  obtain ⟨S_1, eS_1, h⟩ := sd_nm_some h
  refine sd_p12_0 C X (by decide) sd_w9_3 dX12_instead_2 (fun H locs X => ?_)
  rw [← eS_1] at X
  refine lv_aload_n hx hb dX12_instead_5 rfl (lv_at hl 0 rfl) ?_
  refine lv_iload_n hx hb dX12_instead_6 rfl (lv_at hl 1 rfl) ?_
  obtain ⟨r_3, S_2, er_3, h⟩ := sd_cl_some h
  refine k_X12_isPerson C X hl.1 er_3 sd_w24_14 (by decide) (Nat.le_of_ble_eq_true rfl) dX12_instead_7 (fun H locs X => ?_)
  refine lv_if_eq (tgt := 21) hx hb dX12_instead_10 (by decide) (fun c_4 => ?_) (fun c_4 => ?_)
  · have h := sd_ifp c_4 h
    refine lv_iconst (v := (-1 : Int32)) hx hb dX12_instead_21 (by decide) ?_
    cases h
    exact sd_iret C X dX12_instead_22
  · have h := sd_ifn c_4 h
    refine lv_aload_n hx hb dX12_instead_13 rfl (lv_at hl 0 rfl) ?_
    refine lv_iload_n hx hb dX12_instead_14 rfl (lv_at hl 1 rfl) ?_
    obtain ⟨r_6, S_5, er_6, h⟩ := sd_cl_some h
    refine k_X12_findInstead C X hl.1 er_6 sd_w47_1 (by decide) (Nat.le_of_ble_eq_true rfl) dX12_instead_15 (fun H locs X => ?_)
    refine lv_goto (tgt := 22) hx hb dX12_instead_18 (by decide) ?_
    cases h
    exact sd_iret C X dX12_instead_22
theorem k_X12_instead (C : sd_C own cc nL rt D cy ad A b0 p s m args meth c) (X : sd_H D cy ad A s S H locs) (hls : ls.size = nL) {x1 : Int32} {S2 : sd_St} {r : Int32} (h : f_X12_instead x1 S = some (r, S2)) (hlink : Cond.methodLink own index yX12_instead ∈ sd_wl) (hR : 9 ≤ R.frames ∧ 341 ≤ R.locals ∧ cells ≤ R.cells ∧ slots ≤ R.slots) (hst : (rest.map fun v => v.category).sum ≤ 8) (hdg : decode cc pc = .ok (.invokevirtual index, 3)) (kk : ∀ (H1 : Heap) (locs1 : List Loc), sd_H D cy ad A s S2 H1 locs1 → W p l e R s m args below meth c H1 locs1 cells slots Q (F0 m (pc + 3) ls (.int r :: rest))) : W p l e R s m args below meth c H locs cells slots Q (F0 m pc ls (.int x1 :: .ref (ad 130) :: rest)) :=
  sd_goI X (sd_runV C X hls (n := 1) (k := 130) (As := [.int x1]) (c_X12_instead (l := l) (b0 := b0) h) (sd_goodV hlink sd_w47_10 sd_w47_11 sd_w1_5 sd_w47_12) (ci := 12) rfl (by rw [(show sd_kd 130 = 12 by decide)]; decide) (sd_c12 (show sd_kd 130 = 12 by decide)) (by decide +kernel) rfl hR rfl hst hdg) kk
/-! ===== SecretDaysModel.draw(I)I ===== -/
def f_X12_draw (x1 : Int32) (S : sd_St) : Option (Int32 × sd_St) := sd_nm (sd_L S 130 33 (sd_lrem (((S.2 130 33) * (1103515245 : Int64)) + (12345 : Int64)) (2147483648 : Int64))) (fun S_1 => sd_nzl (x1.toInt64) ((some (((sd_lrem ((S_1.2 130 33) / (65536 : Int64)) (x1.toInt64)).toInt32), S_1))))
set_option maxHeartbeats 4000000 in
set_option maxRecDepth 100000 in
theorem c_X12_draw {x1 : Int32} {S S' : sd_St} {r : Int32} (h : f_X12_draw x1 S = some (r, S')) : Met l yX12_draw (Cond.code yX12_draw cX12_draw 2 (some .int) :: sd_wl) (sd_rm 0) (sd_P D cy ad A b0 [.ref (ad 130), .int x1] S) (sd_Qi D cy ad A r S') 0 0 A := by
  refine sd_met (by decide) (Nat.le_of_ble_eq_true rfl) (fun p e s m args below meth c ls C X hl => ?_)
  obtain ⟨hx, hb, -, hml, hown, hts, -, hG⟩ := id C
  replace C : sd_C RX12 cX12_draw 2 (some .int) D cy ad A b0 p s m args meth c := C
  replace hl : lv_has ls 2 [(0, .ref (ad 130)), (1, .int x1)] := hl
  unfold f_X12_draw at h
  refine lv_aload_n hx hb dX12_draw_0 rfl (lv_at hl 0 rfl) ?_
  refine lv_aload_n hx hb dX12_draw_1 rfl (lv_at hl 0 rfl) ?_
  refine sd_g12_33 C X (by decide) sd_w48_22 dX12_draw_2 ?_
  refine lv_ldc2 (v := (1103515245 : Int64)) hx hb hown (hts _ sd_w49_7) dX12_draw_5 ?_
  refine lv_lmul hx hb dX12_draw_8 ?_
  refine lv_ldc2 (v := (12345 : Int64)) hx hb hown (hts _ sd_w49_8) dX12_draw_9 ?_
  refine lv_ladd hx hb dX12_draw_12 ?_
  refine lv_ldc2 (v := (2147483648 : Int64)) hx hb hown (hts _ sd_w49_9) dX12_draw_13 ?_
  refine lv_lrem hx hb dX12_draw_16 (by decide) ?_
  obtain ⟨S_1, eS_1, h⟩ := sd_nm_some h
  refine sd_p12_33 C X (by decide) sd_w48_22 dX12_draw_17 (fun H locs X => ?_)
  rw [← eS_1] at X
  refine lv_aload_n hx hb dX12_draw_20 rfl (lv_at hl 0 rfl) ?_
  refine sd_g12_33 C X (by decide) sd_w48_22 dX12_draw_21 ?_
  refine lv_ldc2 (v := (65536 : Int64)) hx hb hown (hts _ sd_w49_10) dX12_draw_24 ?_
  refine lv_ldiv hx hb dX12_draw_27 (by decide) ?_
  refine lv_iload_n hx hb dX12_draw_28 rfl (lv_at hl 1 rfl) ?_
  refine lv_i2l (v := x1.toInt64) hx hb dX12_draw_29 rfl ?_
  obtain ⟨c_2, h⟩ := sd_nzl_some h
  refine lv_lrem hx hb dX12_draw_30 c_2 ?_
  refine lv_l2i (v := (sd_lrem ((S_1.2 130 33) / (65536 : Int64)) (x1.toInt64)).toInt32) hx hb dX12_draw_31 rfl ?_
  cases h
  exact sd_iret C X dX12_draw_32
theorem k_X12_draw (C : sd_C own cc nL rt D cy ad A b0 p s m args meth c) (X : sd_H D cy ad A s S H locs) (hls : ls.size = nL) {x1 : Int32} {S2 : sd_St} {r : Int32} (h : f_X12_draw x1 S = some (r, S2)) (hlink : Cond.methodLink own index yX12_draw ∈ sd_wl) (hR : 1 ≤ R.frames ∧ 21 ≤ R.locals ∧ cells ≤ R.cells ∧ slots ≤ R.slots) (hst : (rest.map fun v => v.category).sum ≤ 8) (hdg : decode cc pc = .ok (.invokevirtual index, 3)) (kk : ∀ (H1 : Heap) (locs1 : List Loc), sd_H D cy ad A s S2 H1 locs1 → W p l e R s m args below meth c H1 locs1 cells slots Q (F0 m (pc + 3) ls (.int r :: rest))) : W p l e R s m args below meth c H locs cells slots Q (F0 m pc ls (.int x1 :: .ref (ad 130) :: rest)) :=
  sd_goI X (sd_runV C X hls (n := 1) (k := 130) (As := [.int x1]) (c_X12_draw (l := l) (b0 := b0) h) (sd_goodV hlink sd_w49_4 sd_w49_5 sd_w1_5 sd_w49_6) (ci := 12) rfl (by rw [(show sd_kd 130 = 12 by decide)]; decide) (sd_c12 (show sd_kd 130 = 12 by decide)) (by decide +kernel) rfl hR rfl hst hdg) kk
/-! ===== SecretDaysModel.drawsYears(I)V ===== -/
def f_X12_drawsYears_b37 (q8 : (Int32 → Int32 → Int32 → sd_St → Option (Unit × sd_St))) (x1 : Int32) (x2 : Int32) (x3 : Int32) (w1 : Int32) (w2 : Int32) (S : sd_St) : Option (Unit × sd_St) := sd_st S 140 w1 w2 (fun S_1 => q8 x1 x2 (x3 + (1 : Int32)) S_1)
set_option maxHeartbeats 4000000 in
set_option maxRecDepth 100000 in
theorem t_X12_drawsYears_b37 (C : sd_C RX12 cX12_drawsYears 8 none D cy ad A b0 p s m args meth c) {S' : sd_St} {q8 : (Int32 → Int32 → Int32 → sd_St → Option (Unit × sd_St))} (hq8 : ∀ (x1 : Int32) (x2 : Int32) (x3 : Int32) (S : sd_St) (H : Heap) (locs : List Loc) (ls : Array Slot), q8 x1 x2 x3 S = some ((), S') → sd_H D cy ad A s S H locs → lv_has ls 8 [(0, .ref (ad 130)), (1, .int x1), (2, .int x2), (3, .int x3)] → W p l e (sd_rm 4) s m args below meth c H locs 0 0 (MQ below (sd_Qv D cy ad A S') args s 0 0 A) (F0 m 8 ls [])) : ∀ (x1 : Int32) (x2 : Int32) (x3 : Int32) (w1 : Int32) (w2 : Int32) (S : sd_St) (H : Heap) (locs : List Loc) (ls : Array Slot), f_X12_drawsYears_b37 q8 x1 x2 x3 w1 w2 S = some ((), S') → sd_H D cy ad A s S H locs → lv_has ls 8 [(0, .ref (ad 130)), (1, .int x1), (2, .int x2), (3, .int x3)] → W p l e (sd_rm 4) s m args below meth c H locs 0 0 (MQ below (sd_Qv D cy ad A S') args s 0 0 A) (F0 m 37 ls [.int w2, .int w1, .ref (ad 140)]) := by
  obtain ⟨hx, hb, -, hml, hown, hts, -, hG⟩ := id C
  intro x1 x2 x3 w1 w2 S H locs ls h X hl
  unfold f_X12_drawsYears_b37 at h
  obtain ⟨bS_1, S_1, eS_1, h⟩ := sd_st_some h
  refine sd_iast C X (by decide) bS_1 dX12_drawsYears_37 (fun H locs X => ?_)
  rw [← eS_1] at X
  refine lv_iinc (v := (x3 + (1 : Int32))) (lv' := [(3, .int (x3 + (1 : Int32))), (0, .ref (ad 130)), (1, .int x1), (2, .int x2)]) hx hb dX12_drawsYears_38 hl (k := 3) rfl rfl (by decide) rfl (fun ls hl => ?_)
  refine lv_goto (tgt := 8) hx hb dX12_drawsYears_41 (by decide) ?_
  exact hq8 x1 x2 (x3 + (1 : Int32)) S_1 _ _ _ h X (lv_sub hl [1, 2, 3, 0] rfl)
def f_X12_drawsYears_b219 (q50 : (Int32 → Int32 → sd_St → Option (Unit × sd_St))) (q88 : (Int32 → Int32 → Int32 → Int32 → sd_St → Option (Unit × sd_St))) (q140 : (Int32 → Int32 → Int32 → Int32 → Int32 → Int32 → sd_St → Option (Unit × sd_St))) (x2 : Int32) (x3 : Int32) (x4 : Int32) (x5 : Int32) (x6 : Int32) (x7 : Int32) (w1 : Int32) (w2 : Int32) (S : sd_St) : Option (Unit × sd_St) := sd_st S 140 w1 w2 (fun S_2 => q140 x2 x3 x4 x5 x6 (x7 + (1 : Int32)) S_2)
set_option maxHeartbeats 4000000 in
set_option maxRecDepth 100000 in
theorem t_X12_drawsYears_b219 (C : sd_C RX12 cX12_drawsYears 8 none D cy ad A b0 p s m args meth c) {S' : sd_St} {q50 : (Int32 → Int32 → sd_St → Option (Unit × sd_St))} {q88 : (Int32 → Int32 → Int32 → Int32 → sd_St → Option (Unit × sd_St))} {q140 : (Int32 → Int32 → Int32 → Int32 → Int32 → Int32 → sd_St → Option (Unit × sd_St))} (hq50 : ∀ (x2 : Int32) (x3 : Int32) (S : sd_St) (H : Heap) (locs : List Loc) (ls : Array Slot), q50 x2 x3 S = some ((), S') → sd_H D cy ad A s S H locs → lv_has ls 8 [(0, .ref (ad 130)), (2, .int x2), (3, .int x3)] → W p l e (sd_rm 4) s m args below meth c H locs 0 0 (MQ below (sd_Qv D cy ad A S') args s 0 0 A) (F0 m 50 ls [])) (hq88 : ∀ (x2 : Int32) (x3 : Int32) (x4 : Int32) (x5 : Int32) (S : sd_St) (H : Heap) (locs : List Loc) (ls : Array Slot), q88 x2 x3 x4 x5 S = some ((), S') → sd_H D cy ad A s S H locs → lv_has ls 8 [(0, .ref (ad 130)), (2, .int x2), (3, .int x3), (4, .int x4), (5, .int x5)] → W p l e (sd_rm 4) s m args below meth c H locs 0 0 (MQ below (sd_Qv D cy ad A S') args s 0 0 A) (F0 m 88 ls [])) (hq140 : ∀ (x2 : Int32) (x3 : Int32) (x4 : Int32) (x5 : Int32) (x6 : Int32) (x7 : Int32) (S : sd_St) (H : Heap) (locs : List Loc) (ls : Array Slot), q140 x2 x3 x4 x5 x6 x7 S = some ((), S') → sd_H D cy ad A s S H locs → lv_has ls 8 [(0, .ref (ad 130)), (2, .int x2), (3, .int x3), (4, .int x4), (5, .int x5), (6, .int x6), (7, .int x7)] → W p l e (sd_rm 4) s m args below meth c H locs 0 0 (MQ below (sd_Qv D cy ad A S') args s 0 0 A) (F0 m 140 ls [])) : ∀ (x2 : Int32) (x3 : Int32) (x4 : Int32) (x5 : Int32) (x6 : Int32) (x7 : Int32) (w1 : Int32) (w2 : Int32) (S : sd_St) (H : Heap) (locs : List Loc) (ls : Array Slot), f_X12_drawsYears_b219 q50 q88 q140 x2 x3 x4 x5 x6 x7 w1 w2 S = some ((), S') → sd_H D cy ad A s S H locs → lv_has ls 8 [(0, .ref (ad 130)), (2, .int x2), (3, .int x3), (4, .int x4), (5, .int x5), (6, .int x6), (7, .int x7)] → W p l e (sd_rm 4) s m args below meth c H locs 0 0 (MQ below (sd_Qv D cy ad A S') args s 0 0 A) (F0 m 219 ls [.int w2, .int w1, .ref (ad 140)]) := by
  obtain ⟨hx, hb, -, hml, hown, hts, -, hG⟩ := id C
  intro x2 x3 x4 x5 x6 x7 w1 w2 S H locs ls h X hl
  unfold f_X12_drawsYears_b219 at h
  obtain ⟨bS_2, S_2, eS_2, h⟩ := sd_st_some h
  refine sd_iast C X (by decide) bS_2 dX12_drawsYears_219 (fun H locs X => ?_)
  rw [← eS_2] at X
  refine lv_iinc (v := (x7 + (1 : Int32))) (lv' := [(7, .int (x7 + (1 : Int32))), (0, .ref (ad 130)), (2, .int x2), (3, .int x3), (4, .int x4), (5, .int x5), (6, .int x6)]) hx hb dX12_drawsYears_220 hl (k := 6) rfl rfl (by decide) rfl (fun ls hl => ?_)
  refine lv_goto (tgt := 140) hx hb dX12_drawsYears_223 (by decide) ?_
  exact hq140 x2 x3 x4 x5 x6 (x7 + (1 : Int32)) S_2 _ _ _ h X (lv_sub hl [1, 2, 3, 4, 5, 6, 0] rfl)
def f_X12_drawsYears_b212 (q50 : (Int32 → Int32 → sd_St → Option (Unit × sd_St))) (q88 : (Int32 → Int32 → Int32 → Int32 → sd_St → Option (Unit × sd_St))) (q140 : (Int32 → Int32 → Int32 → Int32 → Int32 → Int32 → sd_St → Option (Unit × sd_St))) (x2 : Int32) (x3 : Int32) (x4 : Int32) (x5 : Int32) (x6 : Int32) (x7 : Int32) (w1 : Int32) (S : sd_St) : Option (Unit × sd_St) := sd_ld S 140 x7 (fun v_3 => f_X12_drawsYears_b219 q50 q88 q140 x2 x3 x4 x5 x6 x7 w1 v_3 S)
set_option maxHeartbeats 4000000 in
set_option maxRecDepth 100000 in
theorem t_X12_drawsYears_b212 (C : sd_C RX12 cX12_drawsYears 8 none D cy ad A b0 p s m args meth c) {S' : sd_St} {q50 : (Int32 → Int32 → sd_St → Option (Unit × sd_St))} {q88 : (Int32 → Int32 → Int32 → Int32 → sd_St → Option (Unit × sd_St))} {q140 : (Int32 → Int32 → Int32 → Int32 → Int32 → Int32 → sd_St → Option (Unit × sd_St))} (hq50 : ∀ (x2 : Int32) (x3 : Int32) (S : sd_St) (H : Heap) (locs : List Loc) (ls : Array Slot), q50 x2 x3 S = some ((), S') → sd_H D cy ad A s S H locs → lv_has ls 8 [(0, .ref (ad 130)), (2, .int x2), (3, .int x3)] → W p l e (sd_rm 4) s m args below meth c H locs 0 0 (MQ below (sd_Qv D cy ad A S') args s 0 0 A) (F0 m 50 ls [])) (hq88 : ∀ (x2 : Int32) (x3 : Int32) (x4 : Int32) (x5 : Int32) (S : sd_St) (H : Heap) (locs : List Loc) (ls : Array Slot), q88 x2 x3 x4 x5 S = some ((), S') → sd_H D cy ad A s S H locs → lv_has ls 8 [(0, .ref (ad 130)), (2, .int x2), (3, .int x3), (4, .int x4), (5, .int x5)] → W p l e (sd_rm 4) s m args below meth c H locs 0 0 (MQ below (sd_Qv D cy ad A S') args s 0 0 A) (F0 m 88 ls [])) (hq140 : ∀ (x2 : Int32) (x3 : Int32) (x4 : Int32) (x5 : Int32) (x6 : Int32) (x7 : Int32) (S : sd_St) (H : Heap) (locs : List Loc) (ls : Array Slot), q140 x2 x3 x4 x5 x6 x7 S = some ((), S') → sd_H D cy ad A s S H locs → lv_has ls 8 [(0, .ref (ad 130)), (2, .int x2), (3, .int x3), (4, .int x4), (5, .int x5), (6, .int x6), (7, .int x7)] → W p l e (sd_rm 4) s m args below meth c H locs 0 0 (MQ below (sd_Qv D cy ad A S') args s 0 0 A) (F0 m 140 ls [])) : ∀ (x2 : Int32) (x3 : Int32) (x4 : Int32) (x5 : Int32) (x6 : Int32) (x7 : Int32) (w1 : Int32) (S : sd_St) (H : Heap) (locs : List Loc) (ls : Array Slot), f_X12_drawsYears_b212 q50 q88 q140 x2 x3 x4 x5 x6 x7 w1 S = some ((), S') → sd_H D cy ad A s S H locs → lv_has ls 8 [(0, .ref (ad 130)), (2, .int x2), (3, .int x3), (4, .int x4), (5, .int x5), (6, .int x6), (7, .int x7)] → W p l e (sd_rm 4) s m args below meth c H locs 0 0 (MQ below (sd_Qv D cy ad A S') args s 0 0 A) (F0 m 212 ls [.int w1, .ref (ad 140)]) := by
  obtain ⟨hx, hb, -, hml, hown, hts, -, hG⟩ := id C
  intro x2 x3 x4 x5 x6 x7 w1 S H locs ls h X hl
  unfold f_X12_drawsYears_b212 at h
  refine lv_aload_n hx hb dX12_drawsYears_212 rfl (lv_at hl 0 rfl) ?_
  refine sd_g12_17 (k := 130) C X (by decide) sd_w8_12 dX12_drawsYears_213 ?_
  refine lv_iload hx hb dX12_drawsYears_216 (lv_at hl 6 rfl) ?_
  obtain ⟨b_3, v_3, e_3, h⟩ := sd_ld_some h
  refine sd_iald C X (by decide) b_3 dX12_drawsYears_218 (sd_nmi e_3 ?_)
  exact t_X12_drawsYears_b219 C hq50 hq88 hq140 x2 x3 x4 x5 x6 x7 w1 v_3 S _ _ _ h X (lv_sub hl [0, 1, 2, 3, 4, 5, 6] rfl)
def f_X12_drawsYears_b226 (q50 : (Int32 → Int32 → sd_St → Option (Unit × sd_St))) (q88 : (Int32 → Int32 → Int32 → Int32 → sd_St → Option (Unit × sd_St))) (x2 : Int32) (x3 : Int32) (x4 : Int32) (x5 : Int32) (S : sd_St) : Option (Unit × sd_St) := q88 x2 x3 x4 (x5 + (1 : Int32)) S
set_option maxHeartbeats 4000000 in
set_option maxRecDepth 100000 in
theorem t_X12_drawsYears_b226 (C : sd_C RX12 cX12_drawsYears 8 none D cy ad A b0 p s m args meth c) {S' : sd_St} {q50 : (Int32 → Int32 → sd_St → Option (Unit × sd_St))} {q88 : (Int32 → Int32 → Int32 → Int32 → sd_St → Option (Unit × sd_St))} (hq50 : ∀ (x2 : Int32) (x3 : Int32) (S : sd_St) (H : Heap) (locs : List Loc) (ls : Array Slot), q50 x2 x3 S = some ((), S') → sd_H D cy ad A s S H locs → lv_has ls 8 [(0, .ref (ad 130)), (2, .int x2), (3, .int x3)] → W p l e (sd_rm 4) s m args below meth c H locs 0 0 (MQ below (sd_Qv D cy ad A S') args s 0 0 A) (F0 m 50 ls [])) (hq88 : ∀ (x2 : Int32) (x3 : Int32) (x4 : Int32) (x5 : Int32) (S : sd_St) (H : Heap) (locs : List Loc) (ls : Array Slot), q88 x2 x3 x4 x5 S = some ((), S') → sd_H D cy ad A s S H locs → lv_has ls 8 [(0, .ref (ad 130)), (2, .int x2), (3, .int x3), (4, .int x4), (5, .int x5)] → W p l e (sd_rm 4) s m args below meth c H locs 0 0 (MQ below (sd_Qv D cy ad A S') args s 0 0 A) (F0 m 88 ls [])) : ∀ (x2 : Int32) (x3 : Int32) (x4 : Int32) (x5 : Int32) (S : sd_St) (H : Heap) (locs : List Loc) (ls : Array Slot), f_X12_drawsYears_b226 q50 q88 x2 x3 x4 x5 S = some ((), S') → sd_H D cy ad A s S H locs → lv_has ls 8 [(0, .ref (ad 130)), (2, .int x2), (3, .int x3), (4, .int x4), (5, .int x5)] → W p l e (sd_rm 4) s m args below meth c H locs 0 0 (MQ below (sd_Qv D cy ad A S') args s 0 0 A) (F0 m 226 ls []) := by
  obtain ⟨hx, hb, -, hml, hown, hts, -, hG⟩ := id C
  intro x2 x3 x4 x5 S H locs ls h X hl
  unfold f_X12_drawsYears_b226 at h
  refine lv_iinc (v := (x5 + (1 : Int32))) (lv' := [(5, .int (x5 + (1 : Int32))), (0, .ref (ad 130)), (2, .int x2), (3, .int x3), (4, .int x4)]) hx hb dX12_drawsYears_226 hl (k := 4) rfl rfl (by decide) rfl (fun ls hl => ?_)
  refine lv_goto (tgt := 88) hx hb dX12_drawsYears_229 (by decide) ?_
  exact hq88 x2 x3 x4 (x5 + (1 : Int32)) S _ _ _ h X (lv_sub hl [1, 2, 3, 4, 0] rfl)
def f_X12_drawsYears_l140 (q50 : (Int32 → Int32 → sd_St → Option (Unit × sd_St))) (q88 : (Int32 → Int32 → Int32 → Int32 → sd_St → Option (Unit × sd_St))) : Nat → Int32 → Int32 → Int32 → Int32 → Int32 → Int32 → sd_St → Option (Unit × sd_St)
  | 0 => fun _ _ _ _ _ _ _ => none
  | n + 1 => fun x2 x3 x4 x5 x6 x7 S => sd_cl (f_X12_people S) (fun r_5 S_4 => (if r_5 ≤ x7 then f_X12_drawsYears_b226 q50 q88 x2 x3 x4 x5 S_4 else (if x6 = 0 then sd_cl (f_X12_tells x5 x2 x4 S_4) (fun r_9 S_8 => (if r_9 = 0 then f_X12_drawsYears_b226 q50 q88 x2 x3 x4 x5 S_8 else sd_ld S_8 140 x7 (fun v_11 => (if v_11 = (1000000 : Int32) then sd_cl (f_X12_calls x7 x5 S_8) (fun r_14 S_13 => (if r_14 = 0 then f_X12_drawsYears_b212 q50 q88 (f_X12_drawsYears_l140 q50 q88 n) x2 x3 x4 x5 x6 x7 x7 S_13 else sd_cl (f_X12_isGone x7 x4 S_13) (fun r_17 S_16 => (if r_17 = 0 then f_X12_drawsYears_b219 q50 q88 (f_X12_drawsYears_l140 q50 q88 n) x2 x3 x4 x5 x6 x7 x7 x4 S_16 else f_X12_drawsYears_b212 q50 q88 (f_X12_drawsYears_l140 q50 q88 n) x2 x3 x4 x5 x6 x7 x7 S_16)))) else f_X12_drawsYears_b212 q50 q88 (f_X12_drawsYears_l140 q50 q88 n) x2 x3 x4 x5 x6 x7 x7 S_8)))) else f_X12_drawsYears_b226 q50 q88 x2 x3 x4 x5 S_4)))
set_option maxHeartbeats 4000000 in
set_option maxRecDepth 100000 in
theorem t_X12_drawsYears_l140 (C : sd_C RX12 cX12_drawsYears 8 none D cy ad A b0 p s m args meth c) {S' : sd_St} {q50 : (Int32 → Int32 → sd_St → Option (Unit × sd_St))} {q88 : (Int32 → Int32 → Int32 → Int32 → sd_St → Option (Unit × sd_St))} (hq50 : ∀ (x2 : Int32) (x3 : Int32) (S : sd_St) (H : Heap) (locs : List Loc) (ls : Array Slot), q50 x2 x3 S = some ((), S') → sd_H D cy ad A s S H locs → lv_has ls 8 [(0, .ref (ad 130)), (2, .int x2), (3, .int x3)] → W p l e (sd_rm 4) s m args below meth c H locs 0 0 (MQ below (sd_Qv D cy ad A S') args s 0 0 A) (F0 m 50 ls [])) (hq88 : ∀ (x2 : Int32) (x3 : Int32) (x4 : Int32) (x5 : Int32) (S : sd_St) (H : Heap) (locs : List Loc) (ls : Array Slot), q88 x2 x3 x4 x5 S = some ((), S') → sd_H D cy ad A s S H locs → lv_has ls 8 [(0, .ref (ad 130)), (2, .int x2), (3, .int x3), (4, .int x4), (5, .int x5)] → W p l e (sd_rm 4) s m args below meth c H locs 0 0 (MQ below (sd_Qv D cy ad A S') args s 0 0 A) (F0 m 88 ls [])) : ∀ (n : Nat) (x2 : Int32) (x3 : Int32) (x4 : Int32) (x5 : Int32) (x6 : Int32) (x7 : Int32) (S : sd_St) (H : Heap) (locs : List Loc) (ls : Array Slot), f_X12_drawsYears_l140 q50 q88 n x2 x3 x4 x5 x6 x7 S = some ((), S') → sd_H D cy ad A s S H locs → lv_has ls 8 [(0, .ref (ad 130)), (2, .int x2), (3, .int x3), (4, .int x4), (5, .int x5), (6, .int x6), (7, .int x7)] → W p l e (sd_rm 4) s m args below meth c H locs 0 0 (MQ below (sd_Qv D cy ad A S') args s 0 0 A) (F0 m 140 ls []) := by
  obtain ⟨hx, hb, -, hml, hown, hts, -, hG⟩ := id C
  intro n
  induction n with
  | zero => intro x2 x3 x4 x5 x6 x7 S H locs ls h; cases h
  | succ n ih =>
    intro x2 x3 x4 x5 x6 x7 S H locs ls h X hl
    unfold f_X12_drawsYears_l140 at h
    refine lv_iload hx hb dX12_drawsYears_140 (lv_at hl 6 rfl) ?_
    refine lv_aload_n hx hb dX12_drawsYears_142 rfl (lv_at hl 0 rfl) ?_
    obtain ⟨r_5, S_4, er_5, h⟩ := sd_cl_some h
    refine k_X12_people C X hl.1 er_5 sd_w24_18 (by decide) (Nat.le_of_ble_eq_true rfl) dX12_drawsYears_143 (fun H locs X => ?_)
    refine lv_icmp_ge (tgt := 226) hx hb dX12_drawsYears_146 (by decide) (fun c_6 => ?_) (fun c_6 => ?_)
    · have h := sd_ifp c_6 h
      exact t_X12_drawsYears_b226 C hq50 hq88 x2 x3 x4 x5 S_4 _ _ _ h X (lv_sub hl [0, 1, 2, 3, 4] rfl)
    · have h := sd_ifn c_6 h
      refine lv_iload hx hb dX12_drawsYears_149 (lv_at hl 5 rfl) ?_
      refine lv_if_ne (tgt := 226) hx hb dX12_drawsYears_151 (by decide) (fun c_7 => ?_) (fun c_7 => ?_)
      · have h := sd_ifn c_7 h
        exact t_X12_drawsYears_b226 C hq50 hq88 x2 x3 x4 x5 S_4 _ _ _ h X (lv_sub hl [0, 1, 2, 3, 4] rfl)
      · have h := sd_ifp c_7 h
        refine lv_aload_n hx hb dX12_drawsYears_154 rfl (lv_at hl 0 rfl) ?_
        refine lv_iload hx hb dX12_drawsYears_155 (lv_at hl 4 rfl) ?_
        refine lv_iload_n hx hb dX12_drawsYears_157 rfl (lv_at hl 1 rfl) ?_
        refine lv_iload hx hb dX12_drawsYears_158 (lv_at hl 3 rfl) ?_
        obtain ⟨r_9, S_8, er_9, h⟩ := sd_cl_some h
        refine k_X12_tells C X hl.1 er_9 sd_w33_0 (by decide) (Nat.le_of_ble_eq_true rfl) dX12_drawsYears_160 (fun H locs X => ?_)
        refine lv_if_eq (tgt := 226) hx hb dX12_drawsYears_163 (by decide) (fun c_10 => ?_) (fun c_10 => ?_)
        · have h := sd_ifp c_10 h
          exact t_X12_drawsYears_b226 C hq50 hq88 x2 x3 x4 x5 S_8 _ _ _ h X (lv_sub hl [0, 1, 2, 3, 4] rfl)
        · have h := sd_ifn c_10 h
          refine lv_aload_n hx hb dX12_drawsYears_166 rfl (lv_at hl 0 rfl) ?_
          refine sd_g12_17 (k := 130) C X (by decide) sd_w8_12 dX12_drawsYears_167 ?_
          refine lv_iload hx hb dX12_drawsYears_170 (lv_at hl 6 rfl) ?_
          refine lv_aload_n hx hb dX12_drawsYears_172 rfl (lv_at hl 0 rfl) ?_
          refine sd_g12_17 (k := 130) C X (by decide) sd_w8_12 dX12_drawsYears_173 ?_
          refine lv_iload hx hb dX12_drawsYears_176 (lv_at hl 6 rfl) ?_
          obtain ⟨b_11, v_11, e_11, h⟩ := sd_ld_some h
          refine sd_iald C X (by decide) b_11 dX12_drawsYears_178 (sd_nmi e_11 ?_)
          refine lv_ldcw (v := (1000000 : Int32)) hx hb hown (hts _ sd_w31_10) dX12_drawsYears_179 ?_
          refine lv_icmp_ne (tgt := 212) hx hb dX12_drawsYears_182 (by decide) (fun c_12 => ?_) (fun c_12 => ?_)
          · have h := sd_ifn c_12 h
            exact t_X12_drawsYears_b212 C hq50 hq88 ih x2 x3 x4 x5 x6 x7 x7 S_8 _ _ _ h X (lv_sub hl [0, 1, 2, 3, 4, 5, 6] rfl)
          · have h := sd_ifp c_12 h
            refine lv_aload_n hx hb dX12_drawsYears_185 rfl (lv_at hl 0 rfl) ?_
            refine lv_iload hx hb dX12_drawsYears_186 (lv_at hl 6 rfl) ?_
            refine lv_iload hx hb dX12_drawsYears_188 (lv_at hl 4 rfl) ?_
            obtain ⟨r_14, S_13, er_14, h⟩ := sd_cl_some h
            refine k_X12_calls C X hl.1 er_14 sd_w25_1 (by decide) (Nat.le_of_ble_eq_true rfl) dX12_drawsYears_190 (fun H locs X => ?_)
            refine lv_if_eq (tgt := 212) hx hb dX12_drawsYears_193 (by decide) (fun c_15 => ?_) (fun c_15 => ?_)
            · have h := sd_ifp c_15 h
              exact t_X12_drawsYears_b212 C hq50 hq88 ih x2 x3 x4 x5 x6 x7 x7 S_13 _ _ _ h X (lv_sub hl [0, 1, 2, 3, 4, 5, 6] rfl)
            · have h := sd_ifn c_15 h
              refine lv_aload_n hx hb dX12_drawsYears_196 rfl (lv_at hl 0 rfl) ?_
              refine lv_iload hx hb dX12_drawsYears_197 (lv_at hl 6 rfl) ?_
              refine lv_iload hx hb dX12_drawsYears_199 (lv_at hl 3 rfl) ?_
              obtain ⟨r_17, S_16, er_17, h⟩ := sd_cl_some h
              refine k_X12_isGone C X hl.1 er_17 sd_w27_17 (by decide) (Nat.le_of_ble_eq_true rfl) dX12_drawsYears_201 (fun H locs X => ?_)
              refine lv_if_ne (tgt := 212) hx hb dX12_drawsYears_204 (by decide) (fun c_18 => ?_) (fun c_18 => ?_)
              · have h := sd_ifn c_18 h
                exact t_X12_drawsYears_b212 C hq50 hq88 ih x2 x3 x4 x5 x6 x7 x7 S_16 _ _ _ h X (lv_sub hl [0, 1, 2, 3, 4, 5, 6] rfl)
              · have h := sd_ifp c_18 h
                refine lv_iload hx hb dX12_drawsYears_207 (lv_at hl 3 rfl) ?_
                refine lv_goto (tgt := 219) hx hb dX12_drawsYears_209 (by decide) ?_
                exact t_X12_drawsYears_b219 C hq50 hq88 ih x2 x3 x4 x5 x6 x7 x7 x4 S_16 _ _ _ h X (lv_sub hl [0, 1, 2, 3, 4, 5, 6] rfl)
def f_X12_drawsYears_b135 (q50 : (Int32 → Int32 → sd_St → Option (Unit × sd_St))) (q88 : (Int32 → Int32 → Int32 → Int32 → sd_St → Option (Unit × sd_St))) (x2 : Int32) (x3 : Int32) (x4 : Int32) (x5 : Int32) (w0 : Int32) (S : sd_St) : Option (Unit × sd_St) := f_X12_drawsYears_l140 q50 q88 sd_FU x2 x3 x4 x5 w0 (0 : Int32) S
set_option maxHeartbeats 4000000 in
set_option maxRecDepth 100000 in
theorem t_X12_drawsYears_b135 (C : sd_C RX12 cX12_drawsYears 8 none D cy ad A b0 p s m args meth c) {S' : sd_St} {q50 : (Int32 → Int32 → sd_St → Option (Unit × sd_St))} {q88 : (Int32 → Int32 → Int32 → Int32 → sd_St → Option (Unit × sd_St))} (hq50 : ∀ (x2 : Int32) (x3 : Int32) (S : sd_St) (H : Heap) (locs : List Loc) (ls : Array Slot), q50 x2 x3 S = some ((), S') → sd_H D cy ad A s S H locs → lv_has ls 8 [(0, .ref (ad 130)), (2, .int x2), (3, .int x3)] → W p l e (sd_rm 4) s m args below meth c H locs 0 0 (MQ below (sd_Qv D cy ad A S') args s 0 0 A) (F0 m 50 ls [])) (hq88 : ∀ (x2 : Int32) (x3 : Int32) (x4 : Int32) (x5 : Int32) (S : sd_St) (H : Heap) (locs : List Loc) (ls : Array Slot), q88 x2 x3 x4 x5 S = some ((), S') → sd_H D cy ad A s S H locs → lv_has ls 8 [(0, .ref (ad 130)), (2, .int x2), (3, .int x3), (4, .int x4), (5, .int x5)] → W p l e (sd_rm 4) s m args below meth c H locs 0 0 (MQ below (sd_Qv D cy ad A S') args s 0 0 A) (F0 m 88 ls [])) : ∀ (x2 : Int32) (x3 : Int32) (x4 : Int32) (x5 : Int32) (w0 : Int32) (S : sd_St) (H : Heap) (locs : List Loc) (ls : Array Slot), f_X12_drawsYears_b135 q50 q88 x2 x3 x4 x5 w0 S = some ((), S') → sd_H D cy ad A s S H locs → lv_has ls 8 [(0, .ref (ad 130)), (2, .int x2), (3, .int x3), (4, .int x4), (5, .int x5)] → W p l e (sd_rm 4) s m args below meth c H locs 0 0 (MQ below (sd_Qv D cy ad A S') args s 0 0 A) (F0 m 135 ls [.int w0]) := by
  obtain ⟨hx, hb, -, hml, hown, hts, -, hG⟩ := id C
  intro x2 x3 x4 x5 w0 S H locs ls h X hl
  unfold f_X12_drawsYears_b135 at h
  refine lv_istore (lv' := [(6, .int w0), (0, .ref (ad 130)), (2, .int x2), (3, .int x3), (4, .int x4), (5, .int x5)]) hx hb dX12_drawsYears_135 hl (by decide) rfl (fun ls hl => ?_)
  refine lv_iconst (v := (0 : Int32)) hx hb dX12_drawsYears_137 (by decide) ?_
  refine lv_istore (lv' := [(7, .int (0 : Int32)), (6, .int w0), (0, .ref (ad 130)), (2, .int x2), (3, .int x3), (4, .int x4), (5, .int x5)]) hx hb dX12_drawsYears_138 hl (by decide) rfl (fun ls hl => ?_)
  exact t_X12_drawsYears_l140 C hq50 hq88 sd_FU x2 x3 x4 x5 w0 (0 : Int32) S _ _ _ h X (lv_sub hl [2, 3, 4, 5, 6, 1, 0] rfl)
def f_X12_drawsYears_b134 (q50 : (Int32 → Int32 → sd_St → Option (Unit × sd_St))) (q88 : (Int32 → Int32 → Int32 → Int32 → sd_St → Option (Unit × sd_St))) (x2 : Int32) (x3 : Int32) (x4 : Int32) (x5 : Int32) (S : sd_St) : Option (Unit × sd_St) := f_X12_drawsYears_b135 q50 q88 x2 x3 x4 x5 (0 : Int32) S
set_option maxHeartbeats 4000000 in
set_option maxRecDepth 100000 in
theorem t_X12_drawsYears_b134 (C : sd_C RX12 cX12_drawsYears 8 none D cy ad A b0 p s m args meth c) {S' : sd_St} {q50 : (Int32 → Int32 → sd_St → Option (Unit × sd_St))} {q88 : (Int32 → Int32 → Int32 → Int32 → sd_St → Option (Unit × sd_St))} (hq50 : ∀ (x2 : Int32) (x3 : Int32) (S : sd_St) (H : Heap) (locs : List Loc) (ls : Array Slot), q50 x2 x3 S = some ((), S') → sd_H D cy ad A s S H locs → lv_has ls 8 [(0, .ref (ad 130)), (2, .int x2), (3, .int x3)] → W p l e (sd_rm 4) s m args below meth c H locs 0 0 (MQ below (sd_Qv D cy ad A S') args s 0 0 A) (F0 m 50 ls [])) (hq88 : ∀ (x2 : Int32) (x3 : Int32) (x4 : Int32) (x5 : Int32) (S : sd_St) (H : Heap) (locs : List Loc) (ls : Array Slot), q88 x2 x3 x4 x5 S = some ((), S') → sd_H D cy ad A s S H locs → lv_has ls 8 [(0, .ref (ad 130)), (2, .int x2), (3, .int x3), (4, .int x4), (5, .int x5)] → W p l e (sd_rm 4) s m args below meth c H locs 0 0 (MQ below (sd_Qv D cy ad A S') args s 0 0 A) (F0 m 88 ls [])) : ∀ (x2 : Int32) (x3 : Int32) (x4 : Int32) (x5 : Int32) (S : sd_St) (H : Heap) (locs : List Loc) (ls : Array Slot), f_X12_drawsYears_b134 q50 q88 x2 x3 x4 x5 S = some ((), S') → sd_H D cy ad A s S H locs → lv_has ls 8 [(0, .ref (ad 130)), (2, .int x2), (3, .int x3), (4, .int x4), (5, .int x5)] → W p l e (sd_rm 4) s m args below meth c H locs 0 0 (MQ below (sd_Qv D cy ad A S') args s 0 0 A) (F0 m 134 ls []) := by
  obtain ⟨hx, hb, -, hml, hown, hts, -, hG⟩ := id C
  intro x2 x3 x4 x5 S H locs ls h X hl
  unfold f_X12_drawsYears_b134 at h
  refine lv_iconst (v := (0 : Int32)) hx hb dX12_drawsYears_134 (by decide) ?_
  exact t_X12_drawsYears_b135 C hq50 hq88 x2 x3 x4 x5 (0 : Int32) S _ _ _ h X (lv_sub hl [0, 1, 2, 3, 4] rfl)
def f_X12_drawsYears_l88 (q50 : (Int32 → Int32 → sd_St → Option (Unit × sd_St))) : Nat → Int32 → Int32 → Int32 → Int32 → sd_St → Option (Unit × sd_St)
  | 0 => fun _ _ _ _ _ => none
  | n + 1 => fun x2 x3 x4 x5 S => sd_cl (f_X12_people S) (fun r_20 S_19 => (if r_20 ≤ x5 then q50 x2 (x3 + (1 : Int32)) S_19 else sd_cl (f_X12_isFree x5 x4 S_19) (fun r_23 S_22 => (if r_23 = 0 then f_X12_drawsYears_b134 q50 (f_X12_drawsYears_l88 q50 n) x2 x3 x4 x5 S_22 else sd_cl (f_X12_draw (100 : Int32) S_22) (fun r_26 S_25 => sd_ld S_25 136 (((3 : Int32) + ((4 : Int32) * x5)) + (2 : Int32)) (fun v_27 => (if v_27 ≤ r_26 then f_X12_drawsYears_b134 q50 (f_X12_drawsYears_l88 q50 n) x2 x3 x4 x5 S_25 else f_X12_drawsYears_b135 q50 (f_X12_drawsYears_l88 q50 n) x2 x3 x4 x5 (1 : Int32) S_25)))))))
set_option maxHeartbeats 4000000 in
set_option maxRecDepth 100000 in
theorem t_X12_drawsYears_l88 (C : sd_C RX12 cX12_drawsYears 8 none D cy ad A b0 p s m args meth c) {S' : sd_St} {q50 : (Int32 → Int32 → sd_St → Option (Unit × sd_St))} (hq50 : ∀ (x2 : Int32) (x3 : Int32) (S : sd_St) (H : Heap) (locs : List Loc) (ls : Array Slot), q50 x2 x3 S = some ((), S') → sd_H D cy ad A s S H locs → lv_has ls 8 [(0, .ref (ad 130)), (2, .int x2), (3, .int x3)] → W p l e (sd_rm 4) s m args below meth c H locs 0 0 (MQ below (sd_Qv D cy ad A S') args s 0 0 A) (F0 m 50 ls [])) : ∀ (n : Nat) (x2 : Int32) (x3 : Int32) (x4 : Int32) (x5 : Int32) (S : sd_St) (H : Heap) (locs : List Loc) (ls : Array Slot), f_X12_drawsYears_l88 q50 n x2 x3 x4 x5 S = some ((), S') → sd_H D cy ad A s S H locs → lv_has ls 8 [(0, .ref (ad 130)), (2, .int x2), (3, .int x3), (4, .int x4), (5, .int x5)] → W p l e (sd_rm 4) s m args below meth c H locs 0 0 (MQ below (sd_Qv D cy ad A S') args s 0 0 A) (F0 m 88 ls []) := by
  obtain ⟨hx, hb, -, hml, hown, hts, -, hG⟩ := id C
  intro n
  induction n with
  | zero => intro x2 x3 x4 x5 S H locs ls h; cases h
  | succ n ih =>
    intro x2 x3 x4 x5 S H locs ls h X hl
    unfold f_X12_drawsYears_l88 at h
    refine lv_iload hx hb dX12_drawsYears_88 (lv_at hl 4 rfl) ?_
    refine lv_aload_n hx hb dX12_drawsYears_90 rfl (lv_at hl 0 rfl) ?_
    obtain ⟨r_20, S_19, er_20, h⟩ := sd_cl_some h
    refine k_X12_people C X hl.1 er_20 sd_w24_18 (by decide) (Nat.le_of_ble_eq_true rfl) dX12_drawsYears_91 (fun H locs X => ?_)
    refine lv_icmp_ge (tgt := 232) hx hb dX12_drawsYears_94 (by decide) (fun c_21 => ?_) (fun c_21 => ?_)
    · have h := sd_ifp c_21 h
      refine lv_iinc (v := (x3 + (1 : Int32))) (lv' := [(3, .int (x3 + (1 : Int32))), (0, .ref (ad 130)), (2, .int x2), (4, .int x4), (5, .int x5)]) hx hb dX12_drawsYears_232 hl (k := 2) rfl rfl (by decide) rfl (fun ls hl => ?_)
      refine lv_goto (tgt := 50) hx hb dX12_drawsYears_235 (by decide) ?_
      exact hq50 x2 (x3 + (1 : Int32)) S_19 _ _ _ h X (lv_sub hl [1, 2, 0] rfl)
    · have h := sd_ifn c_21 h
      refine lv_aload_n hx hb dX12_drawsYears_97 rfl (lv_at hl 0 rfl) ?_
      refine lv_iload hx hb dX12_drawsYears_98 (lv_at hl 4 rfl) ?_
      refine lv_iload hx hb dX12_drawsYears_100 (lv_at hl 3 rfl) ?_
      obtain ⟨r_23, S_22, er_23, h⟩ := sd_cl_some h
      refine k_X12_isFree C X hl.1 er_23 sd_w27_5 (by decide) (Nat.le_of_ble_eq_true rfl) dX12_drawsYears_102 (fun H locs X => ?_)
      refine lv_if_eq (tgt := 134) hx hb dX12_drawsYears_105 (by decide) (fun c_24 => ?_) (fun c_24 => ?_)
      · have h := sd_ifp c_24 h
        exact t_X12_drawsYears_b134 C hq50 ih x2 x3 x4 x5 S_22 _ _ _ h X (lv_sub hl [0, 1, 2, 3, 4] rfl)
      · have h := sd_ifn c_24 h
        refine lv_aload_n hx hb dX12_drawsYears_108 rfl (lv_at hl 0 rfl) ?_
        refine lv_bipush (v := (100 : Int32)) hx hb dX12_drawsYears_109 (by decide) ?_
        obtain ⟨r_26, S_25, er_26, h⟩ := sd_cl_some h
        refine k_X12_draw C X hl.1 er_26 sd_w49_3 (by decide) (Nat.le_of_ble_eq_true rfl) dX12_drawsYears_111 (fun H locs X => ?_)
        refine lv_aload_n hx hb dX12_drawsYears_114 rfl (lv_at hl 0 rfl) ?_
        refine sd_g12_10 (k := 130) C X (by decide) sd_w8_8 dX12_drawsYears_115 ?_
        refine lv_iconst (v := (3 : Int32)) hx hb dX12_drawsYears_118 (by decide) ?_
        refine lv_iconst (v := (4 : Int32)) hx hb dX12_drawsYears_119 (by decide) ?_
        refine lv_iload hx hb dX12_drawsYears_120 (lv_at hl 4 rfl) ?_
        refine lv_imul hx hb dX12_drawsYears_122 ?_
        refine lv_iadd hx hb dX12_drawsYears_123 ?_
        refine lv_iconst (v := (2 : Int32)) hx hb dX12_drawsYears_124 (by decide) ?_
        refine lv_iadd hx hb dX12_drawsYears_125 ?_
        obtain ⟨b_27, v_27, e_27, h⟩ := sd_ld_some h
        refine sd_iald C X (by decide) b_27 dX12_drawsYears_126 (sd_nmi e_27 ?_)
        refine lv_icmp_ge (tgt := 134) hx hb dX12_drawsYears_127 (by decide) (fun c_28 => ?_) (fun c_28 => ?_)
        · have h := sd_ifp c_28 h
          exact t_X12_drawsYears_b134 C hq50 ih x2 x3 x4 x5 S_25 _ _ _ h X (lv_sub hl [0, 1, 2, 3, 4] rfl)
        · have h := sd_ifn c_28 h
          refine lv_iconst (v := (1 : Int32)) hx hb dX12_drawsYears_130 (by decide) ?_
          refine lv_goto (tgt := 135) hx hb dX12_drawsYears_131 (by decide) ?_
          exact t_X12_drawsYears_b135 C hq50 ih x2 x3 x4 x5 (1 : Int32) S_25 _ _ _ h X (lv_sub hl [0, 1, 2, 3, 4] rfl)
def f_X12_drawsYears_l50 : Nat → Int32 → Int32 → sd_St → Option (Unit × sd_St)
  | 0 => fun _ _ _ => none
  | n + 1 => fun x2 x3 S => (if ((12 : Int32) * (S.1 130 16)) ≤ x3 then (some ((), S)) else sd_nz (S.1 130 16) (sd_nz (S.1 130 16) (sd_ld S 139 (sd_rem x3 (S.1 130 16)) (fun v_32 => sd_nm ((((366 : Int32) * (x3 / (S.1 130 16))) + v_32)) (fun v_33 => f_X12_drawsYears_l88 (f_X12_drawsYears_l50 n) sd_FU x2 x3 v_33 (0 : Int32) S)))))
set_option maxHeartbeats 4000000 in
set_option maxRecDepth 100000 in
theorem t_X12_drawsYears_l50 (C : sd_C RX12 cX12_drawsYears 8 none D cy ad A b0 p s m args meth c) {S' : sd_St} : ∀ (n : Nat) (x2 : Int32) (x3 : Int32) (S : sd_St) (H : Heap) (locs : List Loc) (ls : Array Slot), f_X12_drawsYears_l50 n x2 x3 S = some ((), S') → sd_H D cy ad A s S H locs → lv_has ls 8 [(0, .ref (ad 130)), (2, .int x2), (3, .int x3)] → W p l e (sd_rm 4) s m args below meth c H locs 0 0 (MQ below (sd_Qv D cy ad A S') args s 0 0 A) (F0 m 50 ls []) := by
  obtain ⟨hx, hb, -, hml, hown, hts, -, hG⟩ := id C
  intro n
  induction n with
  | zero => intro x2 x3 S H locs ls h; cases h
  | succ n ih =>
    intro x2 x3 S H locs ls h X hl
    unfold f_X12_drawsYears_l50 at h
    refine lv_iload_n hx hb dX12_drawsYears_50 rfl (lv_at hl 2 rfl) ?_
    refine lv_bipush (v := (12 : Int32)) hx hb dX12_drawsYears_51 (by decide) ?_
    refine lv_aload_n hx hb dX12_drawsYears_53 rfl (lv_at hl 0 rfl) ?_
    refine sd_g12_16 C X (by decide) sd_w32_15 dX12_drawsYears_54 ?_
    refine lv_imul hx hb dX12_drawsYears_57 ?_
    refine lv_icmp_ge (tgt := 238) hx hb dX12_drawsYears_58 (by decide) (fun c_29 => ?_) (fun c_29 => ?_)
    · have h := sd_ifp c_29 h
      cases h
      exact sd_vret C X dX12_drawsYears_238
    · have h := sd_ifn c_29 h
      refine lv_sipush (v := (366 : Int32)) hx hb dX12_drawsYears_61 (by decide) ?_
      refine lv_iload_n hx hb dX12_drawsYears_64 rfl (lv_at hl 2 rfl) ?_
      refine lv_aload_n hx hb dX12_drawsYears_65 rfl (lv_at hl 0 rfl) ?_
      refine sd_g12_16 C X (by decide) sd_w32_15 dX12_drawsYears_66 ?_
      obtain ⟨c_30, h⟩ := sd_nz_some h
      refine lv_idiv hx hb dX12_drawsYears_69 c_30 ?_
      refine lv_imul hx hb dX12_drawsYears_70 ?_
      refine lv_aload_n hx hb dX12_drawsYears_71 rfl (lv_at hl 0 rfl) ?_
      refine sd_g12_15 (k := 130) C X (by decide) sd_w8_11 dX12_drawsYears_72 ?_
      refine lv_iload_n hx hb dX12_drawsYears_75 rfl (lv_at hl 2 rfl) ?_
      refine lv_aload_n hx hb dX12_drawsYears_76 rfl (lv_at hl 0 rfl) ?_
      refine sd_g12_16 C X (by decide) sd_w32_15 dX12_drawsYears_77 ?_
      obtain ⟨c_31, h⟩ := sd_nz_some h
      refine lv_irem hx hb dX12_drawsYears_80 c_31 ?_
      obtain ⟨b_32, v_32, e_32, h⟩ := sd_ld_some h
      refine sd_iald C X (by decide) b_32 dX12_drawsYears_81 (sd_nmi e_32 ?_)
      refine lv_iadd hx hb dX12_drawsYears_82 ?_
      obtain ⟨v_33, e_33, h⟩ := sd_nm_some h
      refine sd_nmi e_33 ?_
      refine lv_istore (lv' := [(4, .int v_33), (0, .ref (ad 130)), (2, .int x2), (3, .int x3)]) hx hb dX12_drawsYears_83 hl (by decide) rfl (fun ls hl => ?_)
      refine lv_iconst (v := (0 : Int32)) hx hb dX12_drawsYears_85 (by decide) ?_
      refine lv_istore (lv' := [(5, .int (0 : Int32)), (4, .int v_33), (0, .ref (ad 130)), (2, .int x2), (3, .int x3)]) hx hb dX12_drawsYears_86 hl (by decide) rfl (fun ls hl => ?_)
      exact t_X12_drawsYears_l88 C ih sd_FU x2 x3 v_33 (0 : Int32) S _ _ _ h X (lv_sub hl [2, 3, 4, 1, 0] rfl)
def f_X12_drawsYears_l8 : Nat → Int32 → Int32 → Int32 → sd_St → Option (Unit × sd_St)
  | 0 => fun _ _ _ _ => none
  | n + 1 => fun x1 x2 x3 S => sd_cl (f_X12_people S) (fun r_35 S_34 => (if r_35 ≤ x3 then sd_cl (f_X12_findDays S_34) (fun _ S_37 => f_X12_drawsYears_l50 sd_FU x2 (0 : Int32) S_37) else (if x3 = x2 then sd_cl (f_X12_fromOf x1 S_34) (fun r_41 S_40 => f_X12_drawsYears_b37 (f_X12_drawsYears_l8 n) x1 x2 x3 x3 r_41 S_40) else f_X12_drawsYears_b37 (f_X12_drawsYears_l8 n) x1 x2 x3 x3 (1000000 : Int32) S_34)))
set_option maxHeartbeats 4000000 in
set_option maxRecDepth 100000 in
theorem t_X12_drawsYears_l8 (C : sd_C RX12 cX12_drawsYears 8 none D cy ad A b0 p s m args meth c) {S' : sd_St} : ∀ (n : Nat) (x1 : Int32) (x2 : Int32) (x3 : Int32) (S : sd_St) (H : Heap) (locs : List Loc) (ls : Array Slot), f_X12_drawsYears_l8 n x1 x2 x3 S = some ((), S') → sd_H D cy ad A s S H locs → lv_has ls 8 [(0, .ref (ad 130)), (1, .int x1), (2, .int x2), (3, .int x3)] → W p l e (sd_rm 4) s m args below meth c H locs 0 0 (MQ below (sd_Qv D cy ad A S') args s 0 0 A) (F0 m 8 ls []) := by
  obtain ⟨hx, hb, -, hml, hown, hts, -, hG⟩ := id C
  intro n
  induction n with
  | zero => intro x1 x2 x3 S H locs ls h; cases h
  | succ n ih =>
    intro x1 x2 x3 S H locs ls h X hl
    unfold f_X12_drawsYears_l8 at h
    refine lv_iload_n hx hb dX12_drawsYears_8 rfl (lv_at hl 3 rfl) ?_
    refine lv_aload_n hx hb dX12_drawsYears_9 rfl (lv_at hl 0 rfl) ?_
    obtain ⟨r_35, S_34, er_35, h⟩ := sd_cl_some h
    refine k_X12_people C X hl.1 er_35 sd_w24_18 (by decide) (Nat.le_of_ble_eq_true rfl) dX12_drawsYears_10 (fun H locs X => ?_)
    refine lv_icmp_ge (tgt := 44) hx hb dX12_drawsYears_13 (by decide) (fun c_36 => ?_) (fun c_36 => ?_)
    · have h := sd_ifp c_36 h
      refine lv_aload_n hx hb dX12_drawsYears_44 rfl (lv_at hl 0 rfl) ?_
      obtain ⟨r_38, S_37, er_38, h⟩ := sd_cl_some h
      refine k_X12_findDays C X hl.1 er_38 sd_w32_16 (by decide) (Nat.le_of_ble_eq_true rfl) dX12_drawsYears_45 (fun H locs X => ?_)
      refine lv_iconst (v := (0 : Int32)) hx hb dX12_drawsYears_48 (by decide) ?_
      refine lv_istore_n (lv' := [(3, .int (0 : Int32)), (0, .ref (ad 130)), (1, .int x1), (2, .int x2)]) hx hb dX12_drawsYears_49 rfl hl (by decide) rfl (fun ls hl => ?_)
      exact t_X12_drawsYears_l50 C sd_FU x2 (0 : Int32) S_37 _ _ _ h X (lv_sub hl [1, 3, 0] rfl)
    · have h := sd_ifn c_36 h
      refine lv_aload_n hx hb dX12_drawsYears_16 rfl (lv_at hl 0 rfl) ?_
      refine sd_g12_17 (k := 130) C X (by decide) sd_w8_12 dX12_drawsYears_17 ?_
      refine lv_iload_n hx hb dX12_drawsYears_20 rfl (lv_at hl 3 rfl) ?_
      refine lv_iload_n hx hb dX12_drawsYears_21 rfl (lv_at hl 3 rfl) ?_
      refine lv_iload_n hx hb dX12_drawsYears_22 rfl (lv_at hl 2 rfl) ?_
      refine lv_icmp_ne (tgt := 34) hx hb dX12_drawsYears_23 (by decide) (fun c_39 => ?_) (fun c_39 => ?_)
      · have h := sd_ifn c_39 h
        refine lv_ldcw (v := (1000000 : Int32)) hx hb hown (hts _ sd_w31_10) dX12_drawsYears_34 ?_
        exact t_X12_drawsYears_b37 C ih x1 x2 x3 x3 (1000000 : Int32) S_34 _ _ _ h X (lv_sub hl [0, 1, 2, 3] rfl)
      · have h := sd_ifp c_39 h
        refine lv_aload_n hx hb dX12_drawsYears_26 rfl (lv_at hl 0 rfl) ?_
        refine lv_iload_n hx hb dX12_drawsYears_27 rfl (lv_at hl 1 rfl) ?_
        obtain ⟨r_41, S_40, er_41, h⟩ := sd_cl_some h
        refine k_X12_fromOf C X hl.1 er_41 sd_w32_7 (by decide) (Nat.le_of_ble_eq_true rfl) dX12_drawsYears_28 (fun H locs X => ?_)
        refine lv_goto (tgt := 37) hx hb dX12_drawsYears_31 (by decide) ?_
        exact t_X12_drawsYears_b37 C ih x1 x2 x3 x3 r_41 S_40 _ _ _ h X (lv_sub hl [0, 1, 2, 3] rfl)
def f_X12_drawsYears (x1 : Int32) (S : sd_St) : Option (Unit × sd_St) := sd_cl (f_X12_beginner x1 S) (fun r_43 S_42 => f_X12_drawsYears_l8 sd_FU x1 r_43 (0 : Int32) S_42)
set_option maxHeartbeats 4000000 in
set_option maxRecDepth 100000 in
theorem c_X12_drawsYears {x1 : Int32} {S S' : sd_St} (h : f_X12_drawsYears x1 S = some ((), S')) : Met l yX12_drawsYears (Cond.code yX12_drawsYears cX12_drawsYears 8 none :: sd_wl) (sd_rm 4) (sd_P D cy ad A b0 [.ref (ad 130), .int x1] S) (sd_Qv D cy ad A S') 0 0 A := by
  refine sd_met (by decide) (Nat.le_of_ble_eq_true rfl) (fun p e s m args below meth c ls C X hl => ?_)
  obtain ⟨hx, hb, -, hml, hown, hts, -, hG⟩ := id C
  replace C : sd_C RX12 cX12_drawsYears 8 none D cy ad A b0 p s m args meth c := C
  replace hl : lv_has ls 8 [(0, .ref (ad 130)), (1, .int x1)] := hl
  unfold f_X12_drawsYears at h
  refine lv_aload_n hx hb dX12_drawsYears_0 rfl (lv_at hl 0 rfl) ?_
  refine lv_iload_n hx hb dX12_drawsYears_1 rfl (lv_at hl 1 rfl) ?_
  obtain ⟨r_43, S_42, er_43, h⟩ := sd_cl_some h
  refine k_X12_beginner C X hl.1 er_43 sd_w32_3 (by decide) (Nat.le_of_ble_eq_true rfl) dX12_drawsYears_2 (fun H locs X => ?_)
  refine lv_istore_n (lv' := [(2, .int r_43), (0, .ref (ad 130)), (1, .int x1)]) hx hb dX12_drawsYears_5 rfl hl (by decide) rfl (fun ls hl => ?_)
  refine lv_iconst (v := (0 : Int32)) hx hb dX12_drawsYears_6 (by decide) ?_
  refine lv_istore_n (lv' := [(3, .int (0 : Int32)), (2, .int r_43), (0, .ref (ad 130)), (1, .int x1)]) hx hb dX12_drawsYears_7 rfl hl (by decide) rfl (fun ls hl => ?_)
  exact t_X12_drawsYears_l8 C sd_FU x1 r_43 (0 : Int32) S_42 _ _ _ h X (lv_sub hl [2, 3, 1, 0] rfl)
theorem k_X12_drawsYears (C : sd_C own cc nL rt D cy ad A b0 p s m args meth c) (X : sd_H D cy ad A s S H locs) (hls : ls.size = nL) {x1 : Int32} {S2 : sd_St} (h : f_X12_drawsYears x1 S = some ((), S2)) (hlink : Cond.methodLink own index yX12_drawsYears ∈ sd_wl) (hR : 5 ≤ R.frames ∧ 187 ≤ R.locals ∧ cells ≤ R.cells ∧ slots ≤ R.slots) (hst : (rest.map fun v => v.category).sum ≤ 8) (hdg : decode cc pc = .ok (.invokevirtual index, 3)) (kk : ∀ (H1 : Heap) (locs1 : List Loc), sd_H D cy ad A s S2 H1 locs1 → W p l e R s m args below meth c H1 locs1 cells slots Q (F0 m (pc + 3) ls rest)) : W p l e R s m args below meth c H locs cells slots Q (F0 m pc ls (.int x1 :: .ref (ad 130) :: rest)) :=
  sd_goV X (sd_runV C X hls (n := 1) (k := 130) (As := [.int x1]) (c_X12_drawsYears (l := l) (b0 := b0) h) (sd_goodV hlink sd_w49_0 sd_w49_1 sd_w1_5 sd_w49_2) (ci := 12) rfl (by rw [(show sd_kd 130 = 12 by decide)]; decide) (sd_c12 (show sd_kd 130 = 12 by decide)) (by decide +kernel) rfl hR rfl hst hdg) kk
/-! ===== SecretDaysModel.runs(IIIIII)I ===== -/
def f_X12_runs_b129 (q71 : (Int32 → Int32 → Int32 → Int32 → Int32 → Int32 → Int32 → Int32 → sd_St → Option (Int32 × sd_St))) (x2 : Int32) (x3 : Int32) (x4 : Int32) (x5 : Int32) (x6 : Int32) (x7 : Int32) (x9 : Int32) (w0 : Int32) (w1 : Int32) (S : sd_St) : Option (Int32 × sd_St) := sd_nm ((w0 + w1)) (fun v_1 => q71 x2 x3 x4 x5 x6 x7 v_1 (x9 + (1 : Int32)) S)
set_option maxHeartbeats 4000000 in
set_option maxRecDepth 100000 in
theorem t_X12_runs_b129 (C : sd_C RX12 cX12_runs 10 (some .int) D cy ad A b0 p s m args meth c) {r : Int32} {S' : sd_St} {q71 : (Int32 → Int32 → Int32 → Int32 → Int32 → Int32 → Int32 → Int32 → sd_St → Option (Int32 × sd_St))} (hq71 : ∀ (x2 : Int32) (x3 : Int32) (x4 : Int32) (x5 : Int32) (x6 : Int32) (x7 : Int32) (x8 : Int32) (x9 : Int32) (S : sd_St) (H : Heap) (locs : List Loc) (ls : Array Slot), q71 x2 x3 x4 x5 x6 x7 x8 x9 S = some (r, S') → sd_H D cy ad A s S H locs → lv_has ls 10 [(0, .ref (ad 130)), (2, .int x2), (3, .int x3), (4, .int x4), (5, .int x5), (6, .int x6), (7, .int x7), (8, .int x8), (9, .int x9)] → W p l e (sd_rm 5) s m args below meth c H locs 0 0 (MQ below (sd_Qi D cy ad A r S') args s 0 0 A) (F0 m 71 ls [])) : ∀ (x2 : Int32) (x3 : Int32) (x4 : Int32) (x5 : Int32) (x6 : Int32) (x7 : Int32) (x9 : Int32) (w0 : Int32) (w1 : Int32) (S : sd_St) (H : Heap) (locs : List Loc) (ls : Array Slot), f_X12_runs_b129 q71 x2 x3 x4 x5 x6 x7 x9 w0 w1 S = some (r, S') → sd_H D cy ad A s S H locs → lv_has ls 10 [(0, .ref (ad 130)), (2, .int x2), (3, .int x3), (4, .int x4), (5, .int x5), (6, .int x6), (7, .int x7), (9, .int x9)] → W p l e (sd_rm 5) s m args below meth c H locs 0 0 (MQ below (sd_Qi D cy ad A r S') args s 0 0 A) (F0 m 129 ls [.int w1, .int w0]) := by
  obtain ⟨hx, hb, -, hml, hown, hts, -, hG⟩ := id C
  intro x2 x3 x4 x5 x6 x7 x9 w0 w1 S H locs ls h X hl
  unfold f_X12_runs_b129 at h
  refine lv_iadd hx hb dX12_runs_129 ?_
  obtain ⟨v_1, e_1, h⟩ := sd_nm_some h
  refine sd_nmi e_1 ?_
  refine lv_istore (lv' := [(8, .int v_1), (0, .ref (ad 130)), (2, .int x2), (3, .int x3), (4, .int x4), (5, .int x5), (6, .int x6), (7, .int x7), (9, .int x9)]) hx hb dX12_runs_130 hl (by decide) rfl (fun ls hl => ?_)
  refine lv_iinc (v := (x9 + (1 : Int32))) (lv' := [(9, .int (x9 + (1 : Int32))), (8, .int v_1), (0, .ref (ad 130)), (2, .int x2), (3, .int x3), (4, .int x4), (5, .int x5), (6, .int x6), (7, .int x7)]) hx hb dX12_runs_132 hl (k := 8) rfl rfl (by decide) rfl (fun ls hl => ?_)
  refine lv_goto (tgt := 71) hx hb dX12_runs_135 (by decide) ?_
  exact hq71 x2 x3 x4 x5 x6 x7 v_1 (x9 + (1 : Int32)) S _ _ _ h X (lv_sub hl [2, 3, 4, 5, 6, 7, 8, 1, 0] rfl)
def f_X12_runs_b101 (q71 : (Int32 → Int32 → Int32 → Int32 → Int32 → Int32 → Int32 → Int32 → sd_St → Option (Int32 × sd_St))) (x2 : Int32) (x3 : Int32) (x4 : Int32) (x5 : Int32) (x6 : Int32) (x8 : Int32) (x9 : Int32) (w0 : Int32) (w1 : Int32) (S : sd_St) : Option (Int32 × sd_St) := sd_nm ((w0 + w1)) (fun v_2 => sd_ld S 140 x4 (fun v_3 => (if x5 < v_3 then f_X12_runs_b129 q71 x2 x3 x4 x5 x6 v_2 x9 x8 (0 : Int32) S else sd_ld S 140 x4 (fun v_5 => f_X12_runs_b129 q71 x2 x3 x4 x5 x6 v_2 x9 x8 v_5 S))))
set_option maxHeartbeats 4000000 in
set_option maxRecDepth 100000 in
theorem t_X12_runs_b101 (C : sd_C RX12 cX12_runs 10 (some .int) D cy ad A b0 p s m args meth c) {r : Int32} {S' : sd_St} {q71 : (Int32 → Int32 → Int32 → Int32 → Int32 → Int32 → Int32 → Int32 → sd_St → Option (Int32 × sd_St))} (hq71 : ∀ (x2 : Int32) (x3 : Int32) (x4 : Int32) (x5 : Int32) (x6 : Int32) (x7 : Int32) (x8 : Int32) (x9 : Int32) (S : sd_St) (H : Heap) (locs : List Loc) (ls : Array Slot), q71 x2 x3 x4 x5 x6 x7 x8 x9 S = some (r, S') → sd_H D cy ad A s S H locs → lv_has ls 10 [(0, .ref (ad 130)), (2, .int x2), (3, .int x3), (4, .int x4), (5, .int x5), (6, .int x6), (7, .int x7), (8, .int x8), (9, .int x9)] → W p l e (sd_rm 5) s m args below meth c H locs 0 0 (MQ below (sd_Qi D cy ad A r S') args s 0 0 A) (F0 m 71 ls [])) : ∀ (x2 : Int32) (x3 : Int32) (x4 : Int32) (x5 : Int32) (x6 : Int32) (x8 : Int32) (x9 : Int32) (w0 : Int32) (w1 : Int32) (S : sd_St) (H : Heap) (locs : List Loc) (ls : Array Slot), f_X12_runs_b101 q71 x2 x3 x4 x5 x6 x8 x9 w0 w1 S = some (r, S') → sd_H D cy ad A s S H locs → lv_has ls 10 [(0, .ref (ad 130)), (2, .int x2), (3, .int x3), (4, .int x4), (5, .int x5), (6, .int x6), (8, .int x8), (9, .int x9)] → W p l e (sd_rm 5) s m args below meth c H locs 0 0 (MQ below (sd_Qi D cy ad A r S') args s 0 0 A) (F0 m 101 ls [.int w1, .int w0]) := by
  obtain ⟨hx, hb, -, hml, hown, hts, -, hG⟩ := id C
  intro x2 x3 x4 x5 x6 x8 x9 w0 w1 S H locs ls h X hl
  unfold f_X12_runs_b101 at h
  refine lv_iadd hx hb dX12_runs_101 ?_
  obtain ⟨v_2, e_2, h⟩ := sd_nm_some h
  refine sd_nmi e_2 ?_
  refine lv_istore (lv' := [(7, .int v_2), (0, .ref (ad 130)), (2, .int x2), (3, .int x3), (4, .int x4), (5, .int x5), (6, .int x6), (8, .int x8), (9, .int x9)]) hx hb dX12_runs_102 hl (by decide) rfl (fun ls hl => ?_)
  refine lv_iload hx hb dX12_runs_104 (lv_at hl 7 rfl) ?_
  refine lv_aload_n hx hb dX12_runs_106 rfl (lv_at hl 1 rfl) ?_
  refine sd_g12_17 (k := 130) C X (by decide) sd_w8_12 dX12_runs_107 ?_
  refine lv_iload hx hb dX12_runs_110 (lv_at hl 4 rfl) ?_
  obtain ⟨b_3, v_3, e_3, h⟩ := sd_ld_some h
  refine sd_iald C X (by decide) b_3 dX12_runs_112 (sd_nmi e_3 ?_)
  refine lv_iload hx hb dX12_runs_113 (lv_at hl 5 rfl) ?_
  refine lv_icmp_gt (tgt := 128) hx hb dX12_runs_115 (by decide) (fun c_4 => ?_) (fun c_4 => ?_)
  · have h := sd_ifp c_4 h
    refine lv_iconst (v := (0 : Int32)) hx hb dX12_runs_128 (by decide) ?_
    exact t_X12_runs_b129 C hq71 x2 x3 x4 x5 x6 v_2 x9 x8 (0 : Int32) S _ _ _ h X (lv_sub hl [1, 2, 3, 4, 5, 6, 0, 8] rfl)
  · have h := sd_ifn c_4 h
    refine lv_aload_n hx hb dX12_runs_118 rfl (lv_at hl 1 rfl) ?_
    refine sd_g12_17 (k := 130) C X (by decide) sd_w8_12 dX12_runs_119 ?_
    refine lv_iload hx hb dX12_runs_122 (lv_at hl 4 rfl) ?_
    obtain ⟨b_5, v_5, e_5, h⟩ := sd_ld_some h
    refine sd_iald C X (by decide) b_5 dX12_runs_124 (sd_nmi e_5 ?_)
    refine lv_goto (tgt := 129) hx hb dX12_runs_125 (by decide) ?_
    exact t_X12_runs_b129 C hq71 x2 x3 x4 x5 x6 v_2 x9 x8 v_5 S _ _ _ h X (lv_sub hl [1, 2, 3, 4, 5, 6, 0, 8] rfl)
def f_X12_runs_l71 : Nat → Int32 → Int32 → Int32 → Int32 → Int32 → Int32 → Int32 → Int32 → sd_St → Option (Int32 × sd_St)
  | 0 => fun _ _ _ _ _ _ _ _ _ => none
  | n + 1 => fun x2 x3 x4 x5 x6 x7 x8 x9 S => (if x2 ≤ x9 then (if x6 = 0 then (some (x7, S)) else (some (x8, S))) else sd_cl (f_X12_drawsYears x3 S) (fun _ S_8 => sd_ld S_8 140 x4 (fun v_10 => (if x5 < v_10 then f_X12_runs_b101 (f_X12_runs_l71 n) x2 x3 x4 x5 x6 x8 x9 x7 (0 : Int32) S_8 else f_X12_runs_b101 (f_X12_runs_l71 n) x2 x3 x4 x5 x6 x8 x9 x7 (1 : Int32) S_8))))
set_option maxHeartbeats 4000000 in
set_option maxRecDepth 100000 in
theorem t_X12_runs_l71 (C : sd_C RX12 cX12_runs 10 (some .int) D cy ad A b0 p s m args meth c) {r : Int32} {S' : sd_St} : ∀ (n : Nat) (x2 : Int32) (x3 : Int32) (x4 : Int32) (x5 : Int32) (x6 : Int32) (x7 : Int32) (x8 : Int32) (x9 : Int32) (S : sd_St) (H : Heap) (locs : List Loc) (ls : Array Slot), f_X12_runs_l71 n x2 x3 x4 x5 x6 x7 x8 x9 S = some (r, S') → sd_H D cy ad A s S H locs → lv_has ls 10 [(0, .ref (ad 130)), (2, .int x2), (3, .int x3), (4, .int x4), (5, .int x5), (6, .int x6), (7, .int x7), (8, .int x8), (9, .int x9)] → W p l e (sd_rm 5) s m args below meth c H locs 0 0 (MQ below (sd_Qi D cy ad A r S') args s 0 0 A) (F0 m 71 ls []) := by
  obtain ⟨hx, hb, -, hml, hown, hts, -, hG⟩ := id C
  intro n
  induction n with
  | zero => intro x2 x3 x4 x5 x6 x7 x8 x9 S H locs ls h; cases h
  | succ n ih =>
    intro x2 x3 x4 x5 x6 x7 x8 x9 S H locs ls h X hl
    unfold f_X12_runs_l71 at h
    refine lv_iload hx hb dX12_runs_71 (lv_at hl 8 rfl) ?_
    refine lv_iload_n hx hb dX12_runs_73 rfl (lv_at hl 1 rfl) ?_
    refine lv_icmp_ge (tgt := 138) hx hb dX12_runs_74 (by decide) (fun c_6 => ?_) (fun c_6 => ?_)
    · have h := sd_ifp c_6 h
      refine lv_iload hx hb dX12_runs_138 (lv_at hl 5 rfl) ?_
      refine lv_if_ne (tgt := 148) hx hb dX12_runs_140 (by decide) (fun c_7 => ?_) (fun c_7 => ?_)
      · have h := sd_ifn c_7 h
        refine lv_iload hx hb dX12_runs_148 (lv_at hl 7 rfl) ?_
        cases h
        exact sd_iret C X dX12_runs_150
      · have h := sd_ifp c_7 h
        refine lv_iload hx hb dX12_runs_143 (lv_at hl 6 rfl) ?_
        refine lv_goto (tgt := 150) hx hb dX12_runs_145 (by decide) ?_
        cases h
        exact sd_iret C X dX12_runs_150
    · have h := sd_ifn c_6 h
      refine lv_aload_n hx hb dX12_runs_77 rfl (lv_at hl 0 rfl) ?_
      refine lv_iload_n hx hb dX12_runs_78 rfl (lv_at hl 2 rfl) ?_
      obtain ⟨r_9, S_8, er_9, h⟩ := sd_cl_some h
      refine k_X12_drawsYears C X hl.1 er_9 sd_w48_23 (by decide) (Nat.le_of_ble_eq_true rfl) dX12_runs_79 (fun H locs X => ?_)
      refine lv_iload hx hb dX12_runs_82 (lv_at hl 6 rfl) ?_
      refine lv_aload_n hx hb dX12_runs_84 rfl (lv_at hl 0 rfl) ?_
      refine sd_g12_17 (k := 130) C X (by decide) sd_w8_12 dX12_runs_85 ?_
      refine lv_iload hx hb dX12_runs_88 (lv_at hl 3 rfl) ?_
      obtain ⟨b_10, v_10, e_10, h⟩ := sd_ld_some h
      refine sd_iald C X (by decide) b_10 dX12_runs_90 (sd_nmi e_10 ?_)
      refine lv_iload hx hb dX12_runs_91 (lv_at hl 4 rfl) ?_
      refine lv_icmp_gt (tgt := 100) hx hb dX12_runs_93 (by decide) (fun c_11 => ?_) (fun c_11 => ?_)
      · have h := sd_ifp c_11 h
        refine lv_iconst (v := (0 : Int32)) hx hb dX12_runs_100 (by decide) ?_
        exact t_X12_runs_b101 C ih x2 x3 x4 x5 x6 x8 x9 x7 (0 : Int32) S_8 _ _ _ h X (lv_sub hl [0, 1, 2, 3, 4, 5, 7, 8] rfl)
      · have h := sd_ifn c_11 h
        refine lv_iconst (v := (1 : Int32)) hx hb dX12_runs_96 (by decide) ?_
        refine lv_goto (tgt := 101) hx hb dX12_runs_97 (by decide) ?_
        exact t_X12_runs_b101 C ih x2 x3 x4 x5 x6 x8 x9 x7 (1 : Int32) S_8 _ _ _ h X (lv_sub hl [0, 1, 2, 3, 4, 5, 7, 8] rfl)
def f_X12_runs (x1 : Int32) (x2 : Int32) (x3 : Int32) (x4 : Int32) (x5 : Int32) (x6 : Int32) (S : sd_St) : Option (Int32 × sd_St) := sd_nm (sd_I S 130 0 (0 : Int32)) (fun S_12 => sd_cl (f_X12_within x1 (0 : Int32) (9999 : Int32) S_12) (fun r_14 S_13 => (if r_14 = 0 then (some ((-1 : Int32), S_13)) else sd_cl (f_X12_within x2 (1 : Int32) (20 : Int32) S_13) (fun r_17 S_16 => (if r_17 = 0 then (some ((-1 : Int32), S_16)) else sd_cl (f_X12_areThere x3 x4 S_16) (fun r_20 S_19 => (if r_20 = 0 then (some ((-1 : Int32), S_19)) else sd_cl (f_X12_isDate x5 S_19) (fun r_23 S_22 => (if r_23 = 0 then (some ((-1 : Int32), S_22)) else sd_cl (f_X12_within x6 (0 : Int32) (1 : Int32) S_22) (fun r_26 S_25 => (if r_26 = 0 then (some ((-1 : Int32), S_25)) else sd_nm (sd_L S_25 130 33 (x1.toInt64)) (fun S_28 => f_X12_runs_l71 sd_FU x2 x3 x4 x5 x6 (0 : Int32) (0 : Int32) (0 : Int32) S_28))))))))))))
set_option maxHeartbeats 4000000 in
set_option maxRecDepth 100000 in
theorem c_X12_runs {x1 : Int32} {x2 : Int32} {x3 : Int32} {x4 : Int32} {x5 : Int32} {x6 : Int32} {S S' : sd_St} {r : Int32} (h : f_X12_runs x1 x2 x3 x4 x5 x6 S = some (r, S')) : Met l yX12_runs (Cond.code yX12_runs cX12_runs 10 (some .int) :: sd_wl) (sd_rm 5) (sd_P D cy ad A b0 [.ref (ad 130), .int x1, .int x2, .int x3, .int x4, .int x5, .int x6] S) (sd_Qi D cy ad A r S') 0 0 A := by
  refine sd_met (by decide) (Nat.le_of_ble_eq_true rfl) (fun p e s m args below meth c ls C X hl => ?_)
  obtain ⟨hx, hb, -, hml, hown, hts, -, hG⟩ := id C
  replace C : sd_C RX12 cX12_runs 10 (some .int) D cy ad A b0 p s m args meth c := C
  replace hl : lv_has ls 10 [(0, .ref (ad 130)), (1, .int x1), (2, .int x2), (3, .int x3), (4, .int x4), (5, .int x5), (6, .int x6)] := hl
  unfold f_X12_runs at h
  refine lv_aload_n hx hb dX12_runs_0 rfl (lv_at hl 0 rfl) ?_
  refine lv_iconst (v := (0 : Int32)) hx hb dX12_runs_1 (by decide) ?_
  obtain ⟨S_12, eS_12, h⟩ := sd_nm_some h
  refine sd_p12_0 C X (by decide) sd_w9_3 dX12_runs_2 (fun H locs X => ?_)
  rw [← eS_12] at X
  refine lv_iload_n hx hb dX12_runs_5 rfl (lv_at hl 1 rfl) ?_
  refine lv_iconst (v := (0 : Int32)) hx hb dX12_runs_6 (by decide) ?_
  refine lv_sipush (v := (9999 : Int32)) hx hb dX12_runs_7 (by decide) ?_
  obtain ⟨r_14, S_13, er_14, h⟩ := sd_cl_some h
  refine k_X12_within C X hl.1 er_14 sd_w24_22 (by decide) (Nat.le_of_ble_eq_true rfl) dX12_runs_10 (fun H locs X => ?_)
  refine lv_if_eq (tgt := 54) hx hb dX12_runs_13 (by decide) (fun c_15 => ?_) (fun c_15 => ?_)
  · have h := sd_ifp c_15 h
    refine lv_iconst (v := (-1 : Int32)) hx hb dX12_runs_54 (by decide) ?_
    cases h
    exact sd_iret C X dX12_runs_55
  · have h := sd_ifn c_15 h
    refine lv_iload_n hx hb dX12_runs_16 rfl (lv_at hl 2 rfl) ?_
    refine lv_iconst (v := (1 : Int32)) hx hb dX12_runs_17 (by decide) ?_
    refine lv_bipush (v := (20 : Int32)) hx hb dX12_runs_18 (by decide) ?_
    obtain ⟨r_17, S_16, er_17, h⟩ := sd_cl_some h
    refine k_X12_within C X hl.1 er_17 sd_w24_22 (by decide) (Nat.le_of_ble_eq_true rfl) dX12_runs_20 (fun H locs X => ?_)
    refine lv_if_eq (tgt := 54) hx hb dX12_runs_23 (by decide) (fun c_18 => ?_) (fun c_18 => ?_)
    · have h := sd_ifp c_18 h
      refine lv_iconst (v := (-1 : Int32)) hx hb dX12_runs_54 (by decide) ?_
      cases h
      exact sd_iret C X dX12_runs_55
    · have h := sd_ifn c_18 h
      refine lv_aload_n hx hb dX12_runs_26 rfl (lv_at hl 0 rfl) ?_
      refine lv_iload_n hx hb dX12_runs_27 rfl (lv_at hl 3 rfl) ?_
      refine lv_iload hx hb dX12_runs_28 (lv_at hl 4 rfl) ?_
      obtain ⟨r_20, S_19, er_20, h⟩ := sd_cl_some h
      refine k_X12_areThere C X hl.1 er_20 sd_w31_11 (by decide) (Nat.le_of_ble_eq_true rfl) dX12_runs_30 (fun H locs X => ?_)
      refine lv_if_eq (tgt := 54) hx hb dX12_runs_33 (by decide) (fun c_21 => ?_) (fun c_21 => ?_)
      · have h := sd_ifp c_21 h
        refine lv_iconst (v := (-1 : Int32)) hx hb dX12_runs_54 (by decide) ?_
        cases h
        exact sd_iret C X dX12_runs_55
      · have h := sd_ifn c_21 h
        refine lv_iload hx hb dX12_runs_36 (lv_at hl 5 rfl) ?_
        obtain ⟨r_23, S_22, er_23, h⟩ := sd_cl_some h
        refine k_X12_isDate C X hl.1 er_23 sd_w26_1 (by decide) (Nat.le_of_ble_eq_true rfl) dX12_runs_38 (fun H locs X => ?_)
        refine lv_if_eq (tgt := 54) hx hb dX12_runs_41 (by decide) (fun c_24 => ?_) (fun c_24 => ?_)
        · have h := sd_ifp c_24 h
          refine lv_iconst (v := (-1 : Int32)) hx hb dX12_runs_54 (by decide) ?_
          cases h
          exact sd_iret C X dX12_runs_55
        · have h := sd_ifn c_24 h
          refine lv_iload hx hb dX12_runs_44 (lv_at hl 6 rfl) ?_
          refine lv_iconst (v := (0 : Int32)) hx hb dX12_runs_46 (by decide) ?_
          refine lv_iconst (v := (1 : Int32)) hx hb dX12_runs_47 (by decide) ?_
          obtain ⟨r_26, S_25, er_26, h⟩ := sd_cl_some h
          refine k_X12_within C X hl.1 er_26 sd_w24_22 (by decide) (Nat.le_of_ble_eq_true rfl) dX12_runs_48 (fun H locs X => ?_)
          refine lv_if_ne (tgt := 56) hx hb dX12_runs_51 (by decide) (fun c_27 => ?_) (fun c_27 => ?_)
          · have h := sd_ifn c_27 h
            refine lv_aload_n hx hb dX12_runs_56 rfl (lv_at hl 0 rfl) ?_
            refine lv_iload_n hx hb dX12_runs_57 rfl (lv_at hl 1 rfl) ?_
            refine lv_i2l (v := x1.toInt64) hx hb dX12_runs_58 rfl ?_
            obtain ⟨S_28, eS_28, h⟩ := sd_nm_some h
            refine sd_p12_33 C X (by decide) sd_w48_22 dX12_runs_59 (fun H locs X => ?_)
            rw [← eS_28] at X
            refine lv_iconst (v := (0 : Int32)) hx hb dX12_runs_62 (by decide) ?_
            refine lv_istore (lv' := [(7, .int (0 : Int32)), (0, .ref (ad 130)), (1, .int x1), (2, .int x2), (3, .int x3), (4, .int x4), (5, .int x5), (6, .int x6)]) hx hb dX12_runs_63 hl (by decide) rfl (fun ls hl => ?_)
            refine lv_iconst (v := (0 : Int32)) hx hb dX12_runs_65 (by decide) ?_
            refine lv_istore (lv' := [(8, .int (0 : Int32)), (7, .int (0 : Int32)), (0, .ref (ad 130)), (1, .int x1), (2, .int x2), (3, .int x3), (4, .int x4), (5, .int x5), (6, .int x6)]) hx hb dX12_runs_66 hl (by decide) rfl (fun ls hl => ?_)
            refine lv_iconst (v := (0 : Int32)) hx hb dX12_runs_68 (by decide) ?_
            refine lv_istore (lv' := [(9, .int (0 : Int32)), (8, .int (0 : Int32)), (7, .int (0 : Int32)), (0, .ref (ad 130)), (1, .int x1), (2, .int x2), (3, .int x3), (4, .int x4), (5, .int x5), (6, .int x6)]) hx hb dX12_runs_69 hl (by decide) rfl (fun ls hl => ?_)
            exact t_X12_runs_l71 C sd_FU x2 x3 x4 x5 x6 (0 : Int32) (0 : Int32) (0 : Int32) S_28 _ _ _ h X (lv_sub hl [3, 5, 6, 7, 8, 9, 2, 1, 0] rfl)
          · have h := sd_ifp c_27 h
            refine lv_iconst (v := (-1 : Int32)) hx hb dX12_runs_54 (by decide) ?_
            cases h
            exact sd_iret C X dX12_runs_55
theorem k_X12_runs (C : sd_C own cc nL rt D cy ad A b0 p s m args meth c) (X : sd_H D cy ad A s S H locs) (hls : ls.size = nL) {x1 : Int32} {x2 : Int32} {x3 : Int32} {x4 : Int32} {x5 : Int32} {x6 : Int32} {S2 : sd_St} {r : Int32} (h : f_X12_runs x1 x2 x3 x4 x5 x6 S = some (r, S2)) (hlink : Cond.methodLink own index yX12_runs ∈ sd_wl) (hR : 6 ≤ R.frames ∧ 229 ≤ R.locals ∧ cells ≤ R.cells ∧ slots ≤ R.slots) (hst : (rest.map fun v => v.category).sum ≤ 8) (hdg : decode cc pc = .ok (.invokevirtual index, 3)) (kk : ∀ (H1 : Heap) (locs1 : List Loc), sd_H D cy ad A s S2 H1 locs1 → W p l e R s m args below meth c H1 locs1 cells slots Q (F0 m (pc + 3) ls (.int r :: rest))) : W p l e R s m args below meth c H locs cells slots Q (F0 m pc ls (.int x6 :: .int x5 :: .int x4 :: .int x3 :: .int x2 :: .int x1 :: .ref (ad 130) :: rest)) :=
  sd_goI X (sd_runV C X hls (n := 6) (k := 130) (As := [.int x1, .int x2, .int x3, .int x4, .int x5, .int x6]) (c_X12_runs (l := l) (b0 := b0) h) (sd_goodV hlink sd_w48_19 sd_w48_20 sd_w1_5 sd_w48_21) (ci := 12) rfl (by rw [(show sd_kd 130 = 12 by decide)]; decide) (sd_c12 (show sd_kd 130 = 12 by decide)) (by decide +kernel) rfl hR rfl hst hdg) kk
/-! ===== SecretDaysModel.mark(IZ)Z ===== -/
def f_X12_mark_b59 (w1 : Int32) (w2 : Int32) (S : sd_St) : Option (Int32 × sd_St) := sd_cl (f_X12_carry w1 w2 S) (fun _ S_1 => (some ((1 : Int32), S_1)))
set_option maxHeartbeats 4000000 in
set_option maxRecDepth 100000 in
theorem t_X12_mark_b59 (C : sd_C RX12 cX12_mark 3 (some .boolean) D cy ad A b0 p s m args meth c) {r : Int32} {S' : sd_St} : ∀ (w1 : Int32) (w2 : Int32) (S : sd_St) (H : Heap) (locs : List Loc) (ls : Array Slot), f_X12_mark_b59 w1 w2 S = some (r, S') → sd_H D cy ad A s S H locs → lv_has ls 3 [] → W p l e (sd_rm 1) s m args below meth c H locs 0 0 (MQ below (sd_Qi D cy ad A r S') args s 0 0 A) (F0 m 59 ls [.int w2, .int w1, .ref (ad 130)]) := by
  obtain ⟨hx, hb, -, hml, hown, hts, -, hG⟩ := id C
  intro w1 w2 S H locs ls h X hl
  unfold f_X12_mark_b59 at h
  obtain ⟨r_2, S_1, er_2, h⟩ := sd_cl_some h
  refine k_X12_carry C X hl.1 er_2 sd_w23_7 (by decide) (Nat.le_of_ble_eq_true rfl) dX12_mark_59 (fun H locs X => ?_)
  refine lv_iconst (v := (1 : Int32)) hx hb dX12_mark_62 (by decide) ?_
  cases h
  exact sd_zret C X (by decide) dX12_mark_63
def f_X12_mark_b48 (x1 : Int32) (x2 : Int32) (w1 : Int32) (S : sd_St) : Option (Int32 × sd_St) := (if x2 = 0 then f_X12_mark_b59 w1 ((2 : Int32) + x1) S else f_X12_mark_b59 w1 (0 : Int32) S)
set_option maxHeartbeats 4000000 in
set_option maxRecDepth 100000 in
theorem t_X12_mark_b48 (C : sd_C RX12 cX12_mark 3 (some .boolean) D cy ad A b0 p s m args meth c) {r : Int32} {S' : sd_St} : ∀ (x1 : Int32) (x2 : Int32) (w1 : Int32) (S : sd_St) (H : Heap) (locs : List Loc) (ls : Array Slot), f_X12_mark_b48 x1 x2 w1 S = some (r, S') → sd_H D cy ad A s S H locs → lv_has ls 3 [(1, .int x1), (2, .int x2)] → W p l e (sd_rm 1) s m args below meth c H locs 0 0 (MQ below (sd_Qi D cy ad A r S') args s 0 0 A) (F0 m 48 ls [.int w1, .ref (ad 130)]) := by
  obtain ⟨hx, hb, -, hml, hown, hts, -, hG⟩ := id C
  intro x1 x2 w1 S H locs ls h X hl
  unfold f_X12_mark_b48 at h
  refine lv_iload_n hx hb dX12_mark_48 rfl (lv_at hl 1 rfl) ?_
  refine lv_if_eq (tgt := 56) hx hb dX12_mark_49 (by decide) (fun c_3 => ?_) (fun c_3 => ?_)
  · have h := sd_ifp c_3 h
    refine lv_iconst (v := (2 : Int32)) hx hb dX12_mark_56 (by decide) ?_
    refine lv_iload_n hx hb dX12_mark_57 rfl (lv_at hl 0 rfl) ?_
    refine lv_iadd hx hb dX12_mark_58 ?_
    exact t_X12_mark_b59 C w1 ((2 : Int32) + x1) S _ _ _ h X (lv_sub hl [] rfl)
  · have h := sd_ifn c_3 h
    refine lv_iconst (v := (0 : Int32)) hx hb dX12_mark_52 (by decide) ?_
    refine lv_goto (tgt := 59) hx hb dX12_mark_53 (by decide) ?_
    exact t_X12_mark_b59 C w1 (0 : Int32) S _ _ _ h X (lv_sub hl [] rfl)
def f_X12_mark_b29 (x1 : Int32) (x2 : Int32) (S : sd_St) : Option (Int32 × sd_St) := sd_st S 154 x1 (vp_nar .boolean (1 : Int32)) (fun S_4 => (if x2 = 0 then f_X12_mark_b48 x1 x2 (0 : Int32) S_4 else f_X12_mark_b48 x1 x2 ((2 : Int32) + x1) S_4))
set_option maxHeartbeats 4000000 in
set_option maxRecDepth 100000 in
theorem t_X12_mark_b29 (C : sd_C RX12 cX12_mark 3 (some .boolean) D cy ad A b0 p s m args meth c) {r : Int32} {S' : sd_St} : ∀ (x1 : Int32) (x2 : Int32) (S : sd_St) (H : Heap) (locs : List Loc) (ls : Array Slot), f_X12_mark_b29 x1 x2 S = some (r, S') → sd_H D cy ad A s S H locs → lv_has ls 3 [(0, .ref (ad 130)), (1, .int x1), (2, .int x2)] → W p l e (sd_rm 1) s m args below meth c H locs 0 0 (MQ below (sd_Qi D cy ad A r S') args s 0 0 A) (F0 m 29 ls []) := by
  obtain ⟨hx, hb, -, hml, hown, hts, -, hG⟩ := id C
  intro x1 x2 S H locs ls h X hl
  unfold f_X12_mark_b29 at h
  refine lv_aload_n hx hb dX12_mark_29 rfl (lv_at hl 0 rfl) ?_
  refine sd_g12_34 (k := 130) C X (by decide) sd_w9_2 dX12_mark_30 ?_
  refine lv_iload_n hx hb dX12_mark_33 rfl (lv_at hl 1 rfl) ?_
  refine lv_iconst (v := (1 : Int32)) hx hb dX12_mark_34 (by decide) ?_
  obtain ⟨bS_4, S_4, eS_4, h⟩ := sd_st_some h
  refine sd_zast C X (by decide) bS_4 dX12_mark_35 (fun H locs X => ?_)
  rw [← eS_4] at X
  refine lv_aload_n hx hb dX12_mark_36 rfl (lv_at hl 0 rfl) ?_
  refine lv_iload_n hx hb dX12_mark_37 rfl (lv_at hl 2 rfl) ?_
  refine lv_if_eq (tgt := 47) hx hb dX12_mark_38 (by decide) (fun c_5 => ?_) (fun c_5 => ?_)
  · have h := sd_ifp c_5 h
    refine lv_iconst (v := (0 : Int32)) hx hb dX12_mark_47 (by decide) ?_
    exact t_X12_mark_b48 C x1 x2 (0 : Int32) S_4 _ _ _ h X (lv_sub hl [1, 2] rfl)
  · have h := sd_ifn c_5 h
    refine lv_iconst (v := (2 : Int32)) hx hb dX12_mark_41 (by decide) ?_
    refine lv_iload_n hx hb dX12_mark_42 rfl (lv_at hl 1 rfl) ?_
    refine lv_iadd hx hb dX12_mark_43 ?_
    refine lv_goto (tgt := 48) hx hb dX12_mark_44 (by decide) ?_
    exact t_X12_mark_b48 C x1 x2 ((2 : Int32) + x1) S_4 _ _ _ h X (lv_sub hl [1, 2] rfl)
def f_X12_mark (x1 : Int32) (x2 : Int32) (S : sd_St) : Option (Int32 × sd_St) := sd_nm (sd_I S 130 0 (0 : Int32)) (fun S_6 => sd_cl (f_X12_within x1 (0 : Int32) (3 : Int32) S_6) (fun r_8 S_7 => (if r_8 = 0 then (some ((0 : Int32), S_7)) else (if x2 = 0 then f_X12_mark_b29 x1 x2 S_7 else sd_ld S_7 154 x1 (fun v_11 => (if v_11 = 0 then (some ((0 : Int32), S_7)) else f_X12_mark_b29 x1 x2 S_7))))))
set_option maxHeartbeats 4000000 in
set_option maxRecDepth 100000 in
theorem c_X12_mark {x1 : Int32} {x2 : Int32} {S S' : sd_St} {r : Int32} (h : f_X12_mark x1 x2 S = some (r, S')) : Met l yX12_mark (Cond.code yX12_mark cX12_mark 3 (some .boolean) :: sd_wl) (sd_rm 1) (sd_P D cy ad A b0 [.ref (ad 130), .int x1, .int x2] S) (sd_Qi D cy ad A r S') 0 0 A := by
  refine sd_met (by decide) (Nat.le_of_ble_eq_true rfl) (fun p e s m args below meth c ls C X hl => ?_)
  obtain ⟨hx, hb, -, hml, hown, hts, -, hG⟩ := id C
  replace C : sd_C RX12 cX12_mark 3 (some .boolean) D cy ad A b0 p s m args meth c := C
  replace hl : lv_has ls 3 [(0, .ref (ad 130)), (1, .int x1), (2, .int x2)] := hl
  unfold f_X12_mark at h
  refine lv_aload_n hx hb dX12_mark_0 rfl (lv_at hl 0 rfl) ?_
  refine lv_iconst (v := (0 : Int32)) hx hb dX12_mark_1 (by decide) ?_
  obtain ⟨S_6, eS_6, h⟩ := sd_nm_some h
  refine sd_p12_0 C X (by decide) sd_w9_3 dX12_mark_2 (fun H locs X => ?_)
  rw [← eS_6] at X
  refine lv_iload_n hx hb dX12_mark_5 rfl (lv_at hl 1 rfl) ?_
  refine lv_iconst (v := (0 : Int32)) hx hb dX12_mark_6 (by decide) ?_
  refine lv_iconst (v := (3 : Int32)) hx hb dX12_mark_7 (by decide) ?_
  obtain ⟨r_8, S_7, er_8, h⟩ := sd_cl_some h
  refine k_X12_within C X hl.1 er_8 sd_w24_22 (by decide) (Nat.le_of_ble_eq_true rfl) dX12_mark_8 (fun H locs X => ?_)
  refine lv_if_eq (tgt := 27) hx hb dX12_mark_11 (by decide) (fun c_9 => ?_) (fun c_9 => ?_)
  · have h := sd_ifp c_9 h
    refine lv_iconst (v := (0 : Int32)) hx hb dX12_mark_27 (by decide) ?_
    cases h
    exact sd_zret C X (by decide) dX12_mark_28
  · have h := sd_ifn c_9 h
    refine lv_iload_n hx hb dX12_mark_14 rfl (lv_at hl 2 rfl) ?_
    refine lv_if_eq (tgt := 29) hx hb dX12_mark_15 (by decide) (fun c_10 => ?_) (fun c_10 => ?_)
    · have h := sd_ifp c_10 h
      exact t_X12_mark_b29 C x1 x2 S_7 _ _ _ h X (lv_sub hl [0, 1, 2] rfl)
    · have h := sd_ifn c_10 h
      refine lv_aload_n hx hb dX12_mark_18 rfl (lv_at hl 0 rfl) ?_
      refine sd_g12_34 (k := 130) C X (by decide) sd_w9_2 dX12_mark_19 ?_
      refine lv_iload_n hx hb dX12_mark_22 rfl (lv_at hl 1 rfl) ?_
      obtain ⟨b_11, v_11, e_11, h⟩ := sd_ld_some h
      refine sd_zald C X (by decide) b_11 dX12_mark_23 (sd_nmi e_11 ?_)
      refine lv_if_ne (tgt := 29) hx hb dX12_mark_24 (by decide) (fun c_12 => ?_) (fun c_12 => ?_)
      · have h := sd_ifn c_12 h
        exact t_X12_mark_b29 C x1 x2 S_7 _ _ _ h X (lv_sub hl [0, 1, 2] rfl)
      · have h := sd_ifp c_12 h
        refine lv_iconst (v := (0 : Int32)) hx hb dX12_mark_27 (by decide) ?_
        cases h
        exact sd_zret C X (by decide) dX12_mark_28
theorem k_X12_mark (C : sd_C own cc nL rt D cy ad A b0 p s m args meth c) (X : sd_H D cy ad A s S H locs) (hls : ls.size = nL) {x1 : Int32} {x2 : Int32} {S2 : sd_St} {r : Int32} (h : f_X12_mark x1 x2 S = some (r, S2)) (hlink : Cond.methodLink own index yX12_mark ∈ sd_wl) (hR : 2 ≤ R.frames ∧ 62 ≤ R.locals ∧ cells ≤ R.cells ∧ slots ≤ R.slots) (hst : (rest.map fun v => v.category).sum ≤ 8) (hdg : decode cc pc = .ok (.invokevirtual index, 3)) (kk : ∀ (H1 : Heap) (locs1 : List Loc), sd_H D cy ad A s S2 H1 locs1 → W p l e R s m args below meth c H1 locs1 cells slots Q (F0 m (pc + 3) ls (.int r :: rest))) : W p l e R s m args below meth c H locs cells slots Q (F0 m pc ls (.int x2 :: .int x1 :: .ref (ad 130) :: rest)) :=
  sd_goI X (sd_runV C X hls (n := 2) (k := 130) (As := [.int x1, .int x2]) (c_X12_mark (l := l) (b0 := b0) h) (sd_goodV hlink sd_w50_6 sd_w50_7 sd_w1_5 sd_w50_8) (ci := 12) rfl (by rw [(show sd_kd 130 = 12 by decide)]; decide) (sd_c12 (show sd_kd 130 = 12 by decide)) (by decide +kernel) rfl hR rfl hst hdg) kk
/-! ===== SecretDaysModel.count(I)I ===== -/
def f_X12_count_l68 : Nat → Int32 → Int32 → sd_St → Option (Int32 × sd_St)
  | 0 => fun _ _ _ => none
  | n + 1 => fun x2 x3 S => sd_cl (f_X12_people S) (fun r_2 S_1 => (if r_2 ≤ x3 then (some (x2, S_1)) else sd_cl (f_X12_callers x3 S_1) (fun r_5 S_4 => sd_cl (f_X12_bits r_5 S_4) (fun r_7 S_6 => sd_nm ((x2 + r_7)) (fun v_8 => (f_X12_count_l68 n) v_8 (x3 + (1 : Int32)) S_6)))))
set_option maxHeartbeats 4000000 in
set_option maxRecDepth 100000 in
theorem t_X12_count_l68 (C : sd_C RX12 cX12_count 4 (some .int) D cy ad A b0 p s m args meth c) {r : Int32} {S' : sd_St} : ∀ (n : Nat) (x2 : Int32) (x3 : Int32) (S : sd_St) (H : Heap) (locs : List Loc) (ls : Array Slot), f_X12_count_l68 n x2 x3 S = some (r, S') → sd_H D cy ad A s S H locs → lv_has ls 4 [(0, .ref (ad 130)), (2, .int x2), (3, .int x3)] → W p l e (sd_rm 1) s m args below meth c H locs 0 0 (MQ below (sd_Qi D cy ad A r S') args s 0 0 A) (F0 m 68 ls []) := by
  obtain ⟨hx, hb, -, hml, hown, hts, -, hG⟩ := id C
  intro n
  induction n with
  | zero => intro x2 x3 S H locs ls h; cases h
  | succ n ih =>
    intro x2 x3 S H locs ls h X hl
    unfold f_X12_count_l68 at h
    refine lv_iload_n hx hb dX12_count_68 rfl (lv_at hl 2 rfl) ?_
    refine lv_aload_n hx hb dX12_count_69 rfl (lv_at hl 0 rfl) ?_
    obtain ⟨r_2, S_1, er_2, h⟩ := sd_cl_some h
    refine k_X12_people C X hl.1 er_2 sd_w24_18 (by decide) (Nat.le_of_ble_eq_true rfl) dX12_count_70 (fun H locs X => ?_)
    refine lv_icmp_ge (tgt := 93) hx hb dX12_count_73 (by decide) (fun c_3 => ?_) (fun c_3 => ?_)
    · have h := sd_ifp c_3 h
      refine lv_iload_n hx hb dX12_count_93 rfl (lv_at hl 1 rfl) ?_
      cases h
      exact sd_iret C X dX12_count_94
    · have h := sd_ifn c_3 h
      refine lv_iload_n hx hb dX12_count_76 rfl (lv_at hl 1 rfl) ?_
      refine lv_aload_n hx hb dX12_count_77 rfl (lv_at hl 0 rfl) ?_
      refine lv_iload_n hx hb dX12_count_78 rfl (lv_at hl 2 rfl) ?_
      obtain ⟨r_5, S_4, er_5, h⟩ := sd_cl_some h
      refine k_X12_callers C X hl.1 er_5 sd_w25_5 (by decide) (Nat.le_of_ble_eq_true rfl) dX12_count_79 (fun H locs X => ?_)
      obtain ⟨r_7, S_6, er_7, h⟩ := sd_cl_some h
      refine k_X12_bits C X hl.1 er_7 sd_w22_3 (by decide) (Nat.le_of_ble_eq_true rfl) dX12_count_82 (fun H locs X => ?_)
      refine lv_iadd hx hb dX12_count_85 ?_
      obtain ⟨v_8, e_8, h⟩ := sd_nm_some h
      refine sd_nmi e_8 ?_
      refine lv_istore_n (lv' := [(2, .int v_8), (0, .ref (ad 130)), (3, .int x3)]) hx hb dX12_count_86 rfl hl (by decide) rfl (fun ls hl => ?_)
      refine lv_iinc (v := (x3 + (1 : Int32))) (lv' := [(3, .int (x3 + (1 : Int32))), (2, .int v_8), (0, .ref (ad 130))]) hx hb dX12_count_87 hl (k := 2) rfl rfl (by decide) rfl (fun ls hl => ?_)
      refine lv_goto (tgt := 68) hx hb dX12_count_90 (by decide) ?_
      exact ih v_8 (x3 + (1 : Int32)) S_6 _ _ _ h X (lv_sub hl [2, 1, 0] rfl)
def f_X12_count (x1 : Int32) (S : sd_St) : Option (Int32 × sd_St) := sd_nm (sd_I S 130 0 (0 : Int32)) (fun S_9 => (if x1 = (0 : Int32) then sd_cl (f_X12_people S_9) (fun r_12 S_11 => (some (r_12, S_11))) else (if x1 = (1 : Int32) then sd_cl (f_X12_secrets S_9) (fun r_15 S_14 => (some (r_15, S_14))) else (if x1 = (2 : Int32) then f_X12_count_l68 sd_FU (0 : Int32) (0 : Int32) S_9 else (if x1 = (3 : Int32) then sd_ld S_9 136 (51 : Int32) (fun v_18 => (some (v_18, S_9))) else (if x1 = (4 : Int32) then sd_ld S_9 136 (0 : Int32) (fun v_20 => (some (v_20, S_9))) else (if x1 = (5 : Int32) then sd_ld S_9 136 (1 : Int32) (fun v_22 => (some (v_22, S_9))) else (if x1 = (6 : Int32) then sd_cl (f_X12_reports S_9) (fun r_25 S_24 => (some (r_25, S_24))) else (if x1 = (7 : Int32) then (some ((S_9.1 130 2), S_9)) else (some ((-1 : Int32), S_9)))))))))))
set_option maxHeartbeats 4000000 in
set_option maxRecDepth 100000 in
theorem c_X12_count {x1 : Int32} {S S' : sd_St} {r : Int32} (h : f_X12_count x1 S = some (r, S')) : Met l yX12_count (Cond.code yX12_count cX12_count 4 (some .int) :: sd_wl) (sd_rm 1) (sd_P D cy ad A b0 [.ref (ad 130), .int x1] S) (sd_Qi D cy ad A r S') 0 0 A := by
  refine sd_met (by decide) (Nat.le_of_ble_eq_true rfl) (fun p e s m args below meth c ls C X hl => ?_)
  obtain ⟨hx, hb, -, hml, hown, hts, -, hG⟩ := id C
  replace C : sd_C RX12 cX12_count 4 (some .int) D cy ad A b0 p s m args meth c := C
  replace hl : lv_has ls 4 [(0, .ref (ad 130)), (1, .int x1)] := hl
  unfold f_X12_count at h
  refine lv_aload_n hx hb dX12_count_0 rfl (lv_at hl 0 rfl) ?_
  refine lv_iconst (v := (0 : Int32)) hx hb dX12_count_1 (by decide) ?_
  obtain ⟨S_9, eS_9, h⟩ := sd_nm_some h
  refine sd_p12_0 C X (by decide) sd_w9_3 dX12_count_2 (fun H locs X => ?_)
  rw [← eS_9] at X
  refine lv_iconst (v := (0 : Int32)) hx hb dX12_count_5 (by decide) ?_
  refine lv_istore_n (lv' := [(2, .int (0 : Int32)), (0, .ref (ad 130)), (1, .int x1)]) hx hb dX12_count_6 rfl hl (by decide) rfl (fun ls hl => ?_)
  refine lv_iload_n hx hb dX12_count_7 rfl (lv_at hl 2 rfl) ?_
  by_cases c_10 : x1 = (0 : Int32)
  · have h := sd_ifp c_10 h
    refine lv_tableIn (tgt := 56) hx hb dX12_count_8 (by rw [c_10]; decide) (by rw [c_10]; decide) (by rw [c_10]; rfl) (by decide) ?_
    refine lv_aload_n hx hb dX12_count_56 rfl (lv_at hl 1 rfl) ?_
    obtain ⟨r_12, S_11, er_12, h⟩ := sd_cl_some h
    refine k_X12_people C X hl.1 er_12 sd_w24_18 (by decide) (Nat.le_of_ble_eq_true rfl) dX12_count_57 (fun H locs X => ?_)
    cases h
    exact sd_iret C X dX12_count_60
  have h := sd_ifn c_10 h
  by_cases c_13 : x1 = (1 : Int32)
  · have h := sd_ifp c_13 h
    refine lv_tableIn (tgt := 61) hx hb dX12_count_8 (by rw [c_13]; decide) (by rw [c_13]; decide) (by rw [c_13]; rfl) (by decide) ?_
    refine lv_aload_n hx hb dX12_count_61 rfl (lv_at hl 1 rfl) ?_
    obtain ⟨r_15, S_14, er_15, h⟩ := sd_cl_some h
    refine k_X12_secrets C X hl.1 er_15 sd_w31_19 (by decide) (Nat.le_of_ble_eq_true rfl) dX12_count_62 (fun H locs X => ?_)
    cases h
    exact sd_iret C X dX12_count_65
  have h := sd_ifn c_13 h
  by_cases c_16 : x1 = (2 : Int32)
  · have h := sd_ifp c_16 h
    refine lv_tableIn (tgt := 66) hx hb dX12_count_8 (by rw [c_16]; decide) (by rw [c_16]; decide) (by rw [c_16]; rfl) (by decide) ?_
    refine lv_iconst (v := (0 : Int32)) hx hb dX12_count_66 (by decide) ?_
    refine lv_istore_n (lv' := [(3, .int (0 : Int32)), (2, .int (0 : Int32)), (0, .ref (ad 130)), (1, .int x1)]) hx hb dX12_count_67 rfl hl (by decide) rfl (fun ls hl => ?_)
    exact t_X12_count_l68 C sd_FU (0 : Int32) (0 : Int32) S_9 _ _ _ h X (lv_sub hl [2, 1, 0] rfl)
  have h := sd_ifn c_16 h
  by_cases c_17 : x1 = (3 : Int32)
  · have h := sd_ifp c_17 h
    refine lv_tableIn (tgt := 95) hx hb dX12_count_8 (by rw [c_17]; decide) (by rw [c_17]; decide) (by rw [c_17]; rfl) (by decide) ?_
    refine lv_aload_n hx hb dX12_count_95 rfl (lv_at hl 1 rfl) ?_
    refine sd_g12_10 (k := 130) C X (by decide) sd_w8_8 dX12_count_96 ?_
    refine lv_bipush (v := (51 : Int32)) hx hb dX12_count_99 (by decide) ?_
    obtain ⟨b_18, v_18, e_18, h⟩ := sd_ld_some h
    refine sd_iald C X (by decide) b_18 dX12_count_101 (sd_nmi e_18 ?_)
    cases h
    exact sd_iret C X dX12_count_102
  have h := sd_ifn c_17 h
  by_cases c_19 : x1 = (4 : Int32)
  · have h := sd_ifp c_19 h
    refine lv_tableIn (tgt := 103) hx hb dX12_count_8 (by rw [c_19]; decide) (by rw [c_19]; decide) (by rw [c_19]; rfl) (by decide) ?_
    refine lv_aload_n hx hb dX12_count_103 rfl (lv_at hl 1 rfl) ?_
    refine sd_g12_10 (k := 130) C X (by decide) sd_w8_8 dX12_count_104 ?_
    refine lv_iconst (v := (0 : Int32)) hx hb dX12_count_107 (by decide) ?_
    obtain ⟨b_20, v_20, e_20, h⟩ := sd_ld_some h
    refine sd_iald C X (by decide) b_20 dX12_count_108 (sd_nmi e_20 ?_)
    cases h
    exact sd_iret C X dX12_count_109
  have h := sd_ifn c_19 h
  by_cases c_21 : x1 = (5 : Int32)
  · have h := sd_ifp c_21 h
    refine lv_tableIn (tgt := 110) hx hb dX12_count_8 (by rw [c_21]; decide) (by rw [c_21]; decide) (by rw [c_21]; rfl) (by decide) ?_
    refine lv_aload_n hx hb dX12_count_110 rfl (lv_at hl 1 rfl) ?_
    refine sd_g12_10 (k := 130) C X (by decide) sd_w8_8 dX12_count_111 ?_
    refine lv_iconst (v := (1 : Int32)) hx hb dX12_count_114 (by decide) ?_
    obtain ⟨b_22, v_22, e_22, h⟩ := sd_ld_some h
    refine sd_iald C X (by decide) b_22 dX12_count_115 (sd_nmi e_22 ?_)
    cases h
    exact sd_iret C X dX12_count_116
  have h := sd_ifn c_21 h
  by_cases c_23 : x1 = (6 : Int32)
  · have h := sd_ifp c_23 h
    refine lv_tableIn (tgt := 117) hx hb dX12_count_8 (by rw [c_23]; decide) (by rw [c_23]; decide) (by rw [c_23]; rfl) (by decide) ?_
    refine lv_aload_n hx hb dX12_count_117 rfl (lv_at hl 1 rfl) ?_
    obtain ⟨r_25, S_24, er_25, h⟩ := sd_cl_some h
    refine k_X12_reports C X hl.1 er_25 sd_w44_3 (by decide) (Nat.le_of_ble_eq_true rfl) dX12_count_118 (fun H locs X => ?_)
    cases h
    exact sd_iret C X dX12_count_121
  have h := sd_ifn c_23 h
  by_cases c_26 : x1 = (7 : Int32)
  · have h := sd_ifp c_26 h
    refine lv_tableIn (tgt := 122) hx hb dX12_count_8 (by rw [c_26]; decide) (by rw [c_26]; decide) (by rw [c_26]; rfl) (by decide) ?_
    refine lv_aload_n hx hb dX12_count_122 rfl (lv_at hl 1 rfl) ?_
    refine sd_g12_2 C X (by decide) sd_w9_23 dX12_count_123 ?_
    cases h
    exact sd_iret C X dX12_count_126
  have h := sd_ifn c_26 h
  refine lv_tableOut (tgt := 127) hx hb dX12_count_8 (sd_swo8 c_10 c_13 c_16 c_17 c_19 c_21 c_23 c_26) (by decide) ?_
  refine lv_iconst (v := (-1 : Int32)) hx hb dX12_count_127 (by decide) ?_
  cases h
  exact sd_iret C X dX12_count_128
theorem k_X12_count (C : sd_C own cc nL rt D cy ad A b0 p s m args meth c) (X : sd_H D cy ad A s S H locs) (hls : ls.size = nL) {x1 : Int32} {S2 : sd_St} {r : Int32} (h : f_X12_count x1 S = some (r, S2)) (hlink : Cond.methodLink own index yX12_count ∈ sd_wl) (hR : 2 ≤ R.frames ∧ 63 ≤ R.locals ∧ cells ≤ R.cells ∧ slots ≤ R.slots) (hst : (rest.map fun v => v.category).sum ≤ 8) (hdg : decode cc pc = .ok (.invokevirtual index, 3)) (kk : ∀ (H1 : Heap) (locs1 : List Loc), sd_H D cy ad A s S2 H1 locs1 → W p l e R s m args below meth c H1 locs1 cells slots Q (F0 m (pc + 3) ls (.int r :: rest))) : W p l e R s m args below meth c H locs cells slots Q (F0 m pc ls (.int x1 :: .ref (ad 130) :: rest)) :=
  sd_goI X (sd_runV C X hls (n := 1) (k := 130) (As := [.int x1]) (c_X12_count (l := l) (b0 := b0) h) (sd_goodV hlink sd_w50_17 sd_w50_18 sd_w1_5 sd_w50_19) (ci := 12) rfl (by rw [(show sd_kd 130 = 12 by decide)]; decide) (sd_c12 (show sd_kd 130 = 12 by decide)) (by decide +kernel) rfl hR rfl hst hdg) kk
end SM6
