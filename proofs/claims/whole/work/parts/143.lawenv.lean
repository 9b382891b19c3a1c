/-! THE LAW'S START: classes, arrays, the static row, the first state -/
theorem ws_arr {s : State} {args : Array Value} {ty : FieldType} (h : (Cond.arrayClass ty).before args s = true) : ∃ cA : ClassId, ArrOfT s cA ty ∧ s.vm.findClass ("[" ++ ty.toString) = some cA := by
  obtain ⟨c, k, comp, h1, h2, h3⟩ := Cond.arrayClass_spec h
  exact ⟨c, fun n z => ⟨fun k h => (by cases h), k, h2, comp, h3⟩, h1⟩
theorem ws_over {s : State} {C : String} (h : va_AO C s) : ∃ cA : ClassId, ArrOfT s cA (.object C) ∧ va_RA s cA (.object C) := by
  obtain ⟨comp, c, k, h1, h2, h3, h4, h5⟩ := Cond.arrayOver_spec h
  exact ⟨c, fun n z => ⟨fun k h => (by cases h), k, h3, comp, h4⟩, k, comp, h3, h4, h1, h5⟩
set_option maxRecDepth 100000 in
theorem ws_K {s : State} {args : Array Value} (hts : ∀ w ∈ sd_wl, w.before args s = true) (h5 : va_AO RX5 s) (h4 : va_AO RX4 s) : ∃ (D : va_G) (cy : Nat → ClassId), va_K D vwCl (sd_tY cy) s := by
  obtain ⟨c0, i0, k0⟩ := u_known (C := RX0) (T := TX0) (N := 1) (n := 1) hts sd_inX0 (hts _ sd_w2_15)
  obtain ⟨c1, i1, k1⟩ := u_known (C := RX1) (T := TX1) (N := 6) (n := 6) hts sd_inX1 (hts _ sd_w1_22)
  obtain ⟨c2, i2, k2⟩ := u_known (C := RX2) (T := TX2) (N := 4) (n := 4) hts sd_inX2 (hts _ sd_w2_7)
  obtain ⟨c3, i3, k3⟩ := u_known (C := RX3) (T := TX3) (N := 3) (n := 3) hts sd_inX3 (hts _ sd_w2_23)
  obtain ⟨c4, i4, k4⟩ := u_known (C := RX4) (T := TX4) (N := 5) (n := 5) hts sd_inX4 (hts _ sd_w2_19)
  obtain ⟨c5, i5, k5⟩ := u_known (C := RX5) (T := TX5) (N := 6) (n := 6) hts sd_inX5 (hts _ sd_w2_3)
  obtain ⟨c6, i6, k6⟩ := u_known (C := RX6) (T := TX6) (N := 12) (n := 12) hts sd_inX6 (hts _ sd_w2_11)
  obtain ⟨c7, i7, k7⟩ := u_known (C := RX7) (T := TX7) (N := 7) (n := 7) hts sd_inX7 (hts _ sd_w3_12)
  obtain ⟨c8, i8, k8⟩ := u_known (C := RX8) (T := TX8) (N := 16) (n := 16) hts sd_inX8 (hts _ sd_w1_18)
  obtain ⟨c9, i9, k9⟩ := u_known (C := RX9) (T := TX9) (N := 6) (n := 6) hts sd_inX9 (hts _ sd_w1_14)
  obtain ⟨c10, i10, k10⟩ := u_known (C := RX10) (T := TX10) (N := 8) (n := 8) hts sd_inX10 (hts _ sd_w3_3)
  obtain ⟨c11, i11, k11⟩ := u_known (C := RX11) (T := TX11) (N := 12) (n := 12) hts sd_inX11 (hts _ sd_w1_1)
  obtain ⟨c12, i12, k12⟩ := u_known (C := RX12) (T := TX12) (N := 35) (n := 35) hts sd_inX12 (hts _ sd_w1_4)
  obtain ⟨a0, r0, t0⟩ := ws_arr (ty := .int) (hts _ sd_w3_21)
  obtain ⟨a1, r1, t1⟩ := ws_arr (ty := .long) (hts _ sd_w3_15)
  obtain ⟨a2, r2, t2⟩ := ws_arr (ty := .boolean) (hts _ sd_w5_14)
  obtain ⟨a3, r3, t3⟩ := ws_arr (ty := .byte) (hts _ sd_w4_11)
  obtain ⟨a4, r4, t4⟩ := ws_over h5
  obtain ⟨a5, r5, t5⟩ := ws_over h4
  refine ⟨(fun k => [c0, c1, c2, c3, c4, c5, c6, c7, c8, c9, c10, c11, c12].getD k c0, fun k => [i0, i1, i2, i3, i4, i5, i6, i7, i8, i9, i10, i11, i12].getD k i0), fun k => [a0, a1, a2, a3, a4, a5].getD k a0, ⟨fun k q hq => ?_, fun k q hq => ?_⟩⟩
  · match k, hq with
    | 0, hq => cases hq; exact k0
    | 1, hq => cases hq; exact k1
    | 2, hq => cases hq; exact k2
    | 3, hq => cases hq; exact k3
    | 4, hq => cases hq; exact k4
    | 5, hq => cases hq; exact k5
    | 6, hq => cases hq; exact k6
    | 7, hq => cases hq; exact k7
    | 8, hq => cases hq; exact k8
    | 9, hq => cases hq; exact k9
    | 10, hq => cases hq; exact k10
    | 11, hq => cases hq; exact k11
    | 12, hq => cases hq; exact k12
    | k + 13, hq => cases hq
  · match k, hq with
    | 0, hq => cases hq; exact ⟨r0, t0⟩
    | 1, hq => cases hq; exact ⟨r1, t1⟩
    | 2, hq => cases hq; exact ⟨r2, t2⟩
    | 3, hq => cases hq; exact ⟨r3, t3⟩
    | 4, hq => cases hq; exact ⟨r4, t4⟩
    | 5, hq => cases hq; exact ⟨r5, t5⟩
    | k + 6, hq => cases hq
theorem ws_nest : ∀ w ∈ sd_nest, w ∈ lw_tbl := by decide +kernel
theorem ws_nestT : ∀ w ∈ sd_nest, w.onTables = true := by decide +kernel
theorem ws_o5 : Cond.arrayOver (.object RX5) ∈ lw_tbl := by decide +kernel
theorem ws_o4 : Cond.arrayOver (.object RX4) ∈ lw_tbl := by decide +kernel
theorem ws_ls : Cond.laysStatic RX9 "NO_NAMES" "[J" ∈ lw_tbl := by decide +kernel
theorem ws_in9 : Cond.initialized RX9 ∈ lw_tbl := by decide +kernel
theorem ws_f0 : Cond.arrayOf (.static RX9 "NO_NAMES" "[J") .long ∈ flatC (Jvm.Cond.and given_1 narrow_1) := by decide +kernel
theorem ws_f1 : Cond.eq (.length (.static RX9 "NO_NAMES" "[J")) (.int 14) ∈ flatC (Jvm.Cond.and given_1 narrow_1) := by decide +kernel
theorem ws_f2 : ∀ j, j < 14 → Cond.eq (.elem (.static RX9 "NO_NAMES" "[J") (.int (Int32.ofNat j))) (.long (sd_no j)) ∈ flatC (Jvm.Cond.and given_1 narrow_1) := by decide +kernel
theorem ws_row {s : State} {args : Array Value} {A : Nat → Prop} (hts : ∀ w ∈ lw_tbl, w.before args s = true) (hg : (Jvm.Cond.and given_1 narrow_1).before args s = true) (hA : ∀ a : Nat, a < s.heap.size → ¬ A a) : ∃ t : Nat, va_Z RX9 "NO_NAMES" "[J" (.ref t) A s s.heap ∧ va_T .long t 14 (fun j => .long (sd_no j)) A s s.heap := by
  have hf := flat_of_before _ hg
  obtain ⟨t, h1, h2⟩ := va_Tof (tm := .static RX9 "NO_NAMES" "[J") (ty := .long) (N := 14) (f := fun j => .long (sd_no j)) (A := A) (by decide) (hf _ ws_f0) (va_eqt (hf _ ws_f1)) (fun j hj => va_eqtl (hf _ (ws_f2 j hj))) hA
  exact ⟨t, va_Zof (hts _ ws_ls) (hts _ ws_in9) h1 hA, h2⟩
def sd_S0 : sd_St := (fun k => if k = 129 then (fun j => if j < 12 then (-2 : Int32) else (fun _ => 0) j) else fun _ => 0, fun k => if k = 135 then ((vp_updL (vp_updL (vp_updL (vp_updL (vp_updL (vp_updL (vp_updL (vp_updL (vp_updL (vp_updL (vp_updL (vp_updL (vp_updL (vp_updL (fun _ => 0) 0 (614734 : Int64)) 1 (1119812451 : Int64)) 2 (122521 : Int64)) 3 (710997 : Int64)) 4 (12777 : Int64)) 5 (5690027 : Int64)) 6 (569 : Int64)) 7 (82202 : Int64)) 8 (329128 : Int64)) 9 (755 : Int64)) 10 (1327082794 : Int64)) 11 (1178088 : Int64)) 12 (16488 : Int64)) 13 (26306908 : Int64))) else fun _ => 0)
def sd_ad0 (q q2 : Nat) (u u2 : Nat → Nat) (k : Nat) : Nat := if k = 0 then q else if k < 130 then u k else if k = 130 then q2 else u2 (k - 130)
/-- two worlds that hold the same -/
theorem ws_q {cA : ClassId} {n : Nat} {f g : Nat → Option Nat} (h : ∀ j, j < n → f j = g j) : vp_cell cA (n, .inr (.inr (.inr (.inr f)))) = vp_cell cA (n, .inr (.inr (.inr (.inr g)))) := by
  rw [vp_cell_q, vp_cell_q]
  unfold arrV
  congr 1
  apply Array.ext
  · simp
  · intro i h1 h2
    simp only [Array.getElem_ofFn]
    rw [h i (by simpa using h1)]
section S0W
variable {cy : Nat → ClassId} {q q2 : Nat} {u u2 : Nat → Nat}
theorem s0_0 : ((q, .inr (11, [.ref (u 1), .ref (u 17), .ref (u 28), .ref (u 33), .ref (u 54), .ref (u 59), .ref (u 62), .ref (u 71), .ref (u 72), .ref (u 77), .ref (u 101), .int 0])) : Nat × va_E) = (sd_ad0 q q2 u u2 0, sd_cell cy (sd_ad0 q q2 u u2) sd_S0 0) := by rw [sd_c11 (by decide)]; rfl
theorem s0_1 : (((u 1), .inr (9, [.ref (u 2), .ref (u 13), .ref (u 15), .ref (u 16), .int 0, .int 0])) : Nat × va_E) = (sd_ad0 q q2 u u2 1, sd_cell cy (sd_ad0 q q2 u u2) sd_S0 1) := by rw [sd_c9 (by decide)]; rfl
theorem s0_2 : (((u 2), .inr (8, [.int 0, .ref (u 3), .ref (u 4), .ref (u 5), .ref (u 6), .ref (u 7), .int 0, .int 0, .ref (u 8), .ref (u 9), .ref (u 10), .int 0, .ref (u 11), .ref (u 12), .int 0, .int 0])) : Nat × va_E) = (sd_ad0 q q2 u u2 2, sd_cell cy (sd_ad0 q q2 u u2) sd_S0 2) := by rw [sd_c8 (by decide)]; rfl
theorem s0_3 : (((u 3), .inl (cy 0, 12, .inl (fun _ => 0))) : Nat × va_E) = (sd_ad0 q q2 u u2 3, sd_cell cy (sd_ad0 q q2 u u2) sd_S0 3) := by rw [sd_c13 (by decide)]; rfl
theorem s0_4 : (((u 4), .inl (cy 0, 12, .inl (fun _ => 0))) : Nat × va_E) = (sd_ad0 q q2 u u2 4, sd_cell cy (sd_ad0 q q2 u u2) sd_S0 4) := by rw [sd_c13 (by decide)]; rfl
theorem s0_5 : (((u 5), .inl (cy 0, 12, .inl (fun _ => 0))) : Nat × va_E) = (sd_ad0 q q2 u u2 5, sd_cell cy (sd_ad0 q q2 u u2) sd_S0 5) := by rw [sd_c13 (by decide)]; rfl
theorem s0_6 : (((u 6), .inl (cy 0, 12, .inl (fun _ => 0))) : Nat × va_E) = (sd_ad0 q q2 u u2 6, sd_cell cy (sd_ad0 q q2 u u2) sd_S0 6) := by rw [sd_c13 (by decide)]; rfl
theorem s0_7 : (((u 7), .inl (cy 0, 12, .inl (fun _ => 0))) : Nat × va_E) = (sd_ad0 q q2 u u2 7, sd_cell cy (sd_ad0 q q2 u u2) sd_S0 7) := by rw [sd_c13 (by decide)]; rfl
theorem s0_8 : (((u 8), .inl (cy 0, 12, .inl (fun _ => 0))) : Nat × va_E) = (sd_ad0 q q2 u u2 8, sd_cell cy (sd_ad0 q q2 u u2) sd_S0 8) := by rw [sd_c13 (by decide)]; rfl
theorem s0_9 : (((u 9), .inl (cy 0, 12, .inl (fun _ => 0))) : Nat × va_E) = (sd_ad0 q q2 u u2 9, sd_cell cy (sd_ad0 q q2 u u2) sd_S0 9) := by rw [sd_c13 (by decide)]; rfl
theorem s0_10 : (((u 10), .inl (cy 0, 12, .inl (fun _ => 0))) : Nat × va_E) = (sd_ad0 q q2 u u2 10, sd_cell cy (sd_ad0 q q2 u u2) sd_S0 10) := by rw [sd_c13 (by decide)]; rfl
theorem s0_11 : (((u 11), .inl (cy 0, 4, .inl (fun _ => 0))) : Nat × va_E) = (sd_ad0 q q2 u u2 11, sd_cell cy (sd_ad0 q q2 u u2) sd_S0 11) := by rw [sd_c13 (by decide)]; rfl
theorem s0_12 : (((u 12), .inl (cy 0, 4, .inl (fun _ => 0))) : Nat × va_E) = (sd_ad0 q q2 u u2 12, sd_cell cy (sd_ad0 q q2 u u2) sd_S0 12) := by rw [sd_c13 (by decide)]; rfl
theorem s0_13 : (((u 13), .inr (7, [.ref (u 14), .int 0, .int 0, .int 0, .int 0, .long 0, .int 0])) : Nat × va_E) = (sd_ad0 q q2 u u2 13, sd_cell cy (sd_ad0 q q2 u u2) sd_S0 13) := by rw [sd_c7 (by decide)]; rfl
theorem s0_14 : (((u 14), .inl (cy 3, 1000, .inl (fun _ => 0))) : Nat × va_E) = (sd_ad0 q q2 u u2 14, sd_cell cy (sd_ad0 q q2 u u2) sd_S0 14) := by rw [sd_c16 (by decide)]; rfl
theorem s0_15 : (((u 15), .inl (cy 1, 12, .inr (.inl (fun _ => 0)))) : Nat × va_E) = (sd_ad0 q q2 u u2 15, sd_cell cy (sd_ad0 q q2 u u2) sd_S0 15) := by rw [sd_c14 (by decide)]; rfl
theorem s0_16 : (((u 16), .inl (cy 1, 4, .inr (.inl (fun _ => 0)))) : Nat × va_E) = (sd_ad0 q q2 u u2 16, sd_cell cy (sd_ad0 q q2 u u2) sd_S0 16) := by rw [sd_c14 (by decide)]; rfl
theorem s0_17 : (((u 17), .inr (8, [.int 0, .ref (u 18), .ref (u 19), .ref (u 20), .ref (u 21), .ref (u 22), .int 0, .int 0, .ref (u 23), .ref (u 24), .ref (u 25), .int 0, .ref (u 26), .ref (u 27), .int 0, .int 0])) : Nat × va_E) = (sd_ad0 q q2 u u2 17, sd_cell cy (sd_ad0 q q2 u u2) sd_S0 17) := by rw [sd_c8 (by decide)]; rfl
theorem s0_18 : (((u 18), .inl (cy 0, 12, .inl (fun _ => 0))) : Nat × va_E) = (sd_ad0 q q2 u u2 18, sd_cell cy (sd_ad0 q q2 u u2) sd_S0 18) := by rw [sd_c13 (by decide)]; rfl
theorem s0_19 : (((u 19), .inl (cy 0, 12, .inl (fun _ => 0))) : Nat × va_E) = (sd_ad0 q q2 u u2 19, sd_cell cy (sd_ad0 q q2 u u2) sd_S0 19) := by rw [sd_c13 (by decide)]; rfl
theorem s0_20 : (((u 20), .inl (cy 0, 12, .inl (fun _ => 0))) : Nat × va_E) = (sd_ad0 q q2 u u2 20, sd_cell cy (sd_ad0 q q2 u u2) sd_S0 20) := by rw [sd_c13 (by decide)]; rfl
theorem s0_21 : (((u 21), .inl (cy 0, 12, .inl (fun _ => 0))) : Nat × va_E) = (sd_ad0 q q2 u u2 21, sd_cell cy (sd_ad0 q q2 u u2) sd_S0 21) := by rw [sd_c13 (by decide)]; rfl
theorem s0_22 : (((u 22), .inl (cy 0, 12, .inl (fun _ => 0))) : Nat × va_E) = (sd_ad0 q q2 u u2 22, sd_cell cy (sd_ad0 q q2 u u2) sd_S0 22) := by rw [sd_c13 (by decide)]; rfl
theorem s0_23 : (((u 23), .inl (cy 0, 12, .inl (fun _ => 0))) : Nat × va_E) = (sd_ad0 q q2 u u2 23, sd_cell cy (sd_ad0 q q2 u u2) sd_S0 23) := by rw [sd_c13 (by decide)]; rfl
theorem s0_24 : (((u 24), .inl (cy 0, 12, .inl (fun _ => 0))) : Nat × va_E) = (sd_ad0 q q2 u u2 24, sd_cell cy (sd_ad0 q q2 u u2) sd_S0 24) := by rw [sd_c13 (by decide)]; rfl
theorem s0_25 : (((u 25), .inl (cy 0, 12, .inl (fun _ => 0))) : Nat × va_E) = (sd_ad0 q q2 u u2 25, sd_cell cy (sd_ad0 q q2 u u2) sd_S0 25) := by rw [sd_c13 (by decide)]; rfl
theorem s0_26 : (((u 26), .inl (cy 0, 4, .inl (fun _ => 0))) : Nat × va_E) = (sd_ad0 q q2 u u2 26, sd_cell cy (sd_ad0 q q2 u u2) sd_S0 26) := by rw [sd_c13 (by decide)]; rfl
theorem s0_27 : (((u 27), .inl (cy 0, 4, .inl (fun _ => 0))) : Nat × va_E) = (sd_ad0 q q2 u u2 27, sd_cell cy (sd_ad0 q q2 u u2) sd_S0 27) := by rw [sd_c13 (by decide)]; rfl
theorem s0_28 : (((u 28), .inr (1, [.int 0, .ref (u 30), .ref (u 31), .ref (u 32), .int 0, .ref (u 29)])) : Nat × va_E) = (sd_ad0 q q2 u u2 28, sd_cell cy (sd_ad0 q q2 u u2) sd_S0 28) := by rw [sd_c1 (by decide)]; rfl
theorem s0_29 : (((u 29), .inl (cy 0, 24, .inl (fun _ => 0))) : Nat × va_E) = (sd_ad0 q q2 u u2 29, sd_cell cy (sd_ad0 q q2 u u2) sd_S0 29) := by rw [sd_c13 (by decide)]; rfl
theorem s0_30 : (((u 30), .inl (cy 0, 288, .inl (fun _ => 0))) : Nat × va_E) = (sd_ad0 q q2 u u2 30, sd_cell cy (sd_ad0 q q2 u u2) sd_S0 30) := by rw [sd_c13 (by decide)]; rfl
theorem s0_31 : (((u 31), .inl (cy 0, 288, .inl (fun _ => 0))) : Nat × va_E) = (sd_ad0 q q2 u u2 31, sd_cell cy (sd_ad0 q q2 u u2) sd_S0 31) := by rw [sd_c13 (by decide)]; rfl
theorem s0_32 : (((u 32), .inl (cy 0, 288, .inl (fun _ => 0))) : Nat × va_E) = (sd_ad0 q q2 u u2 32, sd_cell cy (sd_ad0 q q2 u u2) sd_S0 32) := by rw [sd_c13 (by decide)]; rfl
theorem s0_34 : (((u 34), .inr (5, [.int 0, .int 0, .ref (u 35), .ref (u 36), .ref (u 37), .ref (u 38)])) : Nat × va_E) = (sd_ad0 q q2 u u2 34, sd_cell cy (sd_ad0 q q2 u u2) sd_S0 34) := by rw [sd_c5 (by decide)]; rfl
theorem s0_35 : (((u 35), .inl (cy 0, 12, .inl (fun _ => 0))) : Nat × va_E) = (sd_ad0 q q2 u u2 35, sd_cell cy (sd_ad0 q q2 u u2) sd_S0 35) := by rw [sd_c13 (by decide)]; rfl
theorem s0_36 : (((u 36), .inl (cy 0, 12, .inl (fun _ => 0))) : Nat × va_E) = (sd_ad0 q q2 u u2 36, sd_cell cy (sd_ad0 q q2 u u2) sd_S0 36) := by rw [sd_c13 (by decide)]; rfl
theorem s0_37 : (((u 37), .inl (cy 0, 12, .inl (fun _ => 0))) : Nat × va_E) = (sd_ad0 q q2 u u2 37, sd_cell cy (sd_ad0 q q2 u u2) sd_S0 37) := by rw [sd_c13 (by decide)]; rfl
theorem s0_38 : (((u 38), .inl (cy 0, 12, .inl (fun _ => 0))) : Nat × va_E) = (sd_ad0 q q2 u u2 38, sd_cell cy (sd_ad0 q q2 u u2) sd_S0 38) := by rw [sd_c13 (by decide)]; rfl
theorem s0_39 : (((u 39), .inr (5, [.int 0, .int 0, .ref (u 40), .ref (u 41), .ref (u 42), .ref (u 43)])) : Nat × va_E) = (sd_ad0 q q2 u u2 39, sd_cell cy (sd_ad0 q q2 u u2) sd_S0 39) := by rw [sd_c5 (by decide)]; rfl
theorem s0_40 : (((u 40), .inl (cy 0, 12, .inl (fun _ => 0))) : Nat × va_E) = (sd_ad0 q q2 u u2 40, sd_cell cy (sd_ad0 q q2 u u2) sd_S0 40) := by rw [sd_c13 (by decide)]; rfl
theorem s0_41 : (((u 41), .inl (cy 0, 12, .inl (fun _ => 0))) : Nat × va_E) = (sd_ad0 q q2 u u2 41, sd_cell cy (sd_ad0 q q2 u u2) sd_S0 41) := by rw [sd_c13 (by decide)]; rfl
theorem s0_42 : (((u 42), .inl (cy 0, 12, .inl (fun _ => 0))) : Nat × va_E) = (sd_ad0 q q2 u u2 42, sd_cell cy (sd_ad0 q q2 u u2) sd_S0 42) := by rw [sd_c13 (by decide)]; rfl
theorem s0_43 : (((u 43), .inl (cy 0, 12, .inl (fun _ => 0))) : Nat × va_E) = (sd_ad0 q q2 u u2 43, sd_cell cy (sd_ad0 q q2 u u2) sd_S0 43) := by rw [sd_c13 (by decide)]; rfl
theorem s0_44 : (((u 44), .inr (5, [.int 0, .int 0, .ref (u 45), .ref (u 46), .ref (u 47), .ref (u 48)])) : Nat × va_E) = (sd_ad0 q q2 u u2 44, sd_cell cy (sd_ad0 q q2 u u2) sd_S0 44) := by rw [sd_c5 (by decide)]; rfl
theorem s0_45 : (((u 45), .inl (cy 0, 12, .inl (fun _ => 0))) : Nat × va_E) = (sd_ad0 q q2 u u2 45, sd_cell cy (sd_ad0 q q2 u u2) sd_S0 45) := by rw [sd_c13 (by decide)]; rfl
theorem s0_46 : (((u 46), .inl (cy 0, 12, .inl (fun _ => 0))) : Nat × va_E) = (sd_ad0 q q2 u u2 46, sd_cell cy (sd_ad0 q q2 u u2) sd_S0 46) := by rw [sd_c13 (by decide)]; rfl
theorem s0_47 : (((u 47), .inl (cy 0, 12, .inl (fun _ => 0))) : Nat × va_E) = (sd_ad0 q q2 u u2 47, sd_cell cy (sd_ad0 q q2 u u2) sd_S0 47) := by rw [sd_c13 (by decide)]; rfl
theorem s0_48 : (((u 48), .inl (cy 0, 12, .inl (fun _ => 0))) : Nat × va_E) = (sd_ad0 q q2 u u2 48, sd_cell cy (sd_ad0 q q2 u u2) sd_S0 48) := by rw [sd_c13 (by decide)]; rfl
theorem s0_49 : (((u 49), .inr (5, [.int 0, .int 0, .ref (u 50), .ref (u 51), .ref (u 52), .ref (u 53)])) : Nat × va_E) = (sd_ad0 q q2 u u2 49, sd_cell cy (sd_ad0 q q2 u u2) sd_S0 49) := by rw [sd_c5 (by decide)]; rfl
theorem s0_50 : (((u 50), .inl (cy 0, 12, .inl (fun _ => 0))) : Nat × va_E) = (sd_ad0 q q2 u u2 50, sd_cell cy (sd_ad0 q q2 u u2) sd_S0 50) := by rw [sd_c13 (by decide)]; rfl
theorem s0_51 : (((u 51), .inl (cy 0, 12, .inl (fun _ => 0))) : Nat × va_E) = (sd_ad0 q q2 u u2 51, sd_cell cy (sd_ad0 q q2 u u2) sd_S0 51) := by rw [sd_c13 (by decide)]; rfl
theorem s0_52 : (((u 52), .inl (cy 0, 12, .inl (fun _ => 0))) : Nat × va_E) = (sd_ad0 q q2 u u2 52, sd_cell cy (sd_ad0 q q2 u u2) sd_S0 52) := by rw [sd_c13 (by decide)]; rfl
theorem s0_53 : (((u 53), .inl (cy 0, 12, .inl (fun _ => 0))) : Nat × va_E) = (sd_ad0 q q2 u u2 53, sd_cell cy (sd_ad0 q q2 u u2) sd_S0 53) := by rw [sd_c13 (by decide)]; rfl
theorem s0_54 : (((u 54), .inr (5, [.int 0, .int 0, .ref (u 55), .ref (u 56), .ref (u 57), .ref (u 58)])) : Nat × va_E) = (sd_ad0 q q2 u u2 54, sd_cell cy (sd_ad0 q q2 u u2) sd_S0 54) := by rw [sd_c5 (by decide)]; rfl
theorem s0_55 : (((u 55), .inl (cy 0, 12, .inl (fun _ => 0))) : Nat × va_E) = (sd_ad0 q q2 u u2 55, sd_cell cy (sd_ad0 q q2 u u2) sd_S0 55) := by rw [sd_c13 (by decide)]; rfl
theorem s0_56 : (((u 56), .inl (cy 0, 12, .inl (fun _ => 0))) : Nat × va_E) = (sd_ad0 q q2 u u2 56, sd_cell cy (sd_ad0 q q2 u u2) sd_S0 56) := by rw [sd_c13 (by decide)]; rfl
theorem s0_57 : (((u 57), .inl (cy 0, 12, .inl (fun _ => 0))) : Nat × va_E) = (sd_ad0 q q2 u u2 57, sd_cell cy (sd_ad0 q q2 u u2) sd_S0 57) := by rw [sd_c13 (by decide)]; rfl
theorem s0_58 : (((u 58), .inl (cy 0, 12, .inl (fun _ => 0))) : Nat × va_E) = (sd_ad0 q q2 u u2 58, sd_cell cy (sd_ad0 q q2 u u2) sd_S0 58) := by rw [sd_c13 (by decide)]; rfl
theorem s0_59 : (((u 59), .inr (2, [.int 0, .int 0, .ref (u 60), .ref (u 61)])) : Nat × va_E) = (sd_ad0 q q2 u u2 59, sd_cell cy (sd_ad0 q q2 u u2) sd_S0 59) := by rw [sd_c2 (by decide)]; rfl
theorem s0_60 : (((u 60), .inl (cy 0, 12, .inl (fun _ => 0))) : Nat × va_E) = (sd_ad0 q q2 u u2 60, sd_cell cy (sd_ad0 q q2 u u2) sd_S0 60) := by rw [sd_c13 (by decide)]; rfl
theorem s0_61 : (((u 61), .inl (cy 0, 12, .inl (fun _ => 0))) : Nat × va_E) = (sd_ad0 q q2 u u2 61, sd_cell cy (sd_ad0 q q2 u u2) sd_S0 61) := by rw [sd_c13 (by decide)]; rfl
theorem s0_62 : (((u 62), .inr (6, [.int 0, .int 0, .int 0, .ref (u 63), .ref (u 64), .ref (u 65), .ref (u 66), .ref (u 67), .ref (u 68), .ref (u 69), .ref (u 70), .int 0])) : Nat × va_E) = (sd_ad0 q q2 u u2 62, sd_cell cy (sd_ad0 q q2 u u2) sd_S0 62) := by rw [sd_c6 (by decide)]; rfl
theorem s0_63 : (((u 63), .inl (cy 0, 12, .inl (fun _ => 0))) : Nat × va_E) = (sd_ad0 q q2 u u2 63, sd_cell cy (sd_ad0 q q2 u u2) sd_S0 63) := by rw [sd_c13 (by decide)]; rfl
theorem s0_64 : (((u 64), .inl (cy 0, 288, .inl (fun _ => 0))) : Nat × va_E) = (sd_ad0 q q2 u u2 64, sd_cell cy (sd_ad0 q q2 u u2) sd_S0 64) := by rw [sd_c13 (by decide)]; rfl
theorem s0_65 : (((u 65), .inl (cy 2, 288, .inl (fun _ => 0))) : Nat × va_E) = (sd_ad0 q q2 u u2 65, sd_cell cy (sd_ad0 q q2 u u2) sd_S0 65) := by rw [sd_c15 (by decide)]; rfl
theorem s0_66 : (((u 66), .inl (cy 0, 288, .inl (fun _ => 0))) : Nat × va_E) = (sd_ad0 q q2 u u2 66, sd_cell cy (sd_ad0 q q2 u u2) sd_S0 66) := by rw [sd_c13 (by decide)]; rfl
theorem s0_67 : (((u 67), .inl (cy 0, 288, .inl (fun _ => 0))) : Nat × va_E) = (sd_ad0 q q2 u u2 67, sd_cell cy (sd_ad0 q q2 u u2) sd_S0 67) := by rw [sd_c13 (by decide)]; rfl
theorem s0_68 : (((u 68), .inl (cy 0, 288, .inl (fun _ => 0))) : Nat × va_E) = (sd_ad0 q q2 u u2 68, sd_cell cy (sd_ad0 q q2 u u2) sd_S0 68) := by rw [sd_c13 (by decide)]; rfl
theorem s0_69 : (((u 69), .inl (cy 0, 12, .inl (fun _ => 0))) : Nat × va_E) = (sd_ad0 q q2 u u2 69, sd_cell cy (sd_ad0 q q2 u u2) sd_S0 69) := by rw [sd_c13 (by decide)]; rfl
theorem s0_70 : (((u 70), .inl (cy 0, 576, .inl (fun _ => 0))) : Nat × va_E) = (sd_ad0 q q2 u u2 70, sd_cell cy (sd_ad0 q q2 u u2) sd_S0 70) := by rw [sd_c13 (by decide)]; rfl
theorem s0_71 : (((u 71), .inr (0, [.long 0])) : Nat × va_E) = (sd_ad0 q q2 u u2 71, sd_cell cy (sd_ad0 q q2 u u2) sd_S0 71) := by rw [sd_c0 (by decide)]; rfl
theorem s0_72 : (((u 72), .inr (4, [.int 0, .ref (u 73), .ref (u 74), .ref (u 75), .ref (u 76)])) : Nat × va_E) = (sd_ad0 q q2 u u2 72, sd_cell cy (sd_ad0 q q2 u u2) sd_S0 72) := by rw [sd_c4 (by decide)]; rfl
theorem s0_73 : (((u 73), .inl (cy 0, 16, .inl (fun _ => 0))) : Nat × va_E) = (sd_ad0 q q2 u u2 73, sd_cell cy (sd_ad0 q q2 u u2) sd_S0 73) := by rw [sd_c13 (by decide)]; rfl
theorem s0_74 : (((u 74), .inl (cy 0, 16, .inl (fun _ => 0))) : Nat × va_E) = (sd_ad0 q q2 u u2 74, sd_cell cy (sd_ad0 q q2 u u2) sd_S0 74) := by rw [sd_c13 (by decide)]; rfl
theorem s0_75 : (((u 75), .inl (cy 0, 16, .inl (fun _ => 0))) : Nat × va_E) = (sd_ad0 q q2 u u2 75, sd_cell cy (sd_ad0 q q2 u u2) sd_S0 75) := by rw [sd_c13 (by decide)]; rfl
theorem s0_76 : (((u 76), .inl (cy 2, 16, .inl (fun _ => 0))) : Nat × va_E) = (sd_ad0 q q2 u u2 76, sd_cell cy (sd_ad0 q q2 u u2) sd_S0 76) := by rw [sd_c15 (by decide)]; rfl
theorem s0_77 : (((u 77), .inr (3, [.ref (u 78), .ref (u 79), .ref (u 80)])) : Nat × va_E) = (sd_ad0 q q2 u u2 77, sd_cell cy (sd_ad0 q q2 u u2) sd_S0 77) := by rw [sd_c3 (by decide)]; rfl
theorem s0_78 : (((u 78), .inl (cy 2, 4, .inl (fun _ => 0))) : Nat × va_E) = (sd_ad0 q q2 u u2 78, sd_cell cy (sd_ad0 q q2 u u2) sd_S0 78) := by rw [sd_c15 (by decide)]; rfl
theorem s0_79 : (((u 79), .inl (cy 2, 4, .inl (fun _ => 0))) : Nat × va_E) = (sd_ad0 q q2 u u2 79, sd_cell cy (sd_ad0 q q2 u u2) sd_S0 79) := by rw [sd_c15 (by decide)]; rfl
theorem s0_81 : (((u 81), .inr (4, [.int 0, .ref (u 82), .ref (u 83), .ref (u 84), .ref (u 85)])) : Nat × va_E) = (sd_ad0 q q2 u u2 81, sd_cell cy (sd_ad0 q q2 u u2) sd_S0 81) := by rw [sd_c4 (by decide)]; rfl
theorem s0_82 : (((u 82), .inl (cy 0, 16, .inl (fun _ => 0))) : Nat × va_E) = (sd_ad0 q q2 u u2 82, sd_cell cy (sd_ad0 q q2 u u2) sd_S0 82) := by rw [sd_c13 (by decide)]; rfl
theorem s0_83 : (((u 83), .inl (cy 0, 16, .inl (fun _ => 0))) : Nat × va_E) = (sd_ad0 q q2 u u2 83, sd_cell cy (sd_ad0 q q2 u u2) sd_S0 83) := by rw [sd_c13 (by decide)]; rfl
theorem s0_84 : (((u 84), .inl (cy 0, 16, .inl (fun _ => 0))) : Nat × va_E) = (sd_ad0 q q2 u u2 84, sd_cell cy (sd_ad0 q q2 u u2) sd_S0 84) := by rw [sd_c13 (by decide)]; rfl
theorem s0_85 : (((u 85), .inl (cy 2, 16, .inl (fun _ => 0))) : Nat × va_E) = (sd_ad0 q q2 u u2 85, sd_cell cy (sd_ad0 q q2 u u2) sd_S0 85) := by rw [sd_c15 (by decide)]; rfl
theorem s0_86 : (((u 86), .inr (4, [.int 0, .ref (u 87), .ref (u 88), .ref (u 89), .ref (u 90)])) : Nat × va_E) = (sd_ad0 q q2 u u2 86, sd_cell cy (sd_ad0 q q2 u u2) sd_S0 86) := by rw [sd_c4 (by decide)]; rfl
theorem s0_87 : (((u 87), .inl (cy 0, 16, .inl (fun _ => 0))) : Nat × va_E) = (sd_ad0 q q2 u u2 87, sd_cell cy (sd_ad0 q q2 u u2) sd_S0 87) := by rw [sd_c13 (by decide)]; rfl
theorem s0_88 : (((u 88), .inl (cy 0, 16, .inl (fun _ => 0))) : Nat × va_E) = (sd_ad0 q q2 u u2 88, sd_cell cy (sd_ad0 q q2 u u2) sd_S0 88) := by rw [sd_c13 (by decide)]; rfl
theorem s0_89 : (((u 89), .inl (cy 0, 16, .inl (fun _ => 0))) : Nat × va_E) = (sd_ad0 q q2 u u2 89, sd_cell cy (sd_ad0 q q2 u u2) sd_S0 89) := by rw [sd_c13 (by decide)]; rfl
theorem s0_90 : (((u 90), .inl (cy 2, 16, .inl (fun _ => 0))) : Nat × va_E) = (sd_ad0 q q2 u u2 90, sd_cell cy (sd_ad0 q q2 u u2) sd_S0 90) := by rw [sd_c15 (by decide)]; rfl
theorem s0_91 : (((u 91), .inr (4, [.int 0, .ref (u 92), .ref (u 93), .ref (u 94), .ref (u 95)])) : Nat × va_E) = (sd_ad0 q q2 u u2 91, sd_cell cy (sd_ad0 q q2 u u2) sd_S0 91) := by rw [sd_c4 (by decide)]; rfl
theorem s0_92 : (((u 92), .inl (cy 0, 16, .inl (fun _ => 0))) : Nat × va_E) = (sd_ad0 q q2 u u2 92, sd_cell cy (sd_ad0 q q2 u u2) sd_S0 92) := by rw [sd_c13 (by decide)]; rfl
theorem s0_93 : (((u 93), .inl (cy 0, 16, .inl (fun _ => 0))) : Nat × va_E) = (sd_ad0 q q2 u u2 93, sd_cell cy (sd_ad0 q q2 u u2) sd_S0 93) := by rw [sd_c13 (by decide)]; rfl
theorem s0_94 : (((u 94), .inl (cy 0, 16, .inl (fun _ => 0))) : Nat × va_E) = (sd_ad0 q q2 u u2 94, sd_cell cy (sd_ad0 q q2 u u2) sd_S0 94) := by rw [sd_c13 (by decide)]; rfl
theorem s0_95 : (((u 95), .inl (cy 2, 16, .inl (fun _ => 0))) : Nat × va_E) = (sd_ad0 q q2 u u2 95, sd_cell cy (sd_ad0 q q2 u u2) sd_S0 95) := by rw [sd_c15 (by decide)]; rfl
theorem s0_96 : (((u 96), .inr (4, [.int 0, .ref (u 97), .ref (u 98), .ref (u 99), .ref (u 100)])) : Nat × va_E) = (sd_ad0 q q2 u u2 96, sd_cell cy (sd_ad0 q q2 u u2) sd_S0 96) := by rw [sd_c4 (by decide)]; rfl
theorem s0_97 : (((u 97), .inl (cy 0, 16, .inl (fun _ => 0))) : Nat × va_E) = (sd_ad0 q q2 u u2 97, sd_cell cy (sd_ad0 q q2 u u2) sd_S0 97) := by rw [sd_c13 (by decide)]; rfl
theorem s0_98 : (((u 98), .inl (cy 0, 16, .inl (fun _ => 0))) : Nat × va_E) = (sd_ad0 q q2 u u2 98, sd_cell cy (sd_ad0 q q2 u u2) sd_S0 98) := by rw [sd_c13 (by decide)]; rfl
theorem s0_99 : (((u 99), .inl (cy 0, 16, .inl (fun _ => 0))) : Nat × va_E) = (sd_ad0 q q2 u u2 99, sd_cell cy (sd_ad0 q q2 u u2) sd_S0 99) := by rw [sd_c13 (by decide)]; rfl
theorem s0_100 : (((u 100), .inl (cy 2, 16, .inl (fun _ => 0))) : Nat × va_E) = (sd_ad0 q q2 u u2 100, sd_cell cy (sd_ad0 q q2 u u2) sd_S0 100) := by rw [sd_c15 (by decide)]; rfl
theorem s0_101 : (((u 101), .inr (10, [.ref (u 102), .ref (u 113), .ref (u 118), .ref (u 123), .ref (u 128), .ref (u 129), .int 0, .int 0])) : Nat × va_E) = (sd_ad0 q q2 u u2 101, sd_cell cy (sd_ad0 q q2 u u2) sd_S0 101) := by rw [sd_c10 (by decide)]; rfl
theorem s0_102 : (((u 102), .inr (8, [.int 0, .ref (u 103), .ref (u 104), .ref (u 105), .ref (u 106), .ref (u 107), .int 0, .int 0, .ref (u 108), .ref (u 109), .ref (u 110), .int 0, .ref (u 111), .ref (u 112), .int 0, .int 0])) : Nat × va_E) = (sd_ad0 q q2 u u2 102, sd_cell cy (sd_ad0 q q2 u u2) sd_S0 102) := by rw [sd_c8 (by decide)]; rfl
theorem s0_103 : (((u 103), .inl (cy 0, 12, .inl (fun _ => 0))) : Nat × va_E) = (sd_ad0 q q2 u u2 103, sd_cell cy (sd_ad0 q q2 u u2) sd_S0 103) := by rw [sd_c13 (by decide)]; rfl
theorem s0_104 : (((u 104), .inl (cy 0, 12, .inl (fun _ => 0))) : Nat × va_E) = (sd_ad0 q q2 u u2 104, sd_cell cy (sd_ad0 q q2 u u2) sd_S0 104) := by rw [sd_c13 (by decide)]; rfl
theorem s0_105 : (((u 105), .inl (cy 0, 12, .inl (fun _ => 0))) : Nat × va_E) = (sd_ad0 q q2 u u2 105, sd_cell cy (sd_ad0 q q2 u u2) sd_S0 105) := by rw [sd_c13 (by decide)]; rfl
theorem s0_106 : (((u 106), .inl (cy 0, 12, .inl (fun _ => 0))) : Nat × va_E) = (sd_ad0 q q2 u u2 106, sd_cell cy (sd_ad0 q q2 u u2) sd_S0 106) := by rw [sd_c13 (by decide)]; rfl
theorem s0_107 : (((u 107), .inl (cy 0, 12, .inl (fun _ => 0))) : Nat × va_E) = (sd_ad0 q q2 u u2 107, sd_cell cy (sd_ad0 q q2 u u2) sd_S0 107) := by rw [sd_c13 (by decide)]; rfl
theorem s0_108 : (((u 108), .inl (cy 0, 12, .inl (fun _ => 0))) : Nat × va_E) = (sd_ad0 q q2 u u2 108, sd_cell cy (sd_ad0 q q2 u u2) sd_S0 108) := by rw [sd_c13 (by decide)]; rfl
theorem s0_109 : (((u 109), .inl (cy 0, 12, .inl (fun _ => 0))) : Nat × va_E) = (sd_ad0 q q2 u u2 109, sd_cell cy (sd_ad0 q q2 u u2) sd_S0 109) := by rw [sd_c13 (by decide)]; rfl
theorem s0_110 : (((u 110), .inl (cy 0, 12, .inl (fun _ => 0))) : Nat × va_E) = (sd_ad0 q q2 u u2 110, sd_cell cy (sd_ad0 q q2 u u2) sd_S0 110) := by rw [sd_c13 (by decide)]; rfl
theorem s0_111 : (((u 111), .inl (cy 0, 4, .inl (fun _ => 0))) : Nat × va_E) = (sd_ad0 q q2 u u2 111, sd_cell cy (sd_ad0 q q2 u u2) sd_S0 111) := by rw [sd_c13 (by decide)]; rfl
theorem s0_112 : (((u 112), .inl (cy 0, 4, .inl (fun _ => 0))) : Nat × va_E) = (sd_ad0 q q2 u u2 112, sd_cell cy (sd_ad0 q q2 u u2) sd_S0 112) := by rw [sd_c13 (by decide)]; rfl
theorem s0_113 : (((u 113), .inr (1, [.int 0, .ref (u 115), .ref (u 116), .ref (u 117), .int 0, .ref (u 114)])) : Nat × va_E) = (sd_ad0 q q2 u u2 113, sd_cell cy (sd_ad0 q q2 u u2) sd_S0 113) := by rw [sd_c1 (by decide)]; rfl
theorem s0_114 : (((u 114), .inl (cy 0, 24, .inl (fun _ => 0))) : Nat × va_E) = (sd_ad0 q q2 u u2 114, sd_cell cy (sd_ad0 q q2 u u2) sd_S0 114) := by rw [sd_c13 (by decide)]; rfl
theorem s0_115 : (((u 115), .inl (cy 0, 288, .inl (fun _ => 0))) : Nat × va_E) = (sd_ad0 q q2 u u2 115, sd_cell cy (sd_ad0 q q2 u u2) sd_S0 115) := by rw [sd_c13 (by decide)]; rfl
theorem s0_116 : (((u 116), .inl (cy 0, 288, .inl (fun _ => 0))) : Nat × va_E) = (sd_ad0 q q2 u u2 116, sd_cell cy (sd_ad0 q q2 u u2) sd_S0 116) := by rw [sd_c13 (by decide)]; rfl
theorem s0_117 : (((u 117), .inl (cy 0, 288, .inl (fun _ => 0))) : Nat × va_E) = (sd_ad0 q q2 u u2 117, sd_cell cy (sd_ad0 q q2 u u2) sd_S0 117) := by rw [sd_c13 (by decide)]; rfl
theorem s0_118 : (((u 118), .inr (1, [.int 0, .ref (u 120), .ref (u 121), .ref (u 122), .int 0, .ref (u 119)])) : Nat × va_E) = (sd_ad0 q q2 u u2 118, sd_cell cy (sd_ad0 q q2 u u2) sd_S0 118) := by rw [sd_c1 (by decide)]; rfl
theorem s0_119 : (((u 119), .inl (cy 0, 1, .inl (fun _ => 0))) : Nat × va_E) = (sd_ad0 q q2 u u2 119, sd_cell cy (sd_ad0 q q2 u u2) sd_S0 119) := by rw [sd_c13 (by decide)]; rfl
theorem s0_120 : (((u 120), .inl (cy 0, 12, .inl (fun _ => 0))) : Nat × va_E) = (sd_ad0 q q2 u u2 120, sd_cell cy (sd_ad0 q q2 u u2) sd_S0 120) := by rw [sd_c13 (by decide)]; rfl
theorem s0_121 : (((u 121), .inl (cy 0, 12, .inl (fun _ => 0))) : Nat × va_E) = (sd_ad0 q q2 u u2 121, sd_cell cy (sd_ad0 q q2 u u2) sd_S0 121) := by rw [sd_c13 (by decide)]; rfl
theorem s0_122 : (((u 122), .inl (cy 0, 12, .inl (fun _ => 0))) : Nat × va_E) = (sd_ad0 q q2 u u2 122, sd_cell cy (sd_ad0 q q2 u u2) sd_S0 122) := by rw [sd_c13 (by decide)]; rfl
theorem s0_123 : (((u 123), .inr (5, [.int 0, .int 0, .ref (u 124), .ref (u 125), .ref (u 126), .ref (u 127)])) : Nat × va_E) = (sd_ad0 q q2 u u2 123, sd_cell cy (sd_ad0 q q2 u u2) sd_S0 123) := by rw [sd_c5 (by decide)]; rfl
theorem s0_124 : (((u 124), .inl (cy 0, 12, .inl (fun _ => 0))) : Nat × va_E) = (sd_ad0 q q2 u u2 124, sd_cell cy (sd_ad0 q q2 u u2) sd_S0 124) := by rw [sd_c13 (by decide)]; rfl
theorem s0_125 : (((u 125), .inl (cy 0, 12, .inl (fun _ => 0))) : Nat × va_E) = (sd_ad0 q q2 u u2 125, sd_cell cy (sd_ad0 q q2 u u2) sd_S0 125) := by rw [sd_c13 (by decide)]; rfl
theorem s0_126 : (((u 126), .inl (cy 0, 12, .inl (fun _ => 0))) : Nat × va_E) = (sd_ad0 q q2 u u2 126, sd_cell cy (sd_ad0 q q2 u u2) sd_S0 126) := by rw [sd_c13 (by decide)]; rfl
theorem s0_127 : (((u 127), .inl (cy 0, 12, .inl (fun _ => 0))) : Nat × va_E) = (sd_ad0 q q2 u u2 127, sd_cell cy (sd_ad0 q q2 u u2) sd_S0 127) := by rw [sd_c13 (by decide)]; rfl
theorem s0_128 : (((u 128), .inl (cy 2, 366, .inl (fun _ => 0))) : Nat × va_E) = (sd_ad0 q q2 u u2 128, sd_cell cy (sd_ad0 q q2 u u2) sd_S0 128) := by rw [sd_c15 (by decide)]; rfl
theorem s0_129 : (((u 129), .inl (cy 0, 12, .inl (fun j => if j < 12 then (-2 : Int32) else (fun _ => 0) j))) : Nat × va_E) = (sd_ad0 q q2 u u2 129, sd_cell cy (sd_ad0 q q2 u u2) sd_S0 129) := by rw [sd_c13 (by decide)]; rfl
theorem s0_130 : ((q2, .inr (12, [.int (0 : Int32), .ref (u2 1), .int 0, .int 0, .ref (u2 2), .ref (u2 3), .ref (u2 4), .int 0, .int 0, .ref (u2 5), .ref (u2 6), .ref (u2 7), .ref (u2 8), .int 0, .int 0, .ref (u2 9), .int 0, .ref (u2 10), .ref (u2 11), .ref (u2 12), .int 0, .ref (u2 13), .ref (u2 14), .ref (u2 15), .ref (u2 16), .ref (u2 17), .ref (u2 18), .ref (u2 19), .int 0, .ref (u2 20), .ref (u2 21), .ref (u2 22), .ref (u2 23), .long 0, .ref (u2 24)])) : Nat × va_E) = (sd_ad0 q q2 u u2 130, sd_cell cy (sd_ad0 q q2 u u2) sd_S0 130) := by rw [sd_c12 (by decide)]; rfl
theorem s0_131 : (((u2 1), .inl (cy 0, 1000, .inl (fun _ => 0))) : Nat × va_E) = (sd_ad0 q q2 u u2 131, sd_cell cy (sd_ad0 q q2 u u2) sd_S0 131) := by rw [sd_c13 (by decide)]; rfl
theorem s0_132 : (((u2 2), .inl (cy 0, 1002, .inl (fun _ => 0))) : Nat × va_E) = (sd_ad0 q q2 u u2 132, sd_cell cy (sd_ad0 q q2 u u2) sd_S0 132) := by rw [sd_c13 (by decide)]; rfl
theorem s0_133 : (((u2 3), .inl (cy 0, 1002, .inl (fun _ => 0))) : Nat × va_E) = (sd_ad0 q q2 u u2 133, sd_cell cy (sd_ad0 q q2 u u2) sd_S0 133) := by rw [sd_c13 (by decide)]; rfl
theorem s0_134 : (((u2 4), .inl (cy 1, 1002, .inr (.inl (fun _ => 0)))) : Nat × va_E) = (sd_ad0 q q2 u u2 134, sd_cell cy (sd_ad0 q q2 u u2) sd_S0 134) := by rw [sd_c14 (by decide)]; rfl
theorem s0_135 : (((u2 5), .inl (cy 1, 14, .inr (.inl (vp_updL (vp_updL (vp_updL (vp_updL (vp_updL (vp_updL (vp_updL (vp_updL (vp_updL (vp_updL (vp_updL (vp_updL (vp_updL (vp_updL (fun _ => 0) 0 (614734 : Int64)) 1 (1119812451 : Int64)) 2 (122521 : Int64)) 3 (710997 : Int64)) 4 (12777 : Int64)) 5 (5690027 : Int64)) 6 (569 : Int64)) 7 (82202 : Int64)) 8 (329128 : Int64)) 9 (755 : Int64)) 10 (1327082794 : Int64)) 11 (1178088 : Int64)) 12 (16488 : Int64)) 13 (26306908 : Int64))))) : Nat × va_E) = (sd_ad0 q q2 u u2 135, sd_cell cy (sd_ad0 q q2 u u2) sd_S0 135) := by rw [sd_c14 (by decide)]; rfl
theorem s0_136 : (((u2 6), .inl (cy 0, 1020, .inl (fun _ => 0))) : Nat × va_E) = (sd_ad0 q q2 u u2 136, sd_cell cy (sd_ad0 q q2 u u2) sd_S0 136) := by rw [sd_c13 (by decide)]; rfl
theorem s0_137 : (((u2 7), .inl (cy 1, 16, .inr (.inl (fun _ => 0)))) : Nat × va_E) = (sd_ad0 q q2 u u2 137, sd_cell cy (sd_ad0 q q2 u u2) sd_S0 137) := by rw [sd_c14 (by decide)]; rfl
theorem s0_138 : (((u2 8), .inl (cy 0, 16, .inl (fun _ => 0))) : Nat × va_E) = (sd_ad0 q q2 u u2 138, sd_cell cy (sd_ad0 q q2 u u2) sd_S0 138) := by rw [sd_c13 (by decide)]; rfl
theorem s0_139 : (((u2 9), .inl (cy 0, 24, .inl (fun _ => 0))) : Nat × va_E) = (sd_ad0 q q2 u u2 139, sd_cell cy (sd_ad0 q q2 u u2) sd_S0 139) := by rw [sd_c13 (by decide)]; rfl
theorem s0_140 : (((u2 10), .inl (cy 0, 12, .inl (fun _ => 0))) : Nat × va_E) = (sd_ad0 q q2 u u2 140, sd_cell cy (sd_ad0 q q2 u u2) sd_S0 140) := by rw [sd_c13 (by decide)]; rfl
theorem s0_141 : (((u2 11), .inl (cy 0, 12, .inl (fun _ => 0))) : Nat × va_E) = (sd_ad0 q q2 u u2 141, sd_cell cy (sd_ad0 q q2 u u2) sd_S0 141) := by rw [sd_c13 (by decide)]; rfl
theorem s0_142 : (((u2 12), .inl (cy 0, 144, .inl (fun _ => 0))) : Nat × va_E) = (sd_ad0 q q2 u u2 142, sd_cell cy (sd_ad0 q q2 u u2) sd_S0 142) := by rw [sd_c13 (by decide)]; rfl
theorem s0_143 : (((u2 13), .inl (cy 0, 288, .inl (fun _ => 0))) : Nat × va_E) = (sd_ad0 q q2 u u2 143, sd_cell cy (sd_ad0 q q2 u u2) sd_S0 143) := by rw [sd_c13 (by decide)]; rfl
theorem s0_144 : (((u2 14), .inl (cy 0, 288, .inl (fun _ => 0))) : Nat × va_E) = (sd_ad0 q q2 u u2 144, sd_cell cy (sd_ad0 q q2 u u2) sd_S0 144) := by rw [sd_c13 (by decide)]; rfl
theorem s0_145 : (((u2 15), .inl (cy 2, 288, .inl (fun _ => 0))) : Nat × va_E) = (sd_ad0 q q2 u u2 145, sd_cell cy (sd_ad0 q q2 u u2) sd_S0 145) := by rw [sd_c15 (by decide)]; rfl
theorem s0_146 : (((u2 16), .inl (cy 0, 288, .inl (fun _ => 0))) : Nat × va_E) = (sd_ad0 q q2 u u2 146, sd_cell cy (sd_ad0 q q2 u u2) sd_S0 146) := by rw [sd_c13 (by decide)]; rfl
theorem s0_147 : (((u2 17), .inl (cy 0, 288, .inl (fun _ => 0))) : Nat × va_E) = (sd_ad0 q q2 u u2 147, sd_cell cy (sd_ad0 q q2 u u2) sd_S0 147) := by rw [sd_c13 (by decide)]; rfl
theorem s0_148 : (((u2 18), .inl (cy 0, 576, .inl (fun _ => 0))) : Nat × va_E) = (sd_ad0 q q2 u u2 148, sd_cell cy (sd_ad0 q q2 u u2) sd_S0 148) := by rw [sd_c13 (by decide)]; rfl
theorem s0_149 : (((u2 19), .inl (cy 0, 576, .inl (fun _ => 0))) : Nat × va_E) = (sd_ad0 q q2 u u2 149, sd_cell cy (sd_ad0 q q2 u u2) sd_S0 149) := by rw [sd_c13 (by decide)]; rfl
theorem s0_150 : (((u2 20), .inl (cy 2, 288, .inl (fun _ => 0))) : Nat × va_E) = (sd_ad0 q q2 u u2 150, sd_cell cy (sd_ad0 q q2 u u2) sd_S0 150) := by rw [sd_c15 (by decide)]; rfl
theorem s0_151 : (((u2 21), .inl (cy 0, 288, .inl (fun _ => 0))) : Nat × va_E) = (sd_ad0 q q2 u u2 151, sd_cell cy (sd_ad0 q q2 u u2) sd_S0 151) := by rw [sd_c13 (by decide)]; rfl
theorem s0_152 : (((u2 22), .inl (cy 0, 288, .inl (fun _ => 0))) : Nat × va_E) = (sd_ad0 q q2 u u2 152, sd_cell cy (sd_ad0 q q2 u u2) sd_S0 152) := by rw [sd_c13 (by decide)]; rfl
theorem s0_153 : (((u2 23), .inl (cy 0, 12, .inl (fun _ => 0))) : Nat × va_E) = (sd_ad0 q q2 u u2 153, sd_cell cy (sd_ad0 q q2 u u2) sd_S0 153) := by rw [sd_c13 (by decide)]; rfl
theorem s0_154 : (((u2 24), .inl (cy 2, 4, .inl (fun _ => 0))) : Nat × va_E) = (sd_ad0 q q2 u u2 154, sd_cell cy (sd_ad0 q q2 u u2) sd_S0 154) := by rw [sd_c15 (by decide)]; rfl
end S0W
