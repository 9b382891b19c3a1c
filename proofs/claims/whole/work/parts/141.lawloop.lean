/-! THE LAW'S LOOP -/
theorem and31 (x : Int32) : ∃ t, t < 32 ∧ x &&& (31 : Int32) = nI t := by
  refine ⟨(x.toBitVec &&& 31#32).toNat, ?_, ?_⟩
  · rw [BitVec.toNat_and]
    exact Nat.lt_succ_of_le Nat.and_le_right
  · apply Int32.toBitVec_inj.mp
    rw [Int32.toBitVec_and]
    show _ = BitVec.ofNat 32 _
    rw [BitVec.ofNat_toNat, BitVec.setWidth_eq]
    rfl
theorem la_end {i L : Nat} (hi : i ≤ L) (hL : L ≤ 3584) (h : ¬ Int32.ofNat L - 7 < nI i) : i + 7 ≤ L := by
  rcases Nat.lt_or_ge L 7 with c | c
  · exfalso
    have h1 : ∀ L', L' < 7 → ∀ i', i' < 7 → Int32.ofNat L' - 7 < Int32.ofNat i' := by decide
    exact h (h1 L c i (by omega))
  · have e : Int32.ofNat L - 7 = nI (L - 7) := nI_sub (a := L) (b := 7) c
    rw [e] at h
    rcases Nat.lt_or_ge (L - 7) i with q | q
    · exact absurd (nI_lt q (by omega)) h
    · omega
set_option maxHeartbeats 4000000 in
set_option maxRecDepth 100000 in
theorem la_loop {p : Program} {l : Launch} {e : Env} {s : State} {m : MethodId} {below : List Frame} {meth : Method} {c : Code} {cells slots : Nat} {D : va_G} {cy : Nat → ClassId} {ad : Nat → Nat} {b0 : Nat} {b L : Nat} {xs : Nat → Int32} (C : sd_C RL cL_law 4 ret D cy ad (fun q : Nat => s.heap.size ≤ q) b0 p s m #[Value.ref b] meth c) (hX : va_X b L xs s s.heap) (hbl : b < s.heap.size) (hL : L ≤ 3584) (hce : cells ≤ room_1.cells ∧ slots ≤ room_1.slots) : ∀ (n i : Nat) (σ : Sg) (S : sd_St) (H : Heap) (locs : List Loc) (ls : Array Slot), i ≤ L → L + 1 ≤ i + n → la_I D cy ad (fun q : Nat => s.heap.size ≤ q) s σ S H locs → lv_has ls 4 [(0, .ref b), (1, .ref (ad 0)), (2, .ref (ad 130)), (3, .int (nI i))] → W p l e room_1 s m #[Value.ref b] below meth c H locs cells slots (lw_Z below #[Value.ref b] s) (F0 m 18 ls []) := by
  have hbA : ¬ (fun q : Nat => s.heap.size ≤ q) b := Nat.not_le.mpr hbl
  obtain ⟨hx, hb, hr, -, hown, hts, hlocks, -⟩ := id C
  intro n
  induction n with
  | zero => intro i σ S H locs ls h1 h2; exact absurd h2 (by omega)
  | succ n ih =>
    intro i σ S H locs ls hi hin I hl
    have X := I.2.2.2
    refine lv_iload_n hx hb dL_law_18 rfl (lv_at hl 3 rfl) ?_
    refine lv_aload_n hx hb dL_law_19 rfl (lv_at hl 0 rfl) ?_
    refine va_slen hx hb hX hbl hbA X.2 dL_law_20 ?_
    refine lv_bipush (v := (7 : Int32)) hx hb dL_law_21 (by decide) ?_
    refine lv_isub hx hb dL_law_23 ?_
    refine lv_icmp_gt (tgt := 1215) hx hb dL_law_24 (by decide) (fun c1 => ?_) (fun c1 => ?_)
    · refine lv_iconst (v := (1 : Int32)) hx hb dL_law_1215 (by decide) ?_
      refine va_forget (fun q hq => X.2.2.2 q hq) ?_
      refine W.widen (k := 600000) (n := 7302250) hce.1 hce.2 ?_
      exact lw_ret hx hb hr hlocks dL_law_1216
    · have hi7 := la_end hi hL c1
      have B : la_B s (fun q : Nat => s.heap.size ≤ q) b L xs i := ⟨hX, hbl, hbA, hi7, hL⟩
      have kk : ∀ (σ2 : Sg) (S2 : sd_St) (H1 : Heap) (locs1 : List Loc), la_I D cy ad (fun q : Nat => s.heap.size ≤ q) s σ2 S2 H1 locs1 → W p l e room_1 s m #[Value.ref b] below meth c H1 locs1 cells slots (lw_Z below #[Value.ref b] s) (F0 m 1209 ls []) := by
        intro σ2 S2 H1 locs1 I2
        refine lv_iinc (v := nI (i + 7)) (lv' := [(3, .int (nI (i + 7))), (0, .ref b), (1, .ref (ad 0)), (2, .ref (ad 130))]) hx hb dL_law_1209 hl (k := 3) rfl (nI_add i 7) (by decide) rfl (fun ls hl => ?_)
        refine lv_goto (tgt := 18) hx hb dL_law_1212 (by decide) ?_
        exact ih (i + 7) σ2 S2 H1 locs1 ls hi7 (by omega) I2 (lv_sub hl [1, 2, 3, 0] rfl)
      refine lv_aload_n hx hb dL_law_27 rfl (lv_at hl 0 rfl) ?_
      refine lv_iload_n hx hb dL_law_28 rfl (lv_at hl 3 rfl) ?_
      refine va_sld hx hb hX hbl hbA X.2 (vp_in_nI (by omega) (by omega)) dL_law_29 ?_
      refine lv_bipush (v := (31 : Int32)) hx hb dL_law_30 (by decide) ?_
      refine lv_iand hx hb dL_law_32 ?_
      obtain ⟨t, ht, et⟩ := and31 (xs (nI i).toNatClampNeg)
      refine sd_nmi (x := nI t) et.symm ?_
      rcases (show t = 0 ∨ t = 1 ∨ t = 2 ∨ t = 3 ∨ t = 4 ∨ t = 5 ∨ t = 6 ∨ t = 7 ∨ t = 8 ∨ t = 9 ∨ t = 10 ∨ t = 11 ∨ t = 12 ∨ t = 13 ∨ t = 14 ∨ t = 15 ∨ t = 16 ∨ t = 17 ∨ t = 18 ∨ t = 19 ∨ t = 20 ∨ t = 21 ∨ t = 22 ∨ t = 23 ∨ t = 24 ∨ t = 25 ∨ t = 26 ∨ 26 < t by omega) with rfl | rfl | rfl | rfl | rfl | rfl | rfl | rfl | rfl | rfl | rfl | rfl | rfl | rfl | rfl | rfl | rfl | rfl | rfl | rfl | rfl | rfl | rfl | rfl | rfl | rfl | rfl | ct
      · exact lv_tableIn (off := 123) (tgt := 156) hx hb dL_law_33 (by decide) (by decide) (by decide) (by decide) (lc_0 C B hl I hce kk)
      · exact lv_tableIn (off := 258) (tgt := 291) hx hb dL_law_33 (by decide) (by decide) (by decide) (by decide) (lc_1 C B hl I hce kk)
      · exact lv_tableIn (off := 271) (tgt := 304) hx hb dL_law_33 (by decide) (by decide) (by decide) (by decide) (lc_2 C B hl I hce kk)
      · exact lv_tableIn (off := 310) (tgt := 343) hx hb dL_law_33 (by decide) (by decide) (by decide) (by decide) (lc_3 C B hl I hce kk)
      · exact lv_tableIn (off := 343) (tgt := 376) hx hb dL_law_33 (by decide) (by decide) (by decide) (by decide) (lc_4 C B hl I hce kk)
      · exact lv_tableIn (off := 376) (tgt := 409) hx hb dL_law_33 (by decide) (by decide) (by decide) (by decide) (lc_5 C B hl I hce kk)
      · exact lv_tableIn (off := 409) (tgt := 442) hx hb dL_law_33 (by decide) (by decide) (by decide) (by decide) (lc_6 C B hl I hce kk)
      · exact lv_tableIn (off := 442) (tgt := 475) hx hb dL_law_33 (by decide) (by decide) (by decide) (by decide) (lc_7 C B hl I hce kk)
      · exact lv_tableIn (off := 475) (tgt := 508) hx hb dL_law_33 (by decide) (by decide) (by decide) (by decide) (lc_8 C B hl I hce kk)
      · exact lv_tableIn (off := 508) (tgt := 541) hx hb dL_law_33 (by decide) (by decide) (by decide) (by decide) (lc_9 C B hl I hce kk)
      · exact lv_tableIn (off := 541) (tgt := 574) hx hb dL_law_33 (by decide) (by decide) (by decide) (by decide) (lc_10 C B hl I hce kk)
      · exact lv_tableIn (off := 574) (tgt := 607) hx hb dL_law_33 (by decide) (by decide) (by decide) (by decide) (lc_11 C B hl I hce kk)
      · exact lv_tableIn (off := 607) (tgt := 640) hx hb dL_law_33 (by decide) (by decide) (by decide) (by decide) (lc_12 C B hl I hce kk)
      · exact lv_tableIn (off := 630) (tgt := 663) hx hb dL_law_33 (by decide) (by decide) (by decide) (by decide) (lc_13 C B hl I hce kk)
      · exact lv_tableIn (off := 663) (tgt := 696) hx hb dL_law_33 (by decide) (by decide) (by decide) (by decide) (lc_14 C B hl I hce kk)
      · exact lv_tableIn (off := 726) (tgt := 759) hx hb dL_law_33 (by decide) (by decide) (by decide) (by decide) (lc_15 C B hl I hce kk)
      · exact lv_tableIn (off := 769) (tgt := 802) hx hb dL_law_33 (by decide) (by decide) (by decide) (by decide) (lc_16 C B hl I hce kk)
      · exact lv_tableIn (off := 812) (tgt := 845) hx hb dL_law_33 (by decide) (by decide) (by decide) (by decide) (lc_17 C B hl I hce kk)
      · exact lv_tableIn (off := 875) (tgt := 908) hx hb dL_law_33 (by decide) (by decide) (by decide) (by decide) (lc_18 C B hl I hce kk)
      · exact lv_tableIn (off := 944) (tgt := 977) hx hb dL_law_33 (by decide) (by decide) (by decide) (by decide) (lc_19 C B hl I hce kk)
      · exact lv_tableIn (off := 957) (tgt := 990) hx hb dL_law_33 (by decide) (by decide) (by decide) (by decide) (lc_20 C B hl I hce kk)
      · exact lv_tableIn (off := 970) (tgt := 1003) hx hb dL_law_33 (by decide) (by decide) (by decide) (by decide) (lc_21 C B hl I hce kk)
      · exact lv_tableIn (off := 993) (tgt := 1026) hx hb dL_law_33 (by decide) (by decide) (by decide) (by decide) (lc_22 C B hl I hce kk)
      · exact lv_tableIn (off := 1006) (tgt := 1039) hx hb dL_law_33 (by decide) (by decide) (by decide) (by decide) (lc_23 C B hl I hce kk)
      · exact lv_tableIn (off := 1029) (tgt := 1062) hx hb dL_law_33 (by decide) (by decide) (by decide) (by decide) (lc_24 C B hl I hce kk)
      · exact lv_tableIn (off := 1104) (tgt := 1137) hx hb dL_law_33 (by decide) (by decide) (by decide) (by decide) (lc_25 C B hl I hce kk)
      · exact lv_tableIn (off := 1153) (tgt := 1186) hx hb dL_law_33 (by decide) (by decide) (by decide) (by decide) (lc_26 C B hl I hce kk)
      · have h26 : (26 : Int) < (nI t).toInt := by rw [nI_toInt (by omega)]; omega
        exact lv_tableOut (tgt := 1209) hx hb dL_law_33 (Or.inr h26) (by decide) (kk σ S H locs I)
