set_option maxHeartbeats 4000000 in
set_option maxRecDepth 100000 in
/-- THE LAW, from its entry -/
theorem whole_start {p : Program} {e : Env} {s : State} {m : MethodId} {below : List Frame} {meth : Method} {c : Code} (l : Launch) {b L : Nat} {xs : Nat → Int32} (hL : L ≤ 3584) (C0 : lw_At p s m meth c b L xs) : W p l e room_1 s m #[Value.ref b] below meth c s.heap [] 0 0 (lw_Z below #[Value.ref b] s) (entryFrame m ([Value.ref b] : List Value).toArray 4) := by
  obtain ⟨hx, hb, hr, hml, hown, hts, hX, hbl, hlocks, hgv⟩ := id C0
  have htw : ∀ w ∈ sd_wl, w.before #[Value.ref b] s = true := fun w h => hts w (List.mem_filter.mp h).1
  have hA0 : ∀ a : Nat, a < s.heap.size → ¬ (fun q : Nat => s.heap.size ≤ q) a := fun a h => Nat.not_le.mpr h
  have h5 : va_AO RX5 s := va_AO.of (hts _ ws_o5)
  have h4 : va_AO RX4 s := va_AO.of (hts _ ws_o4)
  obtain ⟨D, cy, hK⟩ := ws_K htw h5 h4
  obtain ⟨b0, hZ, hT⟩ := ws_row hts hgv hA0
  have hN : ∀ w ∈ sd_nest, va_Nw w s := fun w h => va_Nw.of (ws_nestT w h) (hts w (ws_nest w h))
  have C : cn_C RL cL_law 4 D cy (fun q : Nat => s.heap.size ≤ q) p s m #[Value.ref b] meth c := ⟨hx, hb, hml, hown, htw, hK, hN, ⟨h5, h4⟩, fun q h => h⟩
  have hl := lv_entry ([.ref b]) (n := 4) (Nat.le_of_ble_eq_true rfl)
  rw [lg_entry_eq]
  generalize (lg_sl ([.ref b]) ++ List.replicate (4 - (lg_sl ([.ref b])).length) Slot.unset).toArray = ls at hl ⊢
  have hl : lv_has ls 4 [(0, .ref b)] := hl
  have X0 : cn_H D (fun q : Nat => s.heap.size ≤ q) s ([] ++ []) s.heap [] := ⟨fun k q h => by simp at h, ⟨fun i j p q h => by simp at h, fun k q h => by simp at h⟩, va_S.rf⟩
  refine cn_new C X0 (ci := 11) (fs := [.null, .null, .null, .null, .null, .null, .null, .null, .null, .null, .null, .int 0]) (N := 12) rfl sd_inX11 tyX11 tyX11_ok sd_w1_0 sd_w1_1 sd_w1_2 (by decide +kernel) (by decide) (by decide) dL_law_0 (fun q H X0 => ?_)
  have X0 : cn_H D (fun q : Nat => s.heap.size ≤ q) s ([] ++ [(q, .inr (11, [.null, .null, .null, .null, .null, .null, .null, .null, .null, .null, .null, .int 0]))]) H [] := X0
  refine lv_dup hx hb dL_law_3 rfl ?_
  refine cn_go X0 (cn_runI C X0 hl.1 (n := 0) (h0 := q) (As := []) cc_X11_init sd_w1_7 sd_w1_8 sd_w1_2 sd_w1_9 rfl (by decide +kernel) rfl ⟨by decide, by decide, by decide, by decide⟩ rfl (Nat.le_of_ble_eq_true rfl) dL_law_4) (fun u H locs X0 => ?_)
  have X0 : cn_H D (fun q : Nat => s.heap.size ≤ q) s (cn_X11_init cy q u ++ []) H locs := by rw [List.append_nil]; exact X0
  refine lv_astore_n (lv' := [(1, .ref q), (0, .ref b)]) hx hb dL_law_7 rfl hl (by decide) rfl (fun ls hl => ?_)
  refine cn_new C X0 (ci := 12) (fs := [.int 0, .null, .int 0, .int 0, .null, .null, .null, .int 0, .int 0, .null, .null, .null, .null, .int 0, .int 0, .null, .int 0, .null, .null, .null, .int 0, .null, .null, .null, .null, .null, .null, .null, .int 0, .null, .null, .null, .null, .long 0, .null]) (N := 35) rfl sd_inX12 tyX12 tyX12_ok sd_w1_3 sd_w1_4 sd_w1_5 (by decide +kernel) (by decide) (by decide) dL_law_8 (fun q2 H X0 => ?_)
  have X0 : cn_H D (fun q : Nat => s.heap.size ≤ q) s (cn_X11_init cy q u ++ [(q2, .inr (12, [.int 0, .null, .int 0, .int 0, .null, .null, .null, .int 0, .int 0, .null, .null, .null, .null, .int 0, .int 0, .null, .int 0, .null, .null, .null, .int 0, .null, .null, .null, .null, .null, .null, .null, .int 0, .null, .null, .null, .null, .long 0, .null]))]) H locs := X0
  refine lv_dup hx hb dL_law_11 rfl ?_
  refine cn_go X0 (cn_runI C X0 hl.1 (n := 0) (h0 := q2) (As := []) cc_X12_init sd_w7_9 sd_w7_10 sd_w1_5 sd_w7_11 rfl (by decide +kernel) rfl ⟨by decide, by decide, by decide, by decide⟩ rfl (Nat.le_of_ble_eq_true rfl) dL_law_12) (fun u2 H locs X0 => ?_)
  refine lv_astore_n (lv' := [(2, .ref q2), (1, .ref q), (0, .ref b)]) hx hb dL_law_15 rfl hl (by decide) rfl (fun ls hl => ?_)
  refine lv_iconst (v := (0 : Int32)) hx hb dL_law_16 (by decide) ?_
  refine lv_istore_n (lv' := [(3, .int (0 : Int32)), (2, .ref q2), (1, .ref q), (0, .ref b)]) hx hb dL_law_17 rfl hl (by decide) rfl (fun ls hl => ?_)
  obtain ⟨hP, hD, hS⟩ := X0
  obtain ⟨d1, d2⟩ := ws_D hD
  have C1 : sd_C RL cL_law 4 ret D cy (sd_ad0 q q2 u u2) (fun q : Nat => s.heap.size ≤ q) b0 p s m #[Value.ref b] meth c := ⟨hx, hb, hr, hml, hown, htw, hlocks, hK, hN, ⟨hZ, hT⟩, d1, d2⟩
  exact la_loop C1 hX hbl hL ⟨by decide, by decide⟩ (L + 1) 0 sg0 sd_S0 H locs ls (Nat.zero_le L) (by omega) ⟨wf0, ic0, ir0, ws_W hP, hS⟩ (lv_sub hl [3, 2, 1, 0] rfl)
