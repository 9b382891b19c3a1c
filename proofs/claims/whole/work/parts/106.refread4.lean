/-! THE READERS OF THE REFERENCE: stays, secrets -/
/-- a cell that no row counts yet -/
def FREE (T : TW) (a : Nat) : Prop := a < 97 ∧ ((ta T ≤ 12 ∧ ts T ≤ 4 ∧ tn T ≤ 12) ∧ ((52 + 3 * ta T ≤ a ∧ a < 88) ∨ 89 + 2 * ts T ≤ a))
theorem okr_free {S : sd_St} {tp : List Nat} {P : Pst} {tl : List TK} (h : OKr S tp P tl) {a : Nat} (ha : FREE P.1 a) {v : Int32} : OKr (sd_I S 136 (170 + a) v) tp P tl := by
  obtain ⟨f1, ⟨f2, f3, f4⟩, f5⟩ := ha
  refine okr_town h (by omega) ?_ ?_
  · obtain ⟨u1, u2, u3, u4, u5, u6, u7, u8⟩ := h.2.2.2.1
    refine ⟨?_, ?_, ?_, fun p hp => ?_, ?_, fun i hi => ?_, ?_, fun s hs => ?_⟩
    · (try dsimp only); rw [rg_at, if_neg (by omega)]; exact u1
    · (try dsimp only); rw [rg_at, if_neg (by omega)]; exact u2
    · (try dsimp only); rw [rg_at, if_neg (by omega)]; exact u3
    · have hp : p < tn P.1 := hp
      (try dsimp only); rw [rg_at, if_neg (by omega), rg_at, if_neg (by omega), rg_at, if_neg (by omega), rg_at, if_neg (by omega)]; exact u4 p hp
    · (try dsimp only); rw [rg_at, if_neg (by omega)]; exact u5
    · have hi : i < ta P.1 := hi
      (try dsimp only); rw [rg_at, if_neg (by omega), rg_at, if_neg (by omega), rg_at, if_neg (by omega)]; exact u6 i hi
    · (try dsimp only); rw [rg_at, if_neg (by omega)]; exact u7
    · have hs : s < ts P.1 := hs
      (try dsimp only); rw [rg_at, if_neg (by omega), rg_at, if_neg (by omega)]; exact u8 s hs
  · refine ⟨fun p hp hp2 => ?_, ?_⟩
    · have hp : tn P.1 < p := hp
      (try dsimp only); rw [rg_at, if_neg (by omega), rg_at, if_neg (by omega), rg_at, if_neg (by omega)]; exact h.2.2.2.2.1.1 p hp hp2
    · rw [rg_at, if_neg (by omega)]; exact h.2.2.2.2.1.2
theorem str_free {S : sd_St} {tp : List Nat} {P : Pst} {x : Except Nat (List TK)} (h : STr S tp P x) {a : Nat} (ha : FREE P.1 a) {v : Int32} : STr (sd_I S 136 (170 + a) v) tp P x := by
  cases x with
  | error e => exact FLr_136 h
  | ok tl => exact okr_free h ha
theorem n_rAway {S : sd_St} {tp : List Nat} {P : Pst} {t : TK} {r : List TK} (hR : OKR S tp P (t :: r)) (hW : PW P) : ∃ S2, f_X12_readAway S = some ((), S2) ∧ SCR S2 tp (rAway tp.length P (t :: r)) ∧ FRr S S2 := by
  obtain ⟨h, hz⟩ := hR
  have h12 := hW.1.1
  have h4 := hW.1.2.2.2.2.1
  have ha := hW.1.2.2.1
  have h2 : S.1 136 221 = nI (ta P.1) := h.2.2.2.1.2.2.2.2.1
  unfold f_X12_readAway rAway
  rw [show (221 : Int32) = nI 221 from rfl, ldT (by omega), h2]
  by_cases c : ta P.1 = 12
  · obtain ⟨S2, e1, e2, e3⟩ := n_errs h (k := 5) (x := 5) (by decide) (by decide) rfl
    rw [if_pos (by rw [c]; rfl), if_pos c]
    exact ⟨S2, by rw [sd_cl_ok e1], e2, FRb_r e3⟩
  · rw [if_neg (show ¬ nI (ta P.1) = (12 : Int32) from fun z => c (nI_inj (b := 12) (by omega) (by decide) z)), if_neg c]
    have fr0 : FREE P.1 (52 + 3 * ta P.1) := ⟨by omega, ⟨by omega, by omega, by omega⟩, Or.inl ⟨by omega, by omega⟩⟩
    have fr1 : FREE P.1 (52 + 3 * ta P.1 + 1) := ⟨by omega, ⟨by omega, by omega, by omega⟩, Or.inl ⟨by omega, by omega⟩⟩
    have fr2 : FREE P.1 (52 + 3 * ta P.1 + 2) := ⟨by omega, ⟨by omega, by omega, by omega⟩, Or.inl ⟨by omega, by omega⟩⟩
    obtain ⟨k, k1, k2, k3⟩ := okr_next h
    obtain ⟨S3, hS3⟩ : ∃ Sa, Sa = sd_I S 130 7 (nI (k + 1)) := ⟨_, rfl⟩
    rw [← hS3] at k3
    have g3 : FRr S S3 := by rw [hS3]; exact FRr_130 (by omega)
    obtain ⟨v1, S5, a1, a2, a3, a4⟩ := n_takeP (P := P) (x := .ok r) k3
    obtain ⟨S7, hS7⟩ : ∃ Sa, Sa = sd_I S5 136 (170 + (52 + 3 * ta P.1)) v1 := ⟨_, rfl⟩
    have b2 := str_free a2 fr0 (v := v1)
    rw [← hS7] at b2
    obtain ⟨S8, c1, c2, c3⟩ := n_takeW b2 (i := 8) (y := 8) (by decide) rfl
    obtain ⟨v2, S10, d1, d2, d3, d4⟩ := n_takeD c2 (v0 := 0) (least := 0) (by decide) (fun tl _ => rfl)
    obtain ⟨S12, hS12⟩ : ∃ Sa, Sa = sd_I S10 136 (170 + (52 + 3 * ta P.1 + 1)) v2 := ⟨_, rfl⟩
    have e2 := str_free d2 fr1 (v := v2)
    rw [← hS12] at e2
    obtain ⟨S13, f1, f2, f3⟩ := n_takeW e2 (i := 9) (y := 9) (by decide) rfl
    -- the stay's first date
    obtain ⟨X, hX⟩ : ∃ X : Except Nat (Nat × List TK), X = (((Except.ok r : Except Nat (List TK)).bind (fun tl => (sP tp.length P.2.1 tl).map (fun _ => tl.tail))).bind (sW tp.length 8)).bind (sD tp.length 0) := ⟨_, rfl⟩
    rw [← hX] at d4 f2
    have hle : ∃ least, least < 4392 ∧ ∀ z, X = .ok z → z.1 = least := by
      cases hx : X with
      | error e => exact ⟨0, by decide, fun z q => (by cases q)⟩
      | ok z =>
        refine ⟨z.1, ?_, fun y q => (by cases q; rfl)⟩
        rw [hX] at hx
        obtain ⟨y, -, y2⟩ := bind_ok hx
        obtain ⟨a, tl2⟩ := z
        exact (sD_le y2).1
    obtain ⟨least, hl1, hl2⟩ := hle
    have hv2 : ∀ tl, ((X.map (fun y => y.2)).bind (sW tp.length 9)) = .ok tl → v2 = nI least := by
      intro tl q
      obtain ⟨y, y1, -⟩ := bind_ok q
      obtain ⟨z, z1, -⟩ := map_ok y1
      rw [← hl2 z z1]
      obtain ⟨a, tl2⟩ := z
      exact d4 a tl2 z1
    obtain ⟨v3, S16, q1, q2, q3, q4⟩ := n_takeD f2 hl1 hv2
    obtain ⟨S18, hS18⟩ : ∃ Sa, Sa = sd_I S16 136 (170 + (52 + 3 * ta P.1 + 2)) v3 := ⟨_, rfl⟩
    have r2 := str_free q2 fr2 (v := v3)
    rw [← hS18] at r2
    have o5 : S5.1 136 = S.1 136 := by rw [a3.1.1 136 (by decide), hS3, rI_cell (by decide)]
    have o10 : S10.1 136 = S7.1 136 := by rw [d3.1.1 136 (by decide), c3.1.1 136 (by decide)]
    have o16 : S16.1 136 = S12.1 136 := by rw [q3.1.1 136 (by decide), f3.1.1 136 (by decide)]
    have ohi : ∀ j, (j < 52 + 3 * ta P.1 ∨ 52 + 3 * ta P.1 + 2 < j) → S18.1 136 (170 + j) = S.1 136 (170 + j) := by
      intro j hj
      rw [hS18, rg_at, if_neg (by omega), o16, hS12, rg_at, if_neg (by omega), o10, hS7, rg_at, if_neg (by omega), o5]
    have e221 : S18.1 136 221 = nI (ta P.1) := by
      have := ohi 51 (by omega)
      have this : S18.1 136 221 = S.1 136 221 := this
      rw [this, h2]
    have ev4 : (222 : Int32) + (3 : Int32) * nI (ta P.1) = nI (170 + (52 + 3 * ta P.1)) := by
      rw [show (222 : Int32) = nI 222 from rfl, show (3 : Int32) = nI 3 from rfl, nI_mul, nI_add, show 170 + (52 + 3 * ta P.1) = 222 + 3 * ta P.1 by omega]
    have l15 : S13.1 136 (170 + (52 + 3 * ta P.1 + 1)) = v2 := by rw [f3.1.1 136 (by decide), hS12, rI_same]
    refine ⟨sd_I S18 136 (170 + 51) (nI (ta P.1 + 1)), ?_, ?_, ?_⟩
    · rw [k1, nI_1, sd_nm_eq, ← hS3, sd_nm_eq, sd_cl_ok a1, ev4, sd_st_ok (by rw [al136]; omega) (sd_al_lt _), ← hS7, sd_cl_ok c1, sd_cl_ok d1, nI_1, show 170 + (52 + 3 * ta P.1) + 1 = 170 + (52 + 3 * ta P.1 + 1) by omega, sd_st_ok (by rw [al136]; omega) (sd_al_lt _), ← hS12, sd_cl_ok f1, ldT (by omega), l15, sd_cl_ok q1, ixa, show 170 + (52 + 3 * ta P.1) + 2 = 170 + (52 + 3 * ta P.1 + 2) by omega, sd_st_ok (by rw [al136]; omega) (sd_al_lt _), ← hS18, ldT (by omega), e221, nI_1, sd_st_ok (by rw [al136]; omega) (sd_al_lt _)]
    · have er : (sP tp.length P.2.1 (t :: r).tail).bind (fun p => ((sW tp.length 8 (t :: r).tail.tail).bind (sD tp.length 0)).bind (fun x => ((sW tp.length 9 x.2).bind (sD tp.length x.1)).map (fun y => ((addA P.1 p x.1 y.1, P.2.1, P.2.2), y.2)))) = (sP tp.length P.2.1 r).bind (fun p => X.bind (fun x => ((sW tp.length 9 x.2).bind (sD tp.length x.1)).map (fun y => ((addA P.1 p x.1 y.1, P.2.1, P.2.2), y.2)))) := by
        rw [hX]
        show (sP tp.length P.2.1 r).bind _ = _
        cases hs : sP tp.length P.2.1 r with
        | error e => rfl
        | ok p =>
          show _ = ((((sP tp.length P.2.1 r).map (fun _ => r.tail)).bind (sW tp.length 8)).bind (sD tp.length 0)).bind _
          rw [hs]
          rfl
      rw [er]
      cases hs : sP tp.length P.2.1 r with
      | error e =>
        have hXe : X = .error e := by
          rw [hX]
          show (((sP tp.length P.2.1 r).map (fun _ => r.tail)).bind (sW tp.length 8)).bind (sD tp.length 0) = _
          rw [hs]; rfl
        rw [hXe] at r2
        exact FLr_136 r2
      | ok p =>
        have hv1 := a4 r p rfl hs
        have hp := sP_lt hW hs
        show SCR _ tp (X.bind _)
        cases hx : X with
        | error e =>
          rw [hx] at r2
          exact FLr_136 r2
        | ok z =>
          obtain ⟨f, t2⟩ := z
          have hf := d4 f t2 hx
          have hlf : f = least := hl2 (f, t2) hx
          subst hlf
          rw [hx] at r2 q4
          have r2 : STr S18 tp P (((sW tp.length 9 t2).bind (sD tp.length f)).map (fun y => y.2)) := r2
          have q4 : ∀ a tl2, (sW tp.length 9 t2).bind (sD tp.length f) = .ok (a, tl2) → v3 = nI a := q4
          show SCR _ tp (((sW tp.length 9 t2).bind (sD tp.length f)).map _)
          cases hy : (sW tp.length 9 t2).bind (sD tp.length f) with
          | error e =>
            rw [hy] at r2
            exact FLr_136 r2
          | ok y =>
            obtain ⟨u, t3⟩ := y
            rw [hy] at r2
            have r2 : OKr S18 tp P t3 := r2
            have hu := q4 u t3 hy
            show OKR _ tp (addA P.1 p f u, P.2.1, P.2.2) t3
            obtain ⟨w1, w2, w3, w4, w5, w6, w7, w8⟩ := r2.2.2.2.1
            have n0 : tn (addA P.1 p f u) = tn P.1 := rfl
            have c0 : S18.1 136 (170 + (52 + 3 * ta P.1)) = nI p := by rw [hS18, rg_at, if_neg (by omega), o16, hS12, rg_at, if_neg (by omega), o10, hS7, rI_same, hv1]
            have c1' : S18.1 136 (170 + (52 + 3 * ta P.1 + 1)) = nI f := by rw [hS18, rg_at, if_neg (by omega), o16, hS12, rI_same, hf]
            have c2' : S18.1 136 (170 + (52 + 3 * ta P.1 + 2)) = nI u := by rw [hS18, rI_same, hu]
            refine ⟨okr_town r2 (by omega) ?_ ?_, fun hn => ?_⟩
            · refine ⟨?_, ?_, ?_, fun q hq => ?_, ?_, fun i hi => ?_, ?_, fun s hs => ?_⟩
              · (try dsimp only); rw [rg_at, if_neg (by omega)]; exact w1
              · (try dsimp only); rw [rg_at, if_neg (by omega)]; exact w2
              · (try dsimp only); rw [rg_at, if_neg (by omega)]; exact w3
              · have hq : q < tn P.1 := hq
                (try dsimp only); rw [rg_at, if_neg (by omega), rg_at, if_neg (by omega), rg_at, if_neg (by omega), rg_at, if_neg (by omega)]; exact w4 q hq
              · (try dsimp only); rw [rg_at, if_pos rfl, addA_n]
              · rw [addA_n] at hi
                obtain ⟨y1, y2, y3⟩ := addA_r P.1 p f u i
                (try dsimp only)
                rw [rg_at, if_neg (by omega), rg_at, if_neg (by omega), rg_at, if_neg (by omega), y1, y2, y3]
                by_cases ci : i = ta P.1
                · rw [if_pos ci, if_pos ci, if_pos ci, ci]; exact ⟨c0, c1', c2'⟩
                · rw [if_neg ci, if_neg ci, if_neg ci]; exact w6 i (by omega)
              · (try dsimp only); rw [rg_at, if_neg (by omega)]; exact w7
              · have hs : s < ts P.1 := hs
                (try dsimp only); rw [rg_at, if_neg (by omega), rg_at, if_neg (by omega)]; exact w8 s hs
            · refine ⟨fun q hq hq2 => ?_, ?_⟩
              · have hq : tn P.1 < q := hq
                rw [rg_at, if_neg (by omega), rg_at, if_neg (by omega), rg_at, if_neg (by omega)]; exact r2.2.2.2.2.1.1 q hq hq2
              · rw [rg_at, if_neg (by omega)]; exact r2.2.2.2.2.1.2
            · have hn : tn P.1 < 12 := hn
              show (sd_I S18 136 (170 + 51) (nI (ta P.1 + 1))).1 136 (170 + (3 + 4 * tn P.1 + 1)) = 0 ∧ (sd_I S18 136 (170 + 51) (nI (ta P.1 + 1))).1 136 (170 + (3 + 4 * tn P.1 + 2)) = 0 ∧ (sd_I S18 136 (170 + 51) (nI (ta P.1 + 1))).1 136 (170 + (3 + 4 * tn P.1 + 3)) = 0
              rw [rg_at, if_neg (by omega), rg_at, if_neg (by omega), rg_at, if_neg (by omega), ohi _ (by omega), ohi _ (by omega), ohi _ (by omega)]
              exact hz hn
    · exact FRr_trans g3 (FRr_trans (FRb_r a3) (FRr_trans (by rw [hS7]; exact FRr_136 (by omega)) (FRr_trans (FRb_r c3) (FRr_trans (FRb_r d3) (FRr_trans (by rw [hS12]; exact FRr_136 (by omega)) (FRr_trans (FRb_r f3) (FRr_trans (FRb_r q3) (FRr_trans (by rw [hS18]; exact FRr_136 (by omega)) (FRr_136 (by omega))))))))))
/-- a secret's own name is nobody's -/
theorem sP_app (L : Nat) (RN : NL) (w : List Nat) (s : Nat) (tl : List TK) : sP L (RN ++ [(w, 12 + s)]) tl = sP L RN tl := by
  unfold sP
  by_cases c : isNm tl = true
  · rw [if_pos c, if_pos c]
    unfold lk
    rw [List.find?_append]
    cases hf : RN.find? (fun x => x.1 == hdw tl) with
    | some y => rfl
    | none =>
      rw [Option.none_or]
      by_cases c2 : w = hdw tl
      · rw [List.find?_cons_of_pos (by simpa using c2)]
        show (if 12 + s < 12 then _ else _) = _
        rw [if_neg (by omega)]
        rfl
      · rw [List.find?_cons_of_neg (by simpa using c2)]
        rfl
  · rw [if_neg c, if_neg c]
theorem n_rSecret {S : sd_St} {tp : List Nat} {P : Pst} {t : TK} {r : List TK} (hR : OKR S tp P (t :: r)) (hW : PW P) : ∃ S2, f_X12_readSecret S = some ((), S2) ∧ SCR S2 tp (rSecret tp.length P (t :: r)) ∧ FRr S S2 := by
  obtain ⟨h, hz⟩ := hR
  have h12 := hW.1.1
  have h4 := hW.1.2.2.2.2.1
  have ha := hW.1.2.2.1
  have hlen := hW.2.2.1.2.2.2.2.1
  have h2 : S.1 136 258 = nI (ts P.1) := h.2.2.2.1.2.2.2.2.2.2.1
  unfold f_X12_readSecret rSecret
  rw [show (258 : Int32) = nI 258 from rfl, ldT (by omega), h2]
  by_cases c : ts P.1 = 4
  · obtain ⟨S2, e1, e2, e3⟩ := n_errs h (k := 5) (x := 5) (by decide) (by decide) rfl
    rw [if_pos (by rw [c]; rfl), if_pos c]
    exact ⟨S2, by rw [sd_cl_ok e1], e2, FRb_r e3⟩
  · rw [if_neg (show ¬ nI (ts P.1) = (4 : Int32) from fun z => c (nI_inj (b := 4) (by omega) (by decide) z)), if_neg c]
    have fr0 : FREE P.1 (89 + 2 * ts P.1) := ⟨by omega, ⟨by omega, by omega, by omega⟩, Or.inr (by omega)⟩
    have fr1 : FREE P.1 (89 + 2 * ts P.1 + 1) := ⟨by omega, ⟨by omega, by omega, by omega⟩, Or.inr (by omega)⟩
    obtain ⟨k, k1, k2, k3⟩ := okr_next h
    obtain ⟨S3, hS3⟩ : ∃ Sa, Sa = sd_I S 130 7 (nI (k + 1)) := ⟨_, rfl⟩
    rw [← hS3] at k3
    have g3 : FRr S S3 := by rw [hS3]; exact FRr_130 (by omega)
    obtain ⟨S4, a1, a2, a3, a4, a5⟩ := n_readName k3 (wh := 12 + ts P.1) (by omega) (by omega)
    have e12 : (12 : Int32) + nI (ts P.1) = nI (12 + ts P.1) := by rw [show (12 : Int32) = nI 12 from rfl, nI_add]
    have ev4 : (259 : Int32) + (2 : Int32) * nI (ts P.1) = nI (170 + (89 + 2 * ts P.1)) := by
      rw [show (259 : Int32) = nI 259 from rfl, show (2 : Int32) = nI 2 from rfl, nI_mul, nI_add, show 170 + (89 + 2 * ts P.1) = 259 + 2 * ts P.1 by omega]
    -- from the name on
    have hgo : ∀ (x : Except Nat (List TK)) (P' : Pst), P'.1 = P.1 → STr S4 tp P' x → ∃ S2 v1 v2, sd_cl (f_X12_takeWord (11 : Int32) S4) (fun _ S_6 => sd_nm (((259 : Int32) + ((2 : Int32) * nI (ts P.1)))) (fun v_8 => sd_cl (f_X12_takePerson S_6) (fun r_10 S_9 => sd_st S_9 136 v_8 r_10 (fun S_11 => sd_cl (f_X12_takeWord (8 : Int32) S_11) (fun _ S_12 => sd_cl (f_X12_takeDate (0 : Int32) S_12) (fun r_15 S_14 => sd_st S_14 136 (v_8 + (1 : Int32)) r_15 (fun S_16 => sd_ld S_16 136 (nI 258) (fun v_17 => sd_st S_16 136 (nI 258) (v_17 + (1 : Int32)) (fun S_18 => (some ((), S_18))))))))))) = some ((), sd_I S2 136 (170 + 88) (nI (ts P.1 + 1))) ∧ STr S2 tp P' (((((x.bind (sW tp.length 11)).bind (fun tl => (sP tp.length P'.2.1 tl).map (fun _ => tl.tail))).bind (sW tp.length 8)).bind (sD tp.length 0)).map (fun y => y.2)) ∧ FRr S S2 ∧ (∀ j, (j < 89 + 2 * ts P.1 ∨ 89 + 2 * ts P.1 + 1 < j) → S2.1 136 (170 + j) = S.1 136 (170 + j)) ∧ S2.1 136 (170 + (89 + 2 * ts P.1)) = v1 ∧ S2.1 136 (170 + (89 + 2 * ts P.1 + 1)) = v2 ∧ (∀ tl p, x.bind (sW tp.length 11) = .ok tl → sP tp.length P'.2.1 tl = .ok p → v1 = nI p) ∧ ∀ a tl2, (((x.bind (sW tp.length 11)).bind (fun tl => (sP tp.length P'.2.1 tl).map (fun _ => tl.tail))).bind (sW tp.length 8)).bind (sD tp.length 0) = .ok (a, tl2) → v2 = nI a := by
      intro x P' hP' hx
      obtain ⟨S6, b1, b2, b3⟩ := n_takeW hx (i := 11) (y := 11) (by decide) rfl
      obtain ⟨v1, S9, c1, c2, c3, c4⟩ := n_takeP b2
      obtain ⟨S11, hS11⟩ : ∃ Sa, Sa = sd_I S9 136 (170 + (89 + 2 * ts P.1)) v1 := ⟨_, rfl⟩
      have d2 := str_free c2 (by rw [hP']; exact fr0) (v := v1)
      rw [← hS11] at d2
      obtain ⟨S12, e1, e2, e3⟩ := n_takeW d2 (i := 8) (y := 8) (by decide) rfl
      obtain ⟨v2, S14, f1, f2, f3, f4⟩ := n_takeD e2 (v0 := 0) (least := 0) (by decide) (fun tl _ => rfl)
      obtain ⟨S16, hS16⟩ : ∃ Sa, Sa = sd_I S14 136 (170 + (89 + 2 * ts P.1 + 1)) v2 := ⟨_, rfl⟩
      have q2 := str_free f2 (by rw [hP']; exact fr1) (v := v2)
      rw [← hS16] at q2
      have o9 : S9.1 136 = S.1 136 := by rw [c3.1.1 136 (by decide), b3.1.1 136 (by decide), a3, hS3, rI_cell (by decide)]
      have o14 : S14.1 136 = S11.1 136 := by rw [f3.1.1 136 (by decide), e3.1.1 136 (by decide)]
      have ohi : ∀ j, (j < 89 + 2 * ts P.1 ∨ 89 + 2 * ts P.1 + 1 < j) → S16.1 136 (170 + j) = S.1 136 (170 + j) := by
        intro j hj
        rw [hS16, rg_at, if_neg (by omega), o14, hS11, rg_at, if_neg (by omega), o9]
      have e258 : S16.1 136 258 = nI (ts P.1) := by
        have := ohi 88 (by omega)
        have this : S16.1 136 258 = S.1 136 258 := this
        rw [this, h2]
      refine ⟨S16, v1, v2, ?_, q2, ?_, ohi, ?_, ?_, c4, f4⟩
      · rw [sd_cl_ok b1, sd_nm_eq, sd_cl_ok c1, ev4, sd_st_ok (by rw [al136]; omega) (sd_al_lt _), ← hS11, sd_cl_ok e1, sd_cl_ok f1, nI_1, show 170 + (89 + 2 * ts P.1) + 1 = 170 + (89 + 2 * ts P.1 + 1) by omega, sd_st_ok (by rw [al136]; omega) (sd_al_lt _), ← hS16, ldT (by omega), e258, nI_1, sd_st_ok (by rw [al136]; omega) (sd_al_lt _)]
      · exact FRr_trans g3 (FRr_trans a2 (FRr_trans (FRb_r b3) (FRr_trans (FRb_r c3) (FRr_trans (by rw [hS11]; exact FRr_136 (by omega)) (FRr_trans (FRb_r e3) (FRr_trans (FRb_r f3) (by rw [hS16]; exact FRr_136 (by omega))))))))
      · rw [hS16, rg_at, if_neg (by omega), o14, hS11, rI_same]
      · rw [hS16, rI_same]
    rw [k1, nI_1, sd_nm_eq, ← hS3, e12, sd_cl_ok a1]
    show ∃ S2, _ ∧ SCR S2 tp ((sNew tp.length P.2.1 r).bind _) ∧ _
    cases hs : sNew tp.length P.2.1 r with
    | error e =>
      obtain ⟨S2, v1, v2, q1, q2, q3, -⟩ := hgo (.error e) P rfl (a5 e hs)
      exact ⟨_, q1, FLr_136 q2, FRr_trans q3 (FRr_136 (by omega))⟩
    | ok z =>
      obtain ⟨w, t1⟩ := z
      obtain ⟨S2, v1, v2, q1, q2, q3, q4, q5, q6, q7, q8⟩ := hgo (.ok t1) (P.1, P.2.1 ++ [(w, 12 + ts P.1)], P.2.2) rfl (a4 w t1 hs)
      refine ⟨_, q1, ?_, FRr_trans q3 (FRr_136 (by omega))⟩
      show SCR _ tp ((sW tp.length 11 t1).bind _)
      have q2 : STr S2 tp _ (((((sW tp.length 11 t1).bind (fun tl => (sP tp.length (P.2.1 ++ [(w, 12 + ts P.1)]) tl).map (fun _ => tl.tail))).bind (sW tp.length 8)).bind (sD tp.length 0)).map (fun y => y.2)) := q2
      have q7 : ∀ tl p, sW tp.length 11 t1 = .ok tl → sP tp.length (P.2.1 ++ [(w, 12 + ts P.1)]) tl = .ok p → v1 = nI p := q7
      have q8 : ∀ a tl2, (((sW tp.length 11 t1).bind (fun tl => (sP tp.length (P.2.1 ++ [(w, 12 + ts P.1)]) tl).map (fun _ => tl.tail))).bind (sW tp.length 8)).bind (sD tp.length 0) = .ok (a, tl2) → v2 = nI a := q8
      cases h1 : sW tp.length 11 t1 with
      | error e =>
        rw [h1] at q2
        exact FLr_136 q2
      | ok t2 =>
        rw [h1] at q2 q8
        have q7 := q7 t2
        have q2 : STr S2 tp _ (((((sP tp.length (P.2.1 ++ [(w, 12 + ts P.1)]) t2).map (fun _ => t2.tail)).bind (sW tp.length 8)).bind (sD tp.length 0)).map (fun y => y.2)) := q2
        have q8 : ∀ a tl2, (((sP tp.length (P.2.1 ++ [(w, 12 + ts P.1)]) t2).map (fun _ => t2.tail)).bind (sW tp.length 8)).bind (sD tp.length 0) = .ok (a, tl2) → v2 = nI a := q8
        rw [sP_app] at q2 q7 q8
        show SCR _ tp ((sP tp.length P.2.1 t2).bind _)
        cases h3 : sP tp.length P.2.1 t2 with
        | error e =>
          rw [h3] at q2
          exact FLr_136 q2
        | ok p =>
          have hv1 := q7 p h1 h3
          rw [h3] at q2 q8
          have q2 : STr S2 tp _ (((sW tp.length 8 t2.tail).bind (sD tp.length 0)).map (fun y => y.2)) := q2
          have q8 : ∀ a tl2, (sW tp.length 8 t2.tail).bind (sD tp.length 0) = .ok (a, tl2) → v2 = nI a := q8
          show SCR _ tp (((sW tp.length 8 t2.tail).bind (sD tp.length 0)).map _)
          cases h5 : (sW tp.length 8 t2.tail).bind (sD tp.length 0) with
          | error e =>
            rw [h5] at q2
            exact FLr_136 q2
          | ok y =>
            obtain ⟨x, t3⟩ := y
            have hv2 := q8 x t3 h5
            rw [h5] at q2
            have r2 : OKr S2 tp (P.1, P.2.1 ++ [(w, 12 + ts P.1)], P.2.2) t3 := q2
            show OKR _ tp (addS P.1 p x, P.2.1 ++ [(w, 12 + ts P.1)], P.2.2) t3
            obtain ⟨w1, w2, w3, w4, w5, w6, w7, w8⟩ := r2.2.2.2.1
            refine ⟨okr_town r2 (by omega) ?_ ?_, fun hn => ?_⟩
            · refine ⟨?_, ?_, ?_, fun q hq => ?_, ?_, fun i hi => ?_, ?_, fun s hs => ?_⟩
              · (try dsimp only); rw [rg_at, if_neg (by omega)]; exact w1
              · (try dsimp only); rw [rg_at, if_neg (by omega)]; exact w2
              · (try dsimp only); rw [rg_at, if_neg (by omega)]; exact w3
              · have hq : q < tn P.1 := hq
                (try dsimp only); rw [rg_at, if_neg (by omega), rg_at, if_neg (by omega), rg_at, if_neg (by omega), rg_at, if_neg (by omega)]; exact w4 q hq
              · (try dsimp only); rw [rg_at, if_neg (by omega)]; exact w5
              · have hi : i < ta P.1 := hi
                (try dsimp only); rw [rg_at, if_neg (by omega), rg_at, if_neg (by omega), rg_at, if_neg (by omega)]; exact w6 i hi
              · (try dsimp only); rw [rg_at, if_pos rfl, addS_n]
              · rw [addS_n] at hs
                obtain ⟨y1, y2⟩ := addS_r P.1 p x s
                (try dsimp only)
                rw [rg_at, if_neg (by omega), rg_at, if_neg (by omega), y1, y2]
                by_cases ci : s = ts P.1
                · rw [if_pos ci, if_pos ci, ci, q5, q6]; exact ⟨hv1, hv2⟩
                · rw [if_neg ci, if_neg ci]; exact w8 s (by show s < ts P.1; omega)
            · refine ⟨fun q hq hq2 => ?_, ?_⟩
              · have hq : tn P.1 < q := hq
                rw [rg_at, if_neg (by omega), rg_at, if_neg (by omega), rg_at, if_neg (by omega)]; exact r2.2.2.2.2.1.1 q hq hq2
              · rw [rg_at, if_neg (by omega)]; exact r2.2.2.2.2.1.2
            · have hn : tn P.1 < 12 := hn
              show (sd_I S2 136 (170 + 88) (nI (ts P.1 + 1))).1 136 (170 + (3 + 4 * tn P.1 + 1)) = 0 ∧ (sd_I S2 136 (170 + 88) (nI (ts P.1 + 1))).1 136 (170 + (3 + 4 * tn P.1 + 2)) = 0 ∧ (sd_I S2 136 (170 + 88) (nI (ts P.1 + 1))).1 136 (170 + (3 + 4 * tn P.1 + 3)) = 0
              rw [rg_at, if_neg (by omega), rg_at, if_neg (by omega), rg_at, if_neg (by omega), q4 _ (by omega), q4 _ (by omega), q4 _ (by omega)]
              exact hz hn
