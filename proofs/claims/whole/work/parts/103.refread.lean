/-! THE READERS OF THE REFERENCE -/
theorem n_personHere {S : sd_St} {tp : List Nat} {P : Pst} {tl : List TK} (h : OKr S tp P tl) : ∃ v S2, f_X12_personHere S = some (v, S2) ∧ FRb S S2 ∧ (∀ p, sP tp.length P.2.1 tl = .ok p → v = nI p ∧ S2 = S) ∧ ∀ e, sP tp.length P.2.1 tl = .error e → v = -1 ∧ FLr S2 e := by
  unfold f_X12_personHere f_X12_personHere_b29 sP
  rw [sd_cl_ok (n_isName h)]
  have hN := h.2.2.2.2.2.2.2
  cases c : isNm tl with
  | false =>
    obtain ⟨S2, e1, e2, e3⟩ := n_errs h (k := 1) (x := 1) (by decide) (by decide) rfl
    refine ⟨-1, S2, ?_, e3, fun p z => (by cases z), fun e z => (by cases z; exact ⟨rfl, e2⟩)⟩
    rw [if_pos (by decide), sd_cl_ok e1]
  | true =>
    rw [if_neg (by decide), sd_cl_ok (n_find0 h c), if_pos rfl]
    cases hl : lk P.2.1 (hdw tl) with
    | none =>
      obtain ⟨S2, e1, e2, e3⟩ := n_errs h (k := 2) (x := 2) (by decide) (by decide) rfl
      refine ⟨-1, S2, ?_, e3, fun p z => (by cases z), fun e z => (by cases z; exact ⟨rfl, e2⟩)⟩
      rw [if_pos (show lkI none < 0 from by decide), sd_cl_ok e1]
    | some v =>
      have hv := (hN.2 _ v (lk_some hl)).2
      rw [if_neg (show ¬ lkI (some v) < 0 from nI_pos (by omega))]
      by_cases c2 : v < 12
      · rw [if_pos (show lkI (some v) < (12 : Int32) from nI_lt (b := 12) c2 (by decide))]
        refine ⟨nI v, S, rfl, FRb_rfl, fun p z => ?_, fun e z => ?_⟩
        · have z : (if v < 12 then Except.ok v else Except.error (flt 2 tp.length tl)) = (Except.ok p : Except Nat Nat) := z
          rw [if_pos c2] at z; cases z; exact ⟨rfl, rfl⟩
        · have z : (if v < 12 then Except.ok v else Except.error (flt 2 tp.length tl)) = (Except.error e : Except Nat Nat) := z
          rw [if_pos c2] at z; cases z
      · obtain ⟨S2, e1, e2, e3⟩ := n_errs h (k := 2) (x := 2) (by decide) (by decide) rfl
        rw [if_neg (show ¬ lkI (some v) < (12 : Int32) from nI_nlt (b := 12) (by omega) (by omega))]
        refine ⟨-1, S2, by rw [sd_cl_ok e1], e3, fun p z => ?_, fun e z => ?_⟩
        · have z : (if v < 12 then Except.ok v else Except.error (flt 2 tp.length tl)) = (Except.ok p : Except Nat Nat) := z
          rw [if_neg c2] at z; cases z
        · have z : (if v < 12 then Except.ok v else Except.error (flt 2 tp.length tl)) = (Except.error e : Except Nat Nat) := z
          rw [if_neg c2] at z; cases z; exact ⟨rfl, e2⟩
theorem FLr_7 {S : sd_St} {e : Nat} {v : Int32} (h : FLr S e) : FLr (sd_I S 130 7 v) e := ⟨by rw [rI_oth (by decide)]; exact h.1, h.2⟩
theorem n_takeP {S : sd_St} {tp : List Nat} {P : Pst} {x : Except Nat (List TK)} (h : STr S tp P x) : ∃ v S2, f_X12_takePerson S = some (v, S2) ∧ STr S2 tp P (x.bind (fun tl => (sP tp.length P.2.1 tl).map (fun _ => tl.tail))) ∧ FRb S S2 ∧ ∀ tl p, x = .ok tl → sP tp.length P.2.1 tl = .ok p → v = nI p := by
  unfold f_X12_takePerson f_X12_takePerson_b15 f_X12_takePerson_b30
  cases x with
  | error e =>
    have h : FLr S e := h
    refine ⟨-1, _, ?_, FLr_7 (v := S.1 130 7 + 0) h, FRb_130 (by omega), fun tl p z => (by cases z)⟩
    rw [if_neg (FLr_nle h), if_neg (by decide), sd_nm_eq]
  | ok tl =>
    have h : OKr S tp P tl := h
    show ∃ v S2, _ ∧ STr S2 tp P ((sP tp.length P.2.1 tl).map (fun _ => tl.tail)) ∧ _ ∧ _
    obtain ⟨v, S2, e1, e2, e3, e4⟩ := n_personHere h
    rw [h.2.1, if_pos (by decide), sd_cl_ok e1]
    cases hs : sP tp.length P.2.1 tl with
    | error e =>
      obtain ⟨q1, q2⟩ := e4 e hs
      refine ⟨-1, _, ?_, FLr_7 (v := S2.1 130 7 + 0) q2, FRb_trans e2 (FRb_130 (by omega)), fun tl' p z1 z2 => ?_⟩
      · rw [q1, if_neg (by decide), sd_nm_eq]
      · cases z1; rw [hs] at z2; cases z2
    | ok p =>
      obtain ⟨q1, q2⟩ := e3 p hs
      subst q2
      have hp12 := (sP_mem hs).1
      obtain ⟨t, r, rfl⟩ := sP_cons hs
      obtain ⟨k, k1, k2, k3⟩ := okr_next h
      refine ⟨nI p, _, ?_, k3, FRb_130 (by omega), fun tl' p' z1 z2 => ?_⟩
      · rw [q1, if_pos (nI_pos' (by omega)), k1, nI_1, sd_nm_eq]
      · cases z1; rw [hs] at z2; cases z2; rfl
theorem n_readName {S : sd_St} {tp : List Nat} {P : Pst} {tl : List TK} (h : OKr S tp P tl) {wh : Nat} (hwh : wh < 16) (hl : P.2.1.length < 16) : ∃ S2, f_X12_readName (nI wh) S = some ((), S2) ∧ FRr S S2 ∧ S2.1 136 = S.1 136 ∧ (∀ w t1, sNew tp.length P.2.1 tl = .ok (w, t1) → OKr S2 tp (P.1, P.2.1 ++ [(w, wh)], P.2.2) t1) ∧ ∀ e, sNew tp.length P.2.1 tl = .error e → FLr S2 e := by
  have hb : ∀ (S : sd_St) (e : Nat), FLr S e → f_X12_readName_b27 (nI wh) S = some ((), S) := by
    intro S e h
    unfold f_X12_readName_b27
    rw [if_neg (FLr_n0 h)]
  unfold f_X12_readName sNew
  rw [sd_cl_ok (n_isName h)]
  have hN := h.2.2.2.2.2.2.2
  cases c : isNm tl with
  | false =>
    obtain ⟨S2, e1, e2, e3⟩ := n_errs h (k := 1) (x := 1) (by decide) (by decide) rfl
    refine ⟨S2, ?_, FRb_r e3, e3.1.1 136 (by decide), fun w t1 z => (by cases z), fun e z => (by cases z; exact e2)⟩
    rw [if_pos (by decide), sd_cl_ok e1, hb S2 _ e2]
  | true =>
    rw [if_neg (by decide), sd_cl_ok (n_find0 h c), if_pos rfl]
    cases hlk : lk P.2.1 (hdw tl) with
    | some v =>
      have hv := (hN.2 _ v (lk_some hlk)).2
      obtain ⟨S2, e1, e2, e3⟩ := n_errs h (k := 3) (x := 3) (by decide) (by decide) rfl
      refine ⟨S2, ?_, FRb_r e3, e3.1.1 136 (by decide), fun w t1 z => (by cases z), fun e z => (by cases z; exact e2)⟩
      rw [if_neg (show ¬ lkI (some v) < 0 from nI_pos (by omega)), sd_cl_ok e1, hb S2 _ e2]
    | none =>
      rw [if_pos (show lkI none < 0 from by decide)]
      obtain ⟨t, r, rfl, ht⟩ := isNm_cons c
      obtain ⟨k, k1, k2, k3, k4, k5⟩ := okr_at h
      obtain ⟨⟨-, q⟩, hk⟩ := k5 t r rfl
      have hw := okW_of (okr_ok h t List.mem_cons_self).1 ht
      have hv : S.2 134 k = wR t.2.2 := by
        rcases q with ⟨q1, q2, q3⟩ | ⟨q1, -⟩ | ⟨q1, -⟩ | ⟨q1, -⟩
        · exact q3
        · omega
        · omega
        · omega
      obtain ⟨k', k1', k2', k3'⟩ := okr_next h
      have hkk : k' = k := nI_inj (by omega) (by omega) (by rw [← k1', k1])
      subst hkk
      have h13 := h.2.2.2.2.2.1.1
      obtain ⟨A1, hA1⟩ : ∃ A, A = sd_L S 137 P.2.1.length (wR t.2.2) := ⟨_, rfl⟩
      obtain ⟨A2, hA2⟩ : ∃ A, A = sd_I A1 138 P.2.1.length (nI wh) := ⟨_, rfl⟩
      obtain ⟨A3, hA3⟩ : ∃ A, A = sd_I A2 130 13 (nI (P.2.1.length + 1)) := ⟨_, rfl⟩
      obtain ⟨A4, hA4⟩ : ∃ A, A = sd_I A3 130 7 (nI (k' + 1)) := ⟨_, rfl⟩
      have e13a : A1.1 130 13 = nI P.2.1.length := by rw [hA1]; exact h13
      have e13b : A2.1 130 13 = nI P.2.1.length := by rw [hA2, rI_cell (by decide)]; exact e13a
      have e7 : A3.1 130 7 = nI k' := by rw [hA3, rI_oth (by decide), hA2, rI_cell (by decide), hA1]; exact k1
      have fr : FRr S A4 := by
        rw [hA4, hA3, hA2, hA1]
        refine FRr_trans (FRr_trans (FRr_trans ⟨frm_L (by omega), fun _ _ => rfl, fun _ _ _ _ _ => rfl⟩ ⟨frm_I (by omega), fun j _ => by rw [rI_cell (by decide)], fun j _ _ _ _ => by rw [rI_cell (by decide)]⟩) (FRr_130 (by omega))) (FRr_130 (by omega))
      refine ⟨A4, ?_, fr, ?_, fun w t1 z => ?_, fun e z => (by cases z)⟩
      · unfold f_X12_readName_b27
        rw [h.2.1, if_pos rfl, k1, sd_ldl_ok (by rw [al134]; omega) (sd_al_lt _), hv, h13, sd_stl_ok (by rw [al137]; omega) (sd_al_lt _), ← hA1, e13a, sd_st_ok (by rw [al138]; omega) (sd_al_lt _), ← hA2, e13b, nI_1, sd_nm_eq, ← hA3, e7, nI_1, sd_nm_eq, ← hA4]
      · rw [hA4, rI_cell (by decide), hA3, rI_cell (by decide), hA2, rI_cell (by decide), hA1]
        rfl
      · have z : (Except.ok (t.2.2, r) : Except Nat (List Nat × List TK)) = .ok (w, t1) := z
        cases z
        have h3 := k3'
        obtain ⟨a1, a2, a3, a4, a5, a6, a7, a8⟩ := h
        obtain ⟨-, -, ⟨k2', b1, b2, b3⟩, -⟩ := h3
        have e136 : A4.1 136 = S.1 136 := by
          rw [hA4, rI_cell (by decide), hA3, rI_cell (by decide), hA2, rI_cell (by decide), hA1]
          rfl
        refine ⟨AT_fr a1 fr, ?_, ⟨k2', ?_, b2, b3⟩, ?_, ?_, ⟨?_, fun j w v hj => ?_⟩, ?_, ?_⟩
        · rw [hA4, rI_oth (by decide), hA3, rI_oth (by decide), hA2, rI_cell (by decide), hA1]; exact a2
        · rw [rI_same] at b1
          rw [hA4, rI_same, b1]
        · rw [e136]; exact a4
        · rw [e136]; exact a5
        · rw [hA4, rI_oth (by decide), hA3, rI_same]
          show _ = nI (P.2.1 ++ [(t.2.2, wh)]).length
          rw [List.length_append]; rfl
        · have hj : (P.2.1 ++ [(t.2.2, wh)])[j]? = some (w, v) := hj
          have l137 : ∀ i, A4.2 137 i = if i = P.2.1.length then wR t.2.2 else S.2 137 i := by
            intro i
            rw [hA4, hA3, hA2]
            show A1.2 137 i = _
            rw [hA1, rL]
            simp
          have l138 : ∀ i, A4.1 138 i = if i = P.2.1.length then nI wh else S.1 138 i := by
            intro i
            rw [hA4, rI_cell (by decide), hA3, rI_cell (by decide), hA2, rI, hA1]
            simp
            rfl
          rw [l137, l138]
          by_cases cj : j < P.2.1.length
          · rw [List.getElem?_append_left cj] at hj
            rw [if_neg (by omega), if_neg (by omega)]
            exact a6.2 j w v hj
          · rw [List.getElem?_append_right (by omega)] at hj
            have : j - P.2.1.length = 0 := by
              rcases Nat.eq_zero_or_pos (j - P.2.1.length) with q | q
              · exact q
              · rw [List.getElem?_eq_none (by simp; omega)] at hj; cases hj
            rw [this] at hj
            have hj : (t.2.2, wh) = (w, v) := by simpa using hj
            cases hj
            rw [if_pos (by omega), if_pos (by omega)]
            exact ⟨rfl, rfl⟩
        · rw [hA4, rI_oth (by decide), hA3, rI_oth (by decide), hA2, rI_cell (by decide), hA1]; exact a7
        · refine ⟨by rw [List.length_append]; simp; omega, fun w v hm => ?_⟩
          rcases List.mem_append.mp hm with q | q
          · exact a8.2 w v q
          · have q := List.mem_singleton.mp q
            cases q
            exact ⟨hw, hwh⟩
theorem n_takeD {S : sd_St} {tp : List Nat} {P : Pst} {x : Except Nat (List TK)} (h : STr S tp P x) {v0 : Int32} {least : Nat} (hl : least < 4392) (hv0 : ∀ tl, x = .ok tl → v0 = nI least) : ∃ v S2, f_X12_takeDate v0 S = some (v, S2) ∧ STr S2 tp P ((x.bind (sD tp.length least)).map (fun y => y.2)) ∧ FRb S S2 ∧ ∀ a tl2, x.bind (sD tp.length least) = .ok (a, tl2) → v = nI a := by
  obtain ⟨r, S1, e1, e2, e3, e4, e5⟩ := n_takeN h (m := 11) (y := 11) (by decide) rfl
  have hb71 : ∀ (S1 : sd_St) (u : Int32) (e : Nat), FLr S1 e → ∃ v, f_X12_takeDate_b71 u S1 = some (v, S1) := by
    intro S1 u e he
    obtain ⟨v, S2, y1, y2, y3, y4, y5⟩ := n_takeN (tp := tp) (P := P) (x := .error e) he (m := 365) (y := 365) (by decide) rfl
    have hS2 : S2 = S1 := by
      have : f_X12_takeNumber (0 : Int32) (365 : Int32) S1 = some (0, S1) := by
        unfold f_X12_takeNumber f_X12_takeNumber_b28 f_X12_takeNumber_b70
        rw [if_neg (FLr_n0 he), if_neg (FLr_n0 he), if_neg (FLr_nle he)]
      rw [this] at y1
      cases y1
      rfl
    subst hS2
    refine ⟨366 * u + v, ?_⟩
    unfold f_X12_takeDate_b71
    rw [sd_cl_ok y1]
  unfold f_X12_takeDate
  rw [sd_cl_ok e1]
  have hFx : ∀ (e : Nat), FLr S1 e → ∃ v S2, (if (S1.1 130 8) = 0 then sd_ld S1 132 (S1.1 130 7) (fun v_6 => (if v_6 = (2 : Int32) then sd_ldl S1 134 (S1.1 130 7) (fun v_8 => (if 0 ≤ (lg_cmp v_8 (366 : Int64)) then f_X12_takeDate_b71 r S1 else sd_ldl S1 134 (S1.1 130 7) (fun v_10 => (if 0 ≤ (lg_cmp ((((366 : Int32) * r).toInt64) + v_10) (v0.toInt64)) then f_X12_takeDate_b71 r S1 else sd_cl (f_X12_errs (4 : Int32) S1) (fun _ S_12 => f_X12_takeDate_b71 r S_12))))) else f_X12_takeDate_b71 r S1)) else f_X12_takeDate_b71 r S1) = some (v, S2) ∧ FLr S2 e ∧ FRb S S2 := by
    intro e he
    obtain ⟨v, hv⟩ := hb71 S1 r e he
    refine ⟨v, S1, ?_, he, e3⟩
    rw [if_neg (FLr_n0 he), hv]
  cases x with
  | error e =>
    obtain ⟨v, S2, y1, y2, y3⟩ := hFx e e2
    exact ⟨v, S2, y1, y2, y3, fun a tl2 z => (by cases z)⟩
  | ok tl =>
    have hv0 := hv0 tl rfl
    have e2 : STr S1 tp P ((sN tp.length 11 tl).map (fun y => y.2)) := e2
    have e4 : ∀ a tl2, sN tp.length 11 tl = .ok (a, tl2) → r = nI a := e4
    show ∃ v S2, _ ∧ STr S2 tp P (((sN tp.length 11 tl).bind (fun x => sD2 tp.length least x.1 x.2)).map (fun y => y.2)) ∧ _ ∧ ∀ a tl2, (sN tp.length 11 tl).bind (fun x => sD2 tp.length least x.1 x.2) = .ok (a, tl2) → v = nI a
    cases hs : sN tp.length 11 tl with
    | error e =>
      rw [hs] at e2
      obtain ⟨v, S2, y1, y2, y3⟩ := hFx e e2
      exact ⟨v, S2, y1, y2, y3, fun a tl2 z => (by cases z)⟩
    | ok z =>
      obtain ⟨y, t1⟩ := z
      rw [hs] at e2
      have e2 : OKr S1 tp P t1 := e2
      have hr := e4 y t1 hs
      have hy := sN_le hs
      show ∃ v S2, _ ∧ STr S2 tp P ((sD2 tp.length least y t1).map (fun y => y.2)) ∧ _ ∧ ∀ a tl2, sD2 tp.length least y t1 = .ok (a, tl2) → v = nI a
      have hgood : sD2 tp.length least y t1 = (sN tp.length 365 t1).map (fun x => (366 * y + x.1, x.2)) → ∃ v S2, f_X12_takeDate_b71 (nI y) S1 = some (v, S2) ∧ STr S2 tp P ((sD2 tp.length least y t1).map (fun y => y.2)) ∧ FRb S S2 ∧ ∀ a tl2, sD2 tp.length least y t1 = .ok (a, tl2) → v = nI a := by
        intro hc
        obtain ⟨v, S2, q1, q2, q3, q4, -⟩ := n_takeN (P := P) (x := .ok t1) e2 (m := 365) (y := 365) (by decide) rfl
        have q2 : STr S2 tp P ((sN tp.length 365 t1).map (fun y => y.2)) := q2
        have q4 : ∀ a tl2, sN tp.length 365 t1 = .ok (a, tl2) → v = nI a := q4
        refine ⟨366 * nI y + v, S2, ?_, ?_, FRb_trans e3 q3, ?_⟩
        · unfold f_X12_takeDate_b71
          rw [sd_cl_ok q1]
        · rw [hc]
          cases hs2 : sN tp.length 365 t1 with
          | error e => rw [hs2] at q2; exact q2
          | ok z => rw [hs2] at q2; exact q2
        · intro a tl2 hz
          rw [hc] at hz
          cases hs2 : sN tp.length 365 t1 with
          | error e => rw [hs2] at hz; cases hz
          | ok z =>
            obtain ⟨d, t9⟩ := z
            rw [hs2] at hz
            have hz : (Except.ok (366 * y + d, t9) : Except Nat (Nat × List TK)) = .ok (a, tl2) := hz
            have hq := q4 d t9 hs2
            cases hz
            rw [hq, show (366 : Int32) = nI 366 from rfl, nI_mul, nI_add]
      rw [e2.2.1, if_pos rfl, hr]
      obtain ⟨k, k1, k2, k3, k4, k5⟩ := okr_at e2
      rw [k1, sd_ld_ok (by rw [al132]; omega) (sd_al_lt _)]
      have hnot : ¬ S1.1 132 k = (2 : Int32) → isN t1 = false → ∃ v S2, (if S1.1 132 k = (2 : Int32) then sd_ldl S1 134 (nI k) (fun v_8 => (if 0 ≤ (lg_cmp v_8 (366 : Int64)) then f_X12_takeDate_b71 (nI y) S1 else sd_ldl S1 134 (nI k) (fun v_10 => (if 0 ≤ (lg_cmp ((((366 : Int32) * nI y).toInt64) + v_10) (v0.toInt64)) then f_X12_takeDate_b71 (nI y) S1 else sd_cl (f_X12_errs (4 : Int32) S1) (fun _ S_12 => f_X12_takeDate_b71 (nI y) S_12))))) else f_X12_takeDate_b71 (nI y) S1) = some (v, S2) ∧ STr S2 tp P ((sD2 tp.length least y t1).map (fun y => y.2)) ∧ FRb S S2 ∧ ∀ a tl2, sD2 tp.length least y t1 = .ok (a, tl2) → v = nI a := by
        intro hk hn
        rw [if_neg hk]
        exact hgood (by unfold sD2; rw [hn]; rfl)
      cases t1 with
      | nil => exact hnot (by rw [k4 rfl]; decide) rfl
      | cons t q =>
        obtain ⟨⟨-, z⟩, hk⟩ := k5 t q rfl
        have ho := (okr_ok e2 t List.mem_cons_self).1
        rcases z with ⟨q1, q2, q3⟩ | ⟨q1, q2, q3⟩ | ⟨q1, q2, q3⟩ | ⟨q1, q2⟩
        · exact hnot (by rw [q2]; decide) (by show (t.1 == 2) = false; rw [q1]; rfl)
        · have hn : nm t.2.2 < 10000 := by
            unfold okT at ho
            rcases ho with o | o | o | o
            · omega
            · exact o.2
            · omega
            · omega
          have hisN : isN (t :: q) = true := by show (t.1 == 2) = true; rw [q1]; rfl
          have hhd : hdn (t :: q) = nm t.2.2 := rfl
          rw [q2, if_pos rfl, sd_ldl_ok (by rw [al134]; omega) (sd_al_lt _), q3]
          by_cases c1 : 366 ≤ nm t.2.2
          · rw [if_pos ((cmge _ _).mpr (by rw [show (366 : Int64) = lN 366 from rfl]; exact (lN_le (by decide) (by omega)).mpr c1))]
            by_cases c2 : 366 * y + nm t.2.2 < least
            · -- the day itself is too large: the same fault
              have e : sD2 tp.length least y (t :: q) = .error (flt 4 tp.length (t :: q)) := by
                unfold sD2
                rw [hisN, hhd, decide_eq_true c2]; rfl
              obtain ⟨v, S2, z1, z2, z3, z4, -⟩ := n_takeN (P := P) (x := .ok (t :: q)) e2 (m := 365) (y := 365) (by decide) rfl
              have z2 : STr S2 tp P ((sN tp.length 365 (t :: q)).map (fun y => y.2)) := z2
              have es : sN tp.length 365 (t :: q) = .error (flt 4 tp.length (t :: q)) := by
                unfold sN
                rw [if_pos hisN, hhd, if_neg (by omega)]
              rw [es] at z2
              refine ⟨366 * nI y + v, S2, ?_, by rw [e]; exact z2, FRb_trans e3 z3, fun a tl2 w => (by rw [e] at w; cases w)⟩
              unfold f_X12_takeDate_b71
              rw [sd_cl_ok z1]
            · exact hgood (by
                unfold sD2
                rw [hisN, hhd, decide_eq_false c2]
                rfl)
          · rw [if_neg (fun w => c1 ((lN_le (by decide) (by omega)).mp (by have := (cmge _ _).mp w; rw [show (366 : Int64) = lN 366 from rfl] at this; exact this))), sd_ldl_ok (by rw [al134]; omega) (sd_al_lt _), q3, show (366 : Int32) = nI 366 from rfl, nI_mul, nI_l (by omega), lN_add, hv0, nI_l (by omega)]
            by_cases c2 : 366 * y + nm t.2.2 < least
            · rw [if_neg (fun w => by have := (lN_le (by omega) (by omega)).mp ((cmge _ _).mp w); omega)]
              have e : sD2 tp.length least y (t :: q) = .error (flt 4 tp.length (t :: q)) := by
                unfold sD2
                rw [hisN, hhd, decide_eq_true c2]; rfl
              obtain ⟨S2, z1, z2, z3⟩ := n_errs e2 (k := 4) (x := 4) (by decide) (by decide) rfl
              obtain ⟨v, hv⟩ := hb71 S2 (nI y) _ z2
              refine ⟨v, S2, ?_, by rw [e]; exact z2, FRb_trans e3 z3, fun a tl2 w => (by rw [e] at w; cases w)⟩
              rw [sd_cl_ok z1, hv]
            · rw [if_pos ((cmge _ _).mpr ((lN_le (by omega) (by omega)).mpr (by omega)))]
              exact hgood (by
                unfold sD2
                rw [hisN, hhd, decide_eq_false c2]
                rfl)
        · exact hnot (by rw [q2]; decide) (by show (t.1 == 2) = false; rw [q1]; rfl)
        · exact hnot (by rcases q2 with q2 | ⟨q2, -⟩ <;> rw [q2] <;> decide) (by show (t.1 == 2) = false; rw [q1]; rfl)
