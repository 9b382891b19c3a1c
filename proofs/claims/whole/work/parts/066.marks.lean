/-! law, clear, report -/
theorem m_forget (S : sd_St) : ∃ S2, f_X10_forget 101 S = some ((), S2) ∧ (∀ p, p < 12 → S2.1 129 p = -2) ∧ frm (fun a => a = 129) S S2 := by
  obtain ⟨S2, e1, e2, e3⟩ := m_fill2 (k := 129) (by decide) (-2) S
  refine ⟨S2, ?_, fun p hp => e2 p (by rw [show sd_al 129 = 12 from by decide]; exact hp), e3⟩
  unfold f_X10_forget
  rw [sd_cl_ok e1]
theorem m_forgetW (S : sd_St) : ∃ S2, f_X11_forgetWorkedOut S = some ((), S2) ∧ S2.1 0 11 = 0 ∧ (∀ p, p < 12 → S2.1 129 p = -2) ∧ frm (fun a => a = 0 ∨ a = 129) S S2 := by
  obtain ⟨S2, e1, e2, e3⟩ := m_forget (sd_I S 0 11 0)
  refine ⟨S2, ?_, by rw [e3.1 0 (by decide)]; exact rI_same, e2, frm_trans (frm_I (c := fun a => a = 0 ∨ a = 129) (Or.inl rfl)) e3 (fun _ h => h) (fun _ h => Or.inr h)⟩
  unfold f_X11_forgetWorkedOut
  rw [sd_nm_eq, sd_cl_ok e1]
theorem setZ_o {T : TW} {z i : Nat} (h : i ≠ 13) : setZ T z i = T i := by
  funext j
  unfold setZ
  rw [if_neg (fun c => h c.1)]
theorem setZ_z {T : TW} {z : Nat} : tz (setZ T z) = z := rfl
theorem setZ_2 {T : TW} {z y : Nat} : setZ (setZ T z) y = setZ T y := by
  funext i j
  unfold setZ
  by_cases c : i = 13 ∧ j = 0
  · rw [if_pos c, if_pos c]
  · rw [if_neg c, if_neg c, if_neg c]
theorem wf_setZ {T : TW} (hw : wfT T) {z : Nat} (hz : z ≤ 1) : wfT (setZ T z) := by
  obtain ⟨w1, w2, w3, w4, w5, w6, w7, -⟩ := hw
  exact ⟨w1, w2, w3, w4, w5, w6, w7, hz⟩
theorem RTg_fr {g g2 : Nat → Int32} {T : TW} (hw : wfT T) (h : RTg g T) (hs : ∀ j, j < 97 → g2 j = g j) : RTg g2 T := by
  obtain ⟨h1, h2, h3, h4, h5, h6, h7, h8⟩ := h
  have w1 := hw.1
  have w2 := hw.2.2.1
  have w3 := hw.2.2.2.2.1
  refine ⟨by rw [hs _ (by omega)]; exact h1, by rw [hs _ (by omega)]; exact h2, by rw [hs _ (by omega)]; exact h3, fun p hp => ?_, by rw [hs _ (by omega)]; exact h5, fun p hp => ?_, by rw [hs _ (by omega)]; exact h7, fun p hp => ?_⟩
  · rw [hs _ (by omega), hs _ (by omega), hs _ (by omega), hs _ (by omega)]; exact h4 p hp
  · rw [hs _ (by omega), hs _ (by omega), hs _ (by omega)]; exact h6 p hp
  · rw [hs _ (by omega), hs _ (by omega)]; exact h8 p hp
theorem RG_fr {g g2 : Nat → Int32} {T : TW} {rp : Rp} (hw : wfT T) (hr : rp.length ≤ 16) (h : RG g T rp) (hs : ∀ j, j < 170 → g2 j = g j) : RG g2 T rp := by
  obtain ⟨h1, h2, h3⟩ := h
  refine ⟨RTg_fr hw h1 (fun j hj => hs j (by omega)), by rw [hs _ (by omega)]; exact h2, fun i w s t n hi => ?_⟩
  have := (List.getElem?_eq_some_iff.mp hi).1
  rw [hs _ (by omega), hs _ (by omega), hs _ (by omega), hs _ (by omega)]
  exact h3 i w s t n hi
/-- another name law -/
theorem CT_Z {S S2 : sd_St} {T : TW} {z : Nat} (h : CTX S T) (h1 : ∀ j, S2.1 17 j = if j = 15 then nI z else S.1 17 j) (hs : ∀ a, 18 ≤ a → a ≤ 27 → S2.1 a = S.1 a) : CTX S2 (setZ T z) := by
  obtain ⟨⟨c1, c2, c3, c4, c5, c6, c7, c8⟩, d2, d3⟩ := h
  refine ⟨⟨?_, ?_, ?_, ?_, ?_, ?_, ?_, ?_⟩, ?_, ?_⟩
  · rw [h1]; exact c1
  · rw [hs (17 + 1) (by omega) (by omega), hs (17 + 2) (by omega) (by omega), hs (17 + 3) (by omega) (by omega), hs (17 + 4) (by omega) (by omega)]; exact c2
  · rw [h1]; exact c3
  · rw [hs (17 + 6) (by omega) (by omega), hs (17 + 7) (by omega) (by omega), hs (17 + 8) (by omega) (by omega)]; exact c4
  · rw [h1]; exact c5
  · rw [hs (17 + 9) (by omega) (by omega), hs (17 + 10) (by omega) (by omega)]; exact c6
  · rw [h1]; exact c7
  · rw [h1]; rfl
  · rw [hs 22 (by omega) (by omega)]; exact d2
  · rw [h1]; exact d3
theorem TPc_fr {S S2 : sd_St} {tp : List Nat} (h : TPc S tp) (h1 : S2.1 13 = S.1 13) (h2 : S2.1 14 = S.1 14) : TPc S2 tp := by
  unfold TPc at h ⊢
  rw [h1, h2]
  exact h
theorem RTg_Z {g g2 : Nat → Int32} {T : TW} (hw : wfT T) (h : RTg g T) {z : Nat} (h1 : g2 1 = nI z) (hs : ∀ j, j < 97 → j ≠ 1 → g2 j = g j) : RTg g2 (setZ T z) := by
  obtain ⟨i1, i2, i3, i4, i5, i6, i7, i8⟩ := h
  have w1 := hw.1
  have w2 := hw.2.2.1
  have w3 := hw.2.2.2.2.1
  refine ⟨by rw [hs _ (by omega) (by omega)]; exact i1, h1, by rw [hs _ (by omega) (by omega)]; exact i3, fun p hp => ?_, by rw [hs _ (by omega) (by omega)]; exact i5, fun p hp => ?_, by rw [hs _ (by omega) (by omega)]; exact i7, fun p hp => ?_⟩
  · have hp : p < tn T := hp
    rw [hs _ (by omega) (by omega), hs _ (by omega) (by omega), hs _ (by omega) (by omega), hs _ (by omega) (by omega)]; exact i4 p hp
  · have hp : p < ta T := hp
    rw [hs _ (by omega) (by omega), hs _ (by omega) (by omega), hs _ (by omega) (by omega)]; exact i6 p hp
  · have hp : p < ts T := hp
    rw [hs _ (by omega) (by omega), hs _ (by omega) (by omega)]; exact i8 p hp
theorem ag_law (b : Bool) : AG (f_X11_law (bI b)) (f_X12_law (bI b)) := by
  intro σ hw
  obtain ⟨T, rp, mk, tp⟩ := σ
  obtain ⟨w1, w2, w3, w4, w5, w6⟩ := hw
  have hz : (if b then 1 else 0) ≤ 1 := by cases b <;> decide
  have hzI : bI b = nI (if b then 1 else 0) := by cases b <;> rfl
  refine ⟨1, (setZ T (if b then 1 else 0), rp, mk, tp), ⟨wf_setZ w1 hz, w2, w3, w4, w5, w6⟩, fun S h => ?_, fun S h => ?_⟩
  · obtain ⟨S2, e1, e2, e3, e4⟩ := m_forgetW (sd_I S 17 15 (bI b))
    refine ⟨S2, ?_, ?_, frm_trans (frm_I (c := loC) (by unfold loC; omega)) e4 (fun _ h => h) (fun a ha => by unfold loC; omega)⟩
    · unfold f_X11_law sd_ckz
      rw [if_pos (by cases b <;> decide), sd_nm_eq, sd_cl_ok e1]
    · obtain ⟨i1, i2, i3, i4, -, -⟩ := h
      have hs : ∀ a, a ≠ 0 → a ≠ 129 → a ≠ 17 → S2.1 a = S.1 a := fun a h1 h2 h3 => by rw [e4.1 a (by omega)]; exact rI_cell h3
      refine ⟨CT_Z i1 (fun j => ?_) (fun a h1 h2 => hs a (by omega) (by omega) (by omega)), RC_fr i2 (fun a h1 h2 => hs a (by omega) (by omega) (by omega)), MKc_fr i3 (fun a h1 h2 => hs a (by omega) (by omega) (by omega)), TPc_fr i4 (hs _ (by omega) (by omega) (by omega)) (hs _ (by omega) (by omega) (by omega)), Or.inl e2, fun p hp => Or.inl (e3 p hp)⟩
      rw [e4.1 17 (by omega), rI, hzI]
      by_cases c : j = 15
      · rw [if_pos ⟨rfl, c⟩, if_pos c]
      · rw [if_neg (fun z => c z.2), if_neg c]
  · obtain ⟨t1, t2⟩ := IR_thr h
    refine ⟨sd_I (sd_I S 130 0 0) 136 1 (bI b), ?_, ?_, frm_trans t2 (frm_I (c := hiC) (by unfold hiC; omega)) (fun _ h => h) (fun _ h => h)⟩
    · unfold f_X12_law f_X12_law_b19
      rw [sd_nm_eq, show (1 : Int32) = nI 1 from rfl, sd_st_ok (by rw [al136]; omega) (sd_al_lt _), sd_st_ok (by rw [al136]; omega) (sd_al_lt _)]
      cases b
      · rfl
      · rfl
    · obtain ⟨⟨j1, j2, j3⟩, i2, i3, i4⟩ := t1
      have hg : ∀ j, j ≠ 1 → (sd_I (sd_I S 130 0 0) 136 1 (bI b)).1 136 j = (sd_I S 130 0 0).1 136 j := fun j hj => rI_oth hj
      refine ⟨⟨RTg_Z w1 j1 (by rw [rI_same]; exact hzI) (fun j _ hj => hg j hj), by rw [hg _ (by omega)]; exact j2, fun i w s t n hi => ?_⟩, fun m hm => ?_, ?_, ?_⟩
      · rw [hg _ (by omega), hg _ (by omega), hg _ (by omega), hg _ (by omega)]
        exact j3 i w s t n hi
      · rcases i2 m hm with ⟨k1, k2⟩ | ⟨z, r, k1, k2, k3⟩
        · exact Or.inl ⟨k1, by rw [rI_cell (by decide)]; exact k2⟩
        · refine Or.inr ⟨z, r, k1, by rw [rI_cell (by decide)]; exact k2, ?_⟩
          have hk := w4 m z r k1
          rw [setZ_2]
          exact RG_fr (wf_setZ w1 hk.1) hk.2.1 k3 (fun j _ => hg _ (by omega))
      · rw [rI_cell (by decide), rI_cell (a := 131) (by decide)]
        exact i3
      · exact i4
theorem RC_nil {k : Nat} {S : sd_St} (h : S.1 k 0 = 0) : RC k S [] := ⟨h, fun i w s t n hi => by cases hi⟩
theorem ag_clear : AG f_X11_clear f_X12_clear := by
  intro σ hw
  obtain ⟨T, rp, mk, tp⟩ := σ
  obtain ⟨w1, w2, w3, w4, w5, w6⟩ := hw
  refine ⟨1, (T, [], mk, tp), ⟨w1, w2, ⟨Nat.zero_le _, fun w s t n hi => by cases hi⟩, w4, w5, w6⟩, fun S h => ?_, fun S h => ?_⟩
  · obtain ⟨S2, e1, e2, e3⟩ := m_forget (sd_I S 72 0 0)
    refine ⟨S2, ?_, ?_, frm_trans (frm_I (c := loC) (by unfold loC; omega)) e3 (fun _ h => h) (fun a ha => by unfold loC; omega)⟩
    · unfold f_X11_clear f_X4_wipe
      rw [sd_nm_eq, sd_cl_ok rfl, sd_cl_ok e1]
    · obtain ⟨i1, i2, i3, i4, i5, -⟩ := h
      have hs : ∀ a, a ≠ 129 → a ≠ 72 → S2.1 a = S.1 a := fun a h2 h3 => by rw [e3.1 a (by omega)]; exact rI_cell h3
      exact ⟨CTX_fr i1 (fun a h1 h2 => hs a (by omega) (by omega)), RC_nil (by rw [e3.1 72 (by omega)]; exact rI_same), MKc_fr i3 (fun a h1 h2 => hs a (by omega) (by omega)), TPc_fr i4 (hs _ (by omega) (by omega)) (hs _ (by omega) (by omega)), CC_fr w1 i5 (by rw [hs 0 (by omega) (by omega)]) (fun a h1 h2 => hs a (by omega) (by omega)), fun p hp => Or.inl (e2 p hp)⟩
  · obtain ⟨t1, t2⟩ := IR_thr h
    refine ⟨sd_I (sd_I S 130 0 0) 136 97 0, ?_, ?_, frm_trans t2 (frm_I (c := hiC) (by unfold hiC; omega)) (fun _ h => h) (fun _ h => h)⟩
    · unfold f_X12_clear
      rw [sd_nm_eq, show (97 : Int32) = nI 97 from rfl, sd_st_ok (by rw [al136]; omega) (sd_al_lt _)]
    · obtain ⟨⟨j1, j2, j3⟩, i2, i3, i4⟩ := t1
      have hg : ∀ j, j ≠ 97 → (sd_I (sd_I S 130 0 0) 136 97 0).1 136 j = (sd_I S 130 0 0).1 136 j := fun j hj => rI_oth hj
      refine ⟨⟨RTg_fr w1 j1 (fun j hj => hg j (by omega)), by rw [rI_same]; rfl, fun i w s t n hi => by cases hi⟩, fun m hm => ?_, ?_, ?_⟩
      · rcases i2 m hm with ⟨k1, k2⟩ | ⟨z, r, k1, k2, k3⟩
        · exact Or.inl ⟨k1, by rw [rI_cell (by decide)]; exact k2⟩
        · refine Or.inr ⟨z, r, k1, by rw [rI_cell (by decide)]; exact k2, ?_⟩
          have hk := w4 m z r k1
          exact RG_fr (wf_setZ w1 hk.1) hk.2.1 k3 (fun j _ => hg _ (by omega))
      · rw [rI_cell (by decide), rI_cell (a := 131) (by decide)]
        exact i3
      · exact i4
theorem RC_app {k : Nat} {S S2 : sd_St} {rp : Rp} {w s t : Nat} {b : Bool} (h : RC k S rp) (e0 : S2.1 k 0 = nI (rp.length + 1)) (e1 : ∀ i, S2.1 (k + 1) i = if i = rp.length then nI w else S.1 (k + 1) i) (e2 : ∀ i, S2.1 (k + 2) i = if i = rp.length then nI s else S.1 (k + 2) i) (e3 : ∀ i, S2.1 (k + 3) i = if i = rp.length then nI t else S.1 (k + 3) i) (e4 : ∀ i, S2.1 (k + 4) i = if i = rp.length then bI b else S.1 (k + 4) i) : RC k S2 (rp ++ [(w, s, t, b)]) := by
  refine ⟨by rw [e0, List.length_append]; rfl, fun i w' s' t' n' hi => ?_⟩
  rw [e1, e2, e3, e4]
  by_cases c : i = rp.length
  · subst c
    rw [List.getElem?_append_right (Nat.le_refl _), Nat.sub_self] at hi
    cases hi
    rw [if_pos rfl, if_pos rfl, if_pos rfl, if_pos rfl]
    exact ⟨rfl, rfl, rfl, rfl⟩
  · have hl := (List.getElem?_eq_some_iff.mp hi).1
    rw [List.length_append, List.length_singleton] at hl
    rw [List.getElem?_append_left (by omega)] at hi
    rw [if_neg c, if_neg c, if_neg c, if_neg c]
    exact h.2 i w' s' t' n' hi
theorem ix98 (i : Nat) : (98 : Int32) + (4 : Int32) * nI i = nI (98 + 4 * i) := by
  rw [show (4 : Int32) = nI 4 from rfl, show (98 : Int32) = nI 98 from rfl, nI_mul, nI_add]
theorem al131 : sd_al 131 = 1000 := by decide
theorem ag_report (x1 x2 x3 : Int32) (b : Bool) : AG (f_X11_report x1 x2 x3 (bI b)) (f_X12_report x1 x2 x3 (bI b)) := by
  intro σ hw
  have hw1 := hw.1
  have h12 := hw1.1
  rcases ix_or x1 (wf31 hw1).1 with ⟨w, hwn, rfl⟩ | c1
  · rcases ix_or x2 (wf31 hw1).2 with ⟨s, hs, rfl⟩ | c2
    · rcases ix_or x3 (show 4392 < 2 ^ 31 by decide) with ⟨t, ht, rfl⟩ | c3
      · by_cases c16 : σ.2.1.length = 16
        · refine AG_none hw (v := -1) (fun S h => ?_) (fun S h => ?_)
          · unfold f_X11_report
            rw [sd_cl_ok (m_isPerson (IC_T h) hw1 hwn), if_neg (by decide), sd_cl_ok (m_isSecret (IC_T h) hw1 hs), if_neg (by decide), sd_cl_ok (m_isDate ht), if_neg (by decide), h.2.1.1, c16, if_pos (by decide)]
          · have t1 := (IR_thr h).1
            have hr : f_X12_reports (sd_I S 130 0 0) = some (nI 16, sd_I S 130 0 0) := by
              unfold f_X12_reports
              rw [show (97 : Int32) = nI 97 from rfl, ldT (by decide), t1.1.2.1, c16]
            unfold f_X12_report
            rw [sd_nm_eq, sd_cl_ok (n_areThere (IR_T t1) hw1 hs hwn), if_neg (by decide), sd_cl_ok (n_isDate ht), if_neg (by decide), sd_cl_ok hr, if_pos (by decide)]
        · obtain ⟨T, rp, mk, tp⟩ := σ
          obtain ⟨w1, w2, w3, w4, w5, w6⟩ := hw
          dsimp only at c16 w3 h12 hwn hs hw1
          have hl : rp.length < 16 := by have := w3.1; omega
          refine ⟨nI (rp.length + 1), (T, rp ++ [(w, s, t, b)], mk, tp), ⟨w1, w2, ⟨by rw [List.length_append]; exact hl, fun w' s' t' n' hi => ?_⟩, w4, w5, w6⟩, fun S h => ?_, fun S h => ?_⟩
          · rcases List.mem_append.mp hi with hi | hi
            · exact w3.2 w' s' t' n' hi
            · cases List.mem_singleton.mp hi
              exact ⟨hwn, hs, ht⟩
          · have hT := IC_T h
            obtain ⟨i1, i2, i3, i4, i5, -⟩ := h
            have i20 := i2.1
            dsimp only at i20 hT
            let S1 := sd_I (sd_I (sd_I (sd_I (sd_I S 73 rp.length (nI w)) 74 rp.length (nI s)) 75 rp.length (nI t)) 76 rp.length (bI b)) 72 0 (nI (rp.length + 1))
            have hadd : f_X4_add 72 (nI w) (nI s) (nI t) (bI b) S = some ((), S1) := by
              have ha : sd_al (72 + 1) = 16 ∧ sd_al (72 + 2) = 16 ∧ sd_al (72 + 3) = 16 ∧ sd_al (72 + 4) = 16 := by decide
              have hnar : vp_nar .boolean (bI b) = bI b := by cases b <;> decide
              unfold f_X4_add
              rw [i20, if_neg (show ¬ (16 : Int32) ≤ nI rp.length from nI_ge (b := 16) hl (by decide)), sd_st_ok (by omega) (sd_al_lt _), rI_cell (by decide), i20, sd_st_ok (by omega) (sd_al_lt _), rI_cell (by decide), rI_cell (by decide), i20, sd_st_ok (by omega) (sd_al_lt _), rI_cell (by decide), rI_cell (by decide), rI_cell (by decide), i20, hnar, sd_st_ok (by omega) (sd_al_lt _), rI_cell (by decide), rI_cell (by decide), rI_cell (by decide), rI_cell (by decide), i20, nI_1, sd_nm_eq]
            obtain ⟨S2, e1, e2, e3⟩ := m_forget S1
            have hS1 : ∀ a, ¬ (72 ≤ a ∧ a ≤ 76) → S1.1 a = S.1 a := by
              intro a ha
              show (sd_I _ _ _ _).1 a = _
              rw [rI_cell (by omega), rI_cell (by omega), rI_cell (by omega), rI_cell (by omega), rI_cell (by omega)]
            have hf1 : frm loC S S1 := ⟨fun a ha => hS1 a (by unfold loC at ha; omega), fun a _ => rfl⟩
            have h72 : S2.1 72 0 = nI (rp.length + 1) := by rw [e3.1 72 (by omega)]; exact rI_same
            have hs2 : ∀ a, a ≠ 129 → ¬ (72 ≤ a ∧ a ≤ 76) → S2.1 a = S.1 a := fun a h1 h2 => by rw [e3.1 a h1]; exact hS1 a h2
            refine ⟨S2, ?_, ?_, frm_trans hf1 e3 (fun _ h => h) (fun a ha => by unfold loC; omega)⟩
            · unfold f_X11_report
              rw [sd_cl_ok (m_isPerson hT hw1 hwn), if_neg (by decide), sd_cl_ok (m_isSecret hT hw1 hs), if_neg (by decide), sd_cl_ok (m_isDate ht), if_neg (by decide), i20, if_neg (show ¬ nI rp.length = (16 : Int32) from fun z => by have := nI_inj (b := 16) (by omega) (by decide) z; omega), sd_cl_ok hadd, sd_cl_ok e1, h72]
            · refine ⟨CTX_fr i1 (fun a h1 h2 => hs2 a (by omega) (by omega)), RC_app i2 h72 (fun i => ?_) (fun i => ?_) (fun i => ?_) (fun i => ?_), MKc_fr i3 (fun a h1 h2 => hs2 a (by omega) (by omega)), TPc_fr i4 (hs2 _ (by omega) (by omega)) (hs2 _ (by omega) (by omega)), CC_fr w1 i5 (by rw [hs2 0 (by omega) (by omega)]) (fun a h1 h2 => hs2 a (by omega) (by omega)), fun p hp => Or.inl (e2 p hp)⟩
              · rw [e3.1 (72 + 1) (by omega)]
                show (sd_I _ _ _ _).1 73 i = _
                rw [rI_cell (by decide), rI_cell (by decide), rI_cell (by decide), rI_cell (by decide), rI]
                simp
              · rw [e3.1 (72 + 2) (by omega)]
                show (sd_I _ _ _ _).1 74 i = _
                rw [rI_cell (by decide), rI_cell (by decide), rI_cell (by decide), rI, rI_cell (by decide)]
                simp
              · rw [e3.1 (72 + 3) (by omega)]
                show (sd_I _ _ _ _).1 75 i = _
                rw [rI_cell (by decide), rI_cell (by decide), rI, rI_cell (by decide), rI_cell (by decide)]
                simp
              · rw [e3.1 (72 + 4) (by omega)]
                show (sd_I _ _ _ _).1 76 i = _
                rw [rI_cell (by decide), rI, rI_cell (by decide), rI_cell (by decide), rI_cell (by decide)]
                simp
          · obtain ⟨t1, t2⟩ := IR_thr h
            have hT := IR_T t1
            obtain ⟨S0, hS0⟩ : ∃ S0, S0 = sd_I S 130 0 0 := ⟨_, rfl⟩
            rw [← hS0] at t1 t2 hT
            obtain ⟨⟨j1, j2, j3⟩, i2, i3, i4⟩ := t1
            dsimp only at hT j1 j2
            have hr : f_X12_reports S0 = some (nI rp.length, S0) := by
              unfold f_X12_reports
              rw [show (97 : Int32) = nI 97 from rfl, ldT (by decide), j2]
            have hb0 : ∀ S5 : sd_St, S5.1 136 97 = nI rp.length → f_X12_report_b89 (nI (98 + 4 * rp.length + 3)) (bI b) S5 = some (nI (rp.length + 1), sd_I (sd_I S5 136 (98 + 4 * rp.length + 3) (bI b)) 136 97 (nI (rp.length + 1))) := by
              intro S5 h5
              unfold f_X12_report_b89 f_X12_reports
              rw [show (97 : Int32) = nI 97 from rfl, sd_st_ok (by rw [al136]; omega) (sd_al_lt _), ldT (by decide), rI_oth (by omega), h5, nI_1, sd_st_ok (by rw [al136]; omega) (sd_al_lt _), ldT (by decide), rI_same]
              rfl
            let S4 := sd_I (sd_I (sd_I S0 136 (98 + 4 * rp.length) (nI w)) 136 (98 + 4 * rp.length + 1) (nI s)) 136 (98 + 4 * rp.length + 2) (nI t)
            have h4 : S4.1 136 97 = nI rp.length := by
              show (sd_I _ _ _ _).1 _ _ = _
              rw [rI_oth (by omega), rI_oth (by omega), rI_oth (by omega)]
              exact j2
            refine ⟨sd_I (sd_I S4 136 (98 + 4 * rp.length + 3) (bI b)) 136 97 (nI (rp.length + 1)), ?_, ?_, ?_⟩
            · unfold f_X12_report
              rw [sd_nm_eq, ← hS0, sd_cl_ok (n_areThere hT hw1 hs hwn), if_neg (by decide), sd_cl_ok (n_isDate ht), if_neg (by decide), sd_cl_ok hr, if_neg (show ¬ nI rp.length = (16 : Int32) from fun z => by have := nI_inj (b := 16) (by omega) (by decide) z; omega), sd_cl_ok hr, sd_nm_eq, ix98, sd_st_ok (by rw [al136]; omega) (sd_al_lt _), nI_1, sd_st_ok (by rw [al136]; omega) (sd_al_lt _), ixa, sd_st_ok (by rw [al136]; omega) (sd_al_lt _), ixb]
              have := hb0 S4 h4
              cases b
              · exact this
              · exact this
            · have hg : ∀ j, j ≠ 97 → (j < 98 + 4 * rp.length ∨ 98 + 4 * rp.length + 3 < j) → (sd_I (sd_I S4 136 (98 + 4 * rp.length + 3) (bI b)) 136 97 (nI (rp.length + 1))).1 136 j = S0.1 136 j := by
                intro j h1 h2
                rw [rI_oth h1, rI_oth (by omega)]
                show (sd_I _ _ _ _).1 _ _ = _
                rw [rI_oth (by omega), rI_oth (by omega), rI_oth (by omega)]
              have hc : ∀ a, a ≠ 136 → (sd_I (sd_I S4 136 (98 + 4 * rp.length + 3) (bI b)) 136 97 (nI (rp.length + 1))).1 a = S0.1 a := by
                intro a ha
                rw [rI_cell ha, rI_cell ha]
                show (sd_I _ _ _ _).1 _ = _
                rw [rI_cell ha, rI_cell ha, rI_cell ha]
              refine ⟨⟨RTg_fr w1 j1 (fun j hj => hg j (by omega) (by omega)), by rw [rI_same]; show _ = nI (rp ++ _).length; rw [List.length_append]; rfl, fun i w' s' t' n' hi => ?_⟩, fun m hm => ?_, ?_, ?_⟩
              · have hi : (rp ++ [(w, s, t, b)])[i]? = some (w', s', t', n') := hi
                by_cases c : i = rp.length
                · subst c
                  rw [List.getElem?_append_right (Nat.le_refl _), Nat.sub_self] at hi
                  cases hi
                  refine ⟨?_, ?_, ?_, ?_⟩
                  · rw [rI_oth (by omega), rI_oth (by omega)]
                    show (sd_I _ _ _ _).1 _ _ = _
                    rw [rI_oth (by omega), rI_oth (by omega), rI_same]
                  · rw [rI_oth (by omega), rI_oth (by omega)]
                    show (sd_I _ _ _ _).1 _ _ = _
                    rw [rI_oth (by omega), rI_same]
                  · rw [rI_oth (by omega), rI_oth (by omega)]
                    show (sd_I _ _ _ _).1 _ _ = _
                    rw [rI_same]
                  · rw [rI_oth (by omega), rI_same]
                · have hl2 := (List.getElem?_eq_some_iff.mp hi).1
                  rw [List.length_append, List.length_singleton] at hl2
                  rw [List.getElem?_append_left (by omega)] at hi
                  rw [hg _ (by omega) (by omega), hg _ (by omega) (by omega), hg _ (by omega) (by omega), hg _ (by omega) (by omega)]
                  exact j3 i w' s' t' n' hi
              · rcases i2 m hm with ⟨k1, k2⟩ | ⟨z, r, k1, k2, k3⟩
                · exact Or.inl ⟨k1, by rw [hc 154 (by decide)]; exact k2⟩
                · refine Or.inr ⟨z, r, k1, by rw [hc 154 (by decide)]; exact k2, ?_⟩
                  have hk := w4 m z r k1
                  exact RG_fr (wf_setZ w1 hk.1) hk.2.1 k3 (fun j _ => hg _ (by omega) (by omega))
              · rw [hc 130 (by decide), hc 131 (by decide)]
                exact i3
              · exact i4
            · refine frm_trans t2 (d := hiC) ⟨fun a ha => ?_, fun a _ => rfl⟩ (fun _ h => h) (fun _ h => h)
              have ha : a ≠ 136 := fun z => ha (by rw [z]; unfold hiC; omega)
              rw [rI_cell ha, rI_cell ha]
              show (sd_I _ _ _ _).1 _ = _
              rw [rI_cell ha, rI_cell ha, rI_cell ha]
      · refine AG_none hw (v := -1) (fun S h => ?_) (fun S h => ?_)
        · unfold f_X11_report
          rw [sd_cl_ok (m_isPerson (IC_T h) hw1 hwn), if_neg (by decide), sd_cl_ok (m_isSecret (IC_T h) hw1 hs), if_neg (by decide), sd_cl_ok (m_isDate_n c3), if_pos rfl]
        · have t1 := (IR_thr h).1
          unfold f_X12_report
          rw [sd_nm_eq, sd_cl_ok (n_areThere (IR_T t1) hw1 hs hwn), if_neg (by decide), sd_cl_ok (n_isDate_n c3), if_pos rfl]
    · refine AG_none hw (v := -1) (fun S h => ?_) (fun S h => ?_)
      · unfold f_X11_report
        rw [sd_cl_ok (m_isPerson (IC_T h) hw1 hwn), if_neg (by decide), sd_cl_ok (m_isSecret_n (IC_T h) c2), if_pos rfl]
      · unfold f_X12_report
        rw [sd_nm_eq, sd_cl_ok (n_areThere_n (IR_T (IR_thr h).1) hw1 (Or.inl c2)), if_pos rfl]
  · refine AG_none hw (v := -1) (fun S h => ?_) (fun S h => ?_)
    · unfold f_X11_report
      rw [sd_cl_ok (m_isPerson_n (IC_T h) c1), if_pos rfl]
    · unfold f_X12_report
      rw [sd_nm_eq, sd_cl_ok (n_areThere_n (IR_T (IR_thr h).1) hw1 (Or.inr c1)), if_pos rfl]
