/-! THE NEWCOMER: the answers agree -/
theorem IR_136 {S S2 : sd_St} {σ : Sg} (hw : WF σ) (h : IR S σ) (h1 : ∀ j, j < 170 ∨ 340 ≤ j → S2.1 136 j = S.1 136 j) (h2 : S2.1 154 = S.1 154) (h3 : S2.1 130 2 = S.1 130 2) (h4 : S2.1 131 = S.1 131) (h5 : S2.2 135 = S.2 135) : IR S2 σ := by
  obtain ⟨a1, a2, a3, a4⟩ := h
  refine ⟨RG_fr hw.1 hw.2.2.1.1 a1 (fun j hj => h1 j (Or.inl hj)), fun m hm => ?_, ?_, ?_⟩
  · rw [h2]
    rcases a2 m hm with q | ⟨z, r, q1, q2, q3⟩
    · exact Or.inl q
    · obtain ⟨w1, w2⟩ := hw.2.2.2.1 m z r q1
      exact Or.inr ⟨z, r, q1, q2, RG_fr (wf_setZ hw.1 w1) w2.1 q3 (fun j hj => h1 _ (Or.inr (by omega)))⟩
  · rw [h3, h4]; exact a3
  · rw [h5]; exact a4
theorem set_nat {n : Nat} (hn : n ≤ 12) {x : Int32} (h : setOK n x = true) : ∃ c, c < 2 ^ n ∧ x = nI c := by
  have h2 := p2_le hn
  unfold setOK at h
  rw [decide_eq_true_iff] at h
  rcases ix_or x (n := 2 ^ n) (by omega) with q | q
  · exact q
  · exfalso
    rcases q with q | q
    · rw [Int32.lt_iff_toInt_lt] at q
      have h0 : (0 : Int32).toInt = 0 := by decide
      omega
    · rw [Int32.le_iff_toInt_le, nI_toInt (by omega)] at q
      generalize 2 ^ n = N at *
      omega
def nwBad (T : TW) (x1 x2 x3 x4 x5 : Int32) : Prop := tn T = 12 ∨ setOK (tn T) x1 = false ∨ setOK (tn T) x2 = false ∨ (x3 < 0 ∨ nI (ts T) ≤ x3) ∨ (x4 < 0 ∨ nI (tn T) ≤ x4) ∨ (¬ x5 = 0 ∧ ¬ x5 = 1)
theorem not_ix {x : Int32} {n : Nat} {j : Nat} (hj : j < n) (hn : n < 2 ^ 31) (h : nI j < 0 ∨ nI n ≤ nI j) : False := by
  rcases h with h | h
  · exact nI_pos (by omega) h
  · exact nI_ge hj hn h
theorem m_new_n {S : sd_St} {T : TW} (hw : wfT T) (hT : CT 17 S T) {x1 x2 x3 x4 x5 : Int32} (h : nwBad T x1 x2 x3 x4 x5) : f_X11_newcomer x1 x2 x3 x4 x5 S = some (-1, S) := by
  have h12 := hw.1
  unfold f_X11_newcomer
  rw [hT.1]
  by_cases a0 : tn T = 12
  · rw [if_pos (by rw [a0]; rfl)]
  · rw [if_neg (show ¬ nI (tn T) = (12 : Int32) from fun z => a0 (nI_inj (b := 12) (by omega) (by decide) z)), sd_cl_ok (m_isSet hT hw x1)]
    cases c1 : setOK (tn T) x1 with
    | false => rw [if_pos (by decide)]
    | true =>
      rw [if_neg (by decide), sd_cl_ok (m_isSet hT hw x2)]
      cases c2 : setOK (tn T) x2 with
      | false => rw [if_pos (by decide)]
      | true =>
        rw [if_neg (by decide)]
        rcases ix_or x3 (wf31 hw).2 with ⟨s, hs, rfl⟩ | c3
        · rw [sd_cl_ok (m_isSecret hT hw hs), if_neg (by decide)]
          rcases ix_or x4 (wf31 hw).1 with ⟨p, hp, rfl⟩ | c4
          · rw [sd_cl_ok (m_isPerson hT hw hp), if_neg (by decide)]
            rcases two_or x5 with c5 | c5
            · exfalso
              rcases h with h | h | h | h | h | h
              · exact a0 h
              · rw [c1] at h; cases h
              · rw [c2] at h; cases h
              · exact not_ix (x := 0) hs (wf31 hw).2 h
              · exact not_ix (x := 0) hp (wf31 hw).1 h
              · rcases c5 with c5 | c5
                · exact h.1 c5
                · exact h.2 c5
            · rw [sd_cl_ok (m_one_n c5), if_pos rfl]
          · rw [sd_cl_ok (m_isPerson_n hT c4), if_pos rfl]
        · rw [sd_cl_ok (m_isSecret_n hT c3), if_pos rfl]
theorem n_new_n {S : sd_St} {σ : Sg} (hw : wfT σ.1) (hI : IR S σ) {x1 x2 x3 x4 x5 : Int32} (h : nwBad σ.1 x1 x2 x3 x4 x5) : f_X12_newcomer x1 x2 x3 x4 x5 S = some (-1, sd_I S 130 0 0) := by
  have h12 := hw.1
  have hT := IR_T (IR_thr hI).1
  unfold f_X12_newcomer
  rw [sd_nm_eq, sd_cl_ok (n_people hT)]
  by_cases a0 : tn σ.1 = 12
  · rw [if_pos (by rw [a0]; rfl)]
  · rw [if_neg (show ¬ nI (tn σ.1) = (12 : Int32) from fun z => a0 (nI_inj (b := 12) (by omega) (by decide) z))]
    rcases ix_or x3 (wf31 hw).2 with ⟨s, hs, rfl⟩ | c3
    · rcases ix_or x4 (wf31 hw).1 with ⟨p, hp, rfl⟩ | c4
      · rw [sd_cl_ok (n_areThere hT hw hs hp), if_neg (by decide), sd_cl_ok (n_isSet h12 x1)]
        cases c1 : setOK (tn σ.1) x1 with
        | false => rw [if_pos (by decide)]
        | true =>
          rw [if_neg (by decide), sd_cl_ok (n_isSet h12 x2)]
          cases c2 : setOK (tn σ.1) x2 with
          | false => rw [if_pos (by decide)]
          | true =>
            rw [if_neg (by decide)]
            rcases two_or x5 with c5 | c5
            · exfalso
              rcases h with h | h | h | h | h | h
              · exact a0 h
              · rw [c1] at h; cases h
              · rw [c2] at h; cases h
              · exact not_ix (x := 0) hs (wf31 hw).2 h
              · exact not_ix (x := 0) hp (wf31 hw).1 h
              · rcases c5 with c5 | c5
                · exact h.1 c5
                · exact h.2 c5
            · rw [sd_cl_ok (n_one_n c5), if_pos rfl]
      · rw [sd_cl_ok (n_areThere_n hT hw (Or.inr c4)), if_pos rfl]
    · rw [sd_cl_ok (n_areThere_n hT hw (Or.inl c3)), if_pos rfl]
def nwA (T : TW) (c1 c2 s p : Nat) (x5 : Int32) : Int32 := if x5 = 0 then b1I (nbs (nwV (nwP T c1 c2 (tn T)) (tn T) s p) 366) else b2I (nbs (nwV (nwP T c1 c2 (tn T)) (tn T) s p) 366)
theorem n_newc {S : sd_St} {σ : Sg} (hw : WF σ) (h : IR S σ) (hn : tn σ.1 < 12) {c1 c2 s p : Nat} {x5 : Int32} (hc1 : c1 < 2 ^ tn σ.1) (hc2 : c2 < 2 ^ tn σ.1) (hs : s < ts σ.1) (hp : p < tn σ.1) (hx5 : x5 = 0 ∨ x5 = 1) (ho1 : setOK (tn σ.1) (nI c1) = true) (ho2 : setOK (tn σ.1) (nI c2) = true) : ∃ S1, f_X12_newcomer (nI c1) (nI c2) (nI s) (nI p) x5 S = some (nwA σ.1 c1 c2 s p x5, S1) ∧ IR S1 σ ∧ frm hiC S S1 := by
  have hw1 := hw.1
  have h12 := hw1.1
  obtain ⟨t1, t2⟩ := IR_thr h
  obtain ⟨S0, hS0⟩ : ∃ S0, S0 = sd_I S 130 0 0 := ⟨_, rfl⟩
  rw [← hS0] at t1 t2
  have hT := IR_T t1
  obtain ⟨S1, a1, a2, a3, a4, a5⟩ := n_carry (a := 0) (b := 1) (by decide) (by decide) (by decide) S0
  obtain ⟨B1, hB1⟩ : ∃ B, B = sd_I S1 136 2 (nI (tn σ.1 + 1)) := ⟨_, rfl⟩
  obtain ⟨B2, hB2⟩ : ∃ B, B = sd_I B1 136 (3 + 4 * tn σ.1 + 1) 0 := ⟨_, rfl⟩
  obtain ⟨B3, hB3⟩ : ∃ B, B = sd_I B2 136 (3 + 4 * tn σ.1 + 2) 0 := ⟨_, rfl⟩
  obtain ⟨B4, hB4⟩ : ∃ B, B = sd_I B3 136 (3 + 4 * tn σ.1 + 3) (nI c2) := ⟨_, rfl⟩
  have hB : ∀ j, B4.1 136 j = if j = 3 + 4 * tn σ.1 + 3 then nI c2 else if j = 3 + 4 * tn σ.1 + 2 then 0 else if j = 3 + 4 * tn σ.1 + 1 then 0 else if j = 2 then nI (tn σ.1 + 1) else S1.1 136 j := by
    intro j
    rw [hB4, rI, hB3, rI, hB2, rI, hB1, rI]
    simp
  have fB : frm (fun a => a = 136) S1 B4 := by
    rw [hB4, hB3, hB2, hB1]
    exact frm_trans (frm_trans (frm_trans (frm_I (c := fun a => a = 136) rfl) (frm_I (c := fun a => a = 136) rfl) (fun _ h => h) (fun _ h => h)) (frm_I (c := fun a => a = 136) rfl) (fun _ h => h) (fun _ h => h)) (frm_I (c := fun a => a = 136) rfl) (fun _ h => h) (fun _ h => h)
  have hBg : ∀ q, q < tn σ.1 → B4.1 136 (3 + 4 * q + 3) = nI (tc σ.1 q) := by
    intro q hq
    rw [hB, if_neg (by omega), if_neg (by omega), if_neg (by omega), if_neg (by omega), a3 _ (Or.inl (by omega))]
    exact (hT.2.2.2.1 q hq).2.2.2
  obtain ⟨S3, b1, b2, b3⟩ := n_nw115 (T := σ.1) hn (c1 := c1) (x3 := nI s) (x4 := nI p) (x5 := x5) (x7 := nI (3 + 4 * tn σ.1)) hBg (tn σ.1) sd_FU 0 B4 (by omega) (by unfold sd_FU; omega) (fun j => by rw [if_neg (by rintro ⟨q, h1, -⟩; omega)])
  have hwX := wf_nw (c1 := c1) hw1 hn hc2 (Nat.le_refl _)
  have hsX : s < ts (nwP σ.1 c1 c2 (tn σ.1)) := by
    show s < nwP σ.1 c1 c2 (tn σ.1) 9 0
    rw [nw_hi (by omega)]
    exact hs
  have hlow : ∀ j, j < 170 → S1.1 136 j = S0.1 136 j := fun j hj => a3 j (Or.inl (by omega))
  have hR : ∀ (g : Nat → Int32) d, g (3 + 4 * tn σ.1) = nI d → (∀ j, j ≠ 3 + 4 * tn σ.1 → g j = S3.1 136 j) → RTg g (setB (nwP σ.1 c1 c2 (tn σ.1)) (tn σ.1) d) := by
    intro g d e1 e2
    refine RTg_nw hw1 hn hT hc2 ?_ e1 ?_ ?_ ?_ (fun q hq => ?_) (fun q hq => ?_) (fun j hj => ?_)
    · rw [e2 2 (by omega), b2, if_neg (by rintro ⟨q, h1, -, h2⟩; omega), hB, if_neg (by omega), if_neg (by omega), if_neg (by omega), if_pos rfl]
    · rw [e2 _ (by omega), b2, if_neg (by rintro ⟨q, h1, -, h2⟩; omega), hB, if_neg (by omega), if_neg (by omega), if_pos rfl]
    · rw [e2 _ (by omega), b2, if_neg (by rintro ⟨q, h1, -, h2⟩; omega), hB, if_neg (by omega), if_pos rfl]
    · rw [e2 _ (by omega), b2, if_neg (by rintro ⟨q, h1, -, h2⟩; omega), hB, if_pos rfl]
    · rw [e2 _ (by omega), b2]
      by_cases cb : c1.testBit q = true
      · rw [if_pos ⟨q, hq, cb, rfl⟩, if_pos cb, show (3 + 4 * q + 3 - 6) / 4 = q by omega]
      · rw [if_neg (by
          rintro ⟨q', h1, h2, h3⟩
          have : q' = q := by omega
          rw [this] at h2
          exact cb h2), if_neg cb, hBg q hq]
    · refine ⟨?_, ?_, ?_⟩
      · rw [e2 _ (by omega), b2, if_neg (by rintro ⟨q', h1, -, h2⟩; omega), hB, if_neg (by omega), if_neg (by omega), if_neg (by omega), if_neg (by omega), hlow _ (by omega)]
      · rw [e2 _ (by omega), b2, if_neg (by rintro ⟨q', h1, -, h2⟩; omega), hB, if_neg (by omega), if_neg (by omega), if_neg (by omega), if_neg (by omega), hlow _ (by omega)]
      · rw [e2 _ (by omega), b2, if_neg (by rintro ⟨q', h1, -, h2⟩; omega), hB, if_neg (by omega), if_neg (by omega), if_neg (by omega), if_neg (by omega), hlow _ (by omega)]
    · rw [e2 _ (by omega), b2, if_neg (by rintro ⟨q', h1, -, h2⟩; omega), hB, if_neg (by omega), if_neg (by omega), if_neg (by omega), if_neg (by omega), hlow _ (by omega)]
  have hfX : ∀ d, fullT (setB (nwP σ.1 c1 c2 (tn σ.1)) (tn σ.1) d) := by
    intro d q hq
    rw [setB_tn, nw_n] at hq
    show 0 < (if 1 = 1 ∧ q = tn σ.1 then d + 1 else nwP σ.1 c1 c2 (tn σ.1) 1 q)
    by_cases c : q = tn σ.1
    · rw [if_pos ⟨rfl, c⟩]; omega
    · rw [if_neg (fun z => c z.2), nw_old (Or.inl rfl) c]
      exact hw.2.1 q (by omega)
  obtain ⟨S4, d1, d2, d3, d4⟩ := n_nw173 (X := nwP σ.1 c1 c2 (tn σ.1)) (n0 := tn σ.1) (s := s) (p := p) (fun d hd => wf_setB hwX hd) hfX hn hsX (by rw [nw_n]; omega) (by omega) hx5 hR (nwV_v hwX hsX) 366 sd_FU 0 S3 (by omega) (by unfold sd_FU; omega) (fun _ _ => rfl)
  obtain ⟨S5, y1, y2, y3, y4, y5⟩ := n_carry (a := 1) (b := 0) (by decide) (by decide) (by decide) S4
  have hup : ∀ j, 170 ≤ j → S4.1 136 j = S1.1 136 j := by
    intro j hj
    rw [d2 j (by omega), b2 j, if_neg (by rintro ⟨q', h1, -, h2⟩; omega), hB, if_neg (by omega), if_neg (by omega), if_neg (by omega), if_neg (by omega)]
  have f04 : ∀ a, a ≠ 130 → a ≠ 136 → ¬ (139 ≤ a ∧ a ≤ 141) → S4.1 a = S0.1 a := by
    intro a h1 h2 h3
    rw [d3.1 a (by omega), b3.1 a h2, fB.1 a h2, a4 a h2]
  have g04 : ∀ a, a ≠ 130 → a ≠ 136 → ¬ (139 ≤ a ∧ a ≤ 141) → S4.2 a = S0.2 a := by
    intro a h1 h2 h3
    rw [d3.2 a (by omega), b3.2 a h2, fB.2 a h2, a5]
  refine ⟨S5, ?_, IR_136 hw t1 ?_ ?_ ?_ ?_ ?_, frm_trans t2 (e := hiC) (d := hiC) ⟨?_, ?_⟩ (fun _ h => h) (fun _ h => h)⟩
  · unfold f_X12_newcomer
    have e0 : f_X12_carry (0 : Int32) (1 : Int32) S0 = some ((), S1) := a1
    have e1 : f_X12_carry (1 : Int32) (0 : Int32) S4 = some ((), S5) := y1
    rw [sd_nm_eq, ← hS0, sd_cl_ok (n_people hT), if_neg (show ¬ nI (tn σ.1) = (12 : Int32) from fun z => absurd (nI_inj (b := 12) (by omega) (by decide) z) (by omega)), sd_cl_ok (n_areThere hT hw1 hs hp), if_neg (by decide), sd_cl_ok (n_isSet h12 _), ho1, if_neg (by decide), sd_cl_ok (n_isSet h12 _), ho2, if_neg (by decide), sd_cl_ok (n_one_y hx5), if_neg (by decide), sd_cl_ok e0, nI_1, show (2 : Int32) = nI 2 from rfl, sd_st_ok (by rw [al136]; omega) (sd_al_lt _), ← hB1, sd_nm_eq, ix4, nI_1, sd_st_ok (by rw [al136]; omega) (sd_al_lt _), ← hB2, show nI (3 + 4 * tn σ.1) + nI 2 = nI (3 + 4 * tn σ.1 + 2) from nI_add _ _, sd_st_ok (by rw [al136]; omega) (sd_al_lt _), ← hB3, ixb, sd_st_ok (by rw [al136]; omega) (sd_al_lt _), ← hB4, show (0 : Int32) = nI 0 from rfl, b1]
    rw [nbs_0] at d1
    have d1 : f_X12_newcomer_l173 sd_FU (nI s) (nI p) x5 (nI (3 + 4 * tn σ.1)) (-1 : Int32) (1000000 : Int32) (0 : Int32) S3 = _ := d1
    rw [d1, sd_cl_ok e1]
    rfl
  · intro j hj
    rcases hj with hj | hj
    · have := y2 j hj
      rw [show 170 * 0 + j = j by omega, hup _ (by omega)] at this
      rw [this, a2 j hj, show 170 * 0 + j = j by omega]
    · rw [y3 j (Or.inr (by omega)), hup j (by omega), a3 j (Or.inr (by omega))]
  · rw [y4 154 (by decide), f04 154 (by decide) (by decide) (by omega)]
  · rw [y4 130 (by decide), d4 2 (by decide), b3.1 130 (by decide), fB.1 130 (by decide), a4 130 (by decide)]
  · rw [y4 131 (by decide), f04 131 (by decide) (by decide) (by omega)]
  · rw [y5, g04 135 (by decide) (by decide) (by omega)]
  · intro a ha
    unfold hiC at ha
    rw [y4 a (by omega), f04 a (by omega) (by omega) (by omega)]
  · intro a ha
    unfold hiC at ha
    rw [y5, g04 a (by omega) (by omega) (by omega)]
theorem ag_newcomer (x1 x2 x3 x4 x5 : Int32) : AG (f_X11_newcomer x1 x2 x3 x4 x5) (f_X12_newcomer x1 x2 x3 x4 x5) := by
  intro σ hw
  have hw1 := hw.1
  have h12 := hw1.1
  by_cases hbad : nwBad σ.1 x1 x2 x3 x4 x5
  · exact AG_none hw (v := -1) (fun S h => m_new_n hw1 (IC_T h) hbad) (fun S h => n_new_n hw1 h hbad)
  · unfold nwBad at hbad
    have hn : tn σ.1 < 12 := by
      rcases Nat.lt_or_ge (tn σ.1) 12 with q | q
      · exact q
      · exact absurd (Or.inl (by omega)) hbad
    have ho1 : setOK (tn σ.1) x1 = true := by
      cases c : setOK (tn σ.1) x1 with
      | true => rfl
      | false => exact absurd (Or.inr (Or.inl c)) hbad
    have ho2 : setOK (tn σ.1) x2 = true := by
      cases c : setOK (tn σ.1) x2 with
      | true => rfl
      | false => exact absurd (Or.inr (Or.inr (Or.inl c))) hbad
    obtain ⟨c1, hc1, rfl⟩ := set_nat h12 ho1
    obtain ⟨c2, hc2, rfl⟩ := set_nat h12 ho2
    rcases ix_or x3 (wf31 hw1).2 with ⟨s, hs, rfl⟩ | c3
    · rcases ix_or x4 (wf31 hw1).1 with ⟨p, hp, rfl⟩ | c4
      · rcases two_or x5 with c5 | c5
        · refine ⟨nwA σ.1 c1 c2 s p x5, σ, hw, fun S h => ?_, fun S h => n_newc hw h hn hc1 hc2 hs hp c5 ho1 ho2⟩
          obtain ⟨S1, e1, e2, e3, e4⟩ := m_tryN (c1 := c1) hw1 hw.2.1 hn hc2 hs hp (IC_T h)
          refine ⟨S1, ?_, IC_fr h (fun a ha => e4.1 a (by unfold keepC at ha; omega)) (CC_fr hw1 h.2.2.2.2.1 (by rw [e4.1 0 (by omega)]) (fun a g1 g2 => e4.1 a (by omega))), frm_mono e4 (fun a ha => by unfold loC; omega)⟩
          unfold f_X11_newcomer
          rw [(IC_T h).1, if_neg (show ¬ nI (tn σ.1) = (12 : Int32) from fun z => absurd (nI_inj (b := 12) (by omega) (by decide) z) (by omega)), sd_cl_ok (m_isSet (IC_T h) hw1 _), ho1, if_neg (by decide), sd_cl_ok (m_isSet (IC_T h) hw1 _), ho2, if_neg (by decide), sd_cl_ok (m_isSecret (IC_T h) hw1 hs), if_neg (by decide), sd_cl_ok (m_isPerson (IC_T h) hw1 hp), if_neg (by decide), sd_cl_ok (m_one_y c5), if_neg (by decide), sd_cl_ok e1, e2, e3]
          unfold nwA
          by_cases c0 : x5 = 0
          · rw [if_pos c0, if_pos c0]
          · rw [if_neg c0, if_neg c0]
        · exact absurd (Or.inr (Or.inr (Or.inr (Or.inr (Or.inr c5))))) hbad
      · exact absurd (Or.inr (Or.inr (Or.inr (Or.inr (Or.inl c4))))) hbad
    · exact absurd (Or.inr (Or.inr (Or.inr (Or.inl c3)))) hbad
