/-! THE NEWCOMER: both answers -/
theorem nbs_0 (v : Nat → Nat) : nbs v 0 = none := rfl
theorem bsT_0 : bsT none = FARN := rfl
theorem m_addPerson {k : Nat} (hk : sd_kd k = 8) {S : sd_St} {n : Nat} (hn : n < 12) (h0 : S.1 k 0 = nI n) (x : Int32) : ∃ S2, f_X8_addPerson k x S = some ((), S2) ∧ (∀ q, S2.1 (k + 1) q = if q = n then x else S.1 (k + 1) q) ∧ (∀ q, S2.1 (k + 2) q = if q = n then -1 else S.1 (k + 2) q) ∧ (∀ q, S2.1 (k + 3) q = if q = n then 0 else S.1 (k + 3) q) ∧ (∀ q, S2.1 (k + 4) q = if q = n then 0 else S.1 (k + 4) q) ∧ (∀ q, S2.1 (k + 5) q = if q = n then 0 else S.1 (k + 5) q) ∧ (∀ j, S2.1 k j = if j = 0 then nI (n + 1) else S.1 k j) ∧ frm (fun a => k ≤ a ∧ a ≤ k + 5) S S2 := by
  have hal := al8 hk
  obtain ⟨A1, hA1⟩ : ∃ A, A = sd_I S (k + 1) n x := ⟨_, rfl⟩
  obtain ⟨A2, hA2⟩ : ∃ A, A = sd_I A1 (k + 2) n (-1) := ⟨_, rfl⟩
  obtain ⟨A3, hA3⟩ : ∃ A, A = sd_I A2 (k + 3) n 0 := ⟨_, rfl⟩
  obtain ⟨A4, hA4⟩ : ∃ A, A = sd_I A3 (k + 4) n 0 := ⟨_, rfl⟩
  obtain ⟨A5, hA5⟩ : ∃ A, A = sd_I A4 (k + 5) n 0 := ⟨_, rfl⟩
  obtain ⟨A6, hA6⟩ : ∃ A, A = sd_I A5 k 0 (nI (n + 1)) := ⟨_, rfl⟩
  have k1 : A1.1 k = S.1 k := by rw [hA1, rI_cell (by omega)]
  have k2 : A2.1 k = S.1 k := by rw [hA2, rI_cell (by omega), k1]
  have k3 : A3.1 k = S.1 k := by rw [hA3, rI_cell (by omega), k2]
  have k4 : A4.1 k = S.1 k := by rw [hA4, rI_cell (by omega), k3]
  have k5 : A5.1 k = S.1 k := by rw [hA5, rI_cell (by omega), k4]
  have one : ∀ (B : sd_St) (a : Nat) (v : Int32) (q : Nat), (sd_I B a n v).1 a q = if q = n then v else B.1 a q := fun B a v q => by
    by_cases c : q = n
    · rw [c, if_pos rfl, rI_same]
    · rw [if_neg c, rI_oth c]
  refine ⟨A6, ?_, fun q => ?_, fun q => ?_, fun q => ?_, fun q => ?_, fun q => ?_, fun j => ?_, ?_⟩
  · unfold f_X8_addPerson
    rw [h0, if_neg (show ¬ (12 : Int32) ≤ nI n from nI_ge (b := 12) hn (by decide)), sd_st_ok (by omega) (sd_al_lt _), ← hA1, k1, h0, sd_st_ok (by omega) (sd_al_lt _), ← hA2, k2, h0, sd_st_ok (by omega) (sd_al_lt _), ← hA3, k3, h0, sd_st_ok (by omega) (sd_al_lt _), ← hA4, k4, h0, sd_st_ok (by omega) (sd_al_lt _), ← hA5, k5, h0, nI_1, sd_nm_eq, ← hA6]
  · rw [hA6, rI_cell (by omega), hA5, rI_cell (by omega), hA4, rI_cell (by omega), hA3, rI_cell (by omega), hA2, rI_cell (by omega), hA1, one]
  · rw [hA6, rI_cell (by omega), hA5, rI_cell (by omega), hA4, rI_cell (by omega), hA3, rI_cell (by omega), hA2, one, hA1, rI_cell (by omega)]
  · rw [hA6, rI_cell (by omega), hA5, rI_cell (by omega), hA4, rI_cell (by omega), hA3, one, hA2, rI_cell (by omega), hA1, rI_cell (by omega)]
  · rw [hA6, rI_cell (by omega), hA5, rI_cell (by omega), hA4, one, hA3, rI_cell (by omega), hA2, rI_cell (by omega), hA1, rI_cell (by omega)]
  · rw [hA6, rI_cell (by omega), hA5, one, hA4, rI_cell (by omega), hA3, rI_cell (by omega), hA2, rI_cell (by omega), hA1, rI_cell (by omega)]
  · rw [hA6]
    by_cases c : j = 0
    · rw [c, if_pos rfl, rI_same]
    · rw [if_neg c, rI_oth c, k5]
  · have e : ∀ (B : sd_St) (i j : Nat) (v : Int32), i ≤ 5 → frm (fun a => k ≤ a ∧ a ≤ k + 5) B (sd_I B (k + i) j v) := fun B i j v hi => frm_I (by omega)
    rw [hA6, hA5, hA4, hA3, hA2, hA1]
    exact frm_trans (frm_trans (frm_trans (frm_trans (frm_trans (e S 1 n x (by omega)) (e _ 2 n (-1) (by omega)) (fun _ h => h) (fun _ h => h)) (e _ 3 n 0 (by omega)) (fun _ h => h) (fun _ h => h)) (e _ 4 n 0 (by omega)) (fun _ h => h) (fun _ h => h)) (e _ 5 n 0 (by omega)) (fun _ h => h) (fun _ h => h)) (e _ 0 0 _ (by omega)) (fun _ h => h) (fun _ h => h)
theorem CT_nw0 {S S2 : sd_St} {T : TW} (hT : CT 102 S T) {c1 c2 : Nat} (b1 : ∀ q, S2.1 103 q = if q = tn T then -1 else S.1 103 q) (b2 : ∀ q, S2.1 104 q = if q = tn T then -1 else S.1 104 q) (b3 : ∀ q, S2.1 105 q = if q = tn T then 0 else S.1 105 q) (b4 : ∀ q, S2.1 106 q = if q = tn T then 0 else S.1 106 q) (b0 : ∀ j, S2.1 102 j = if j = 0 then nI (tn T + 1) else S.1 102 j) (hs : ∀ a, 108 ≤ a → a ≤ 112 → S2.1 a = S.1 a) : CT 102 S2 (nwP T c1 c2 0) := by
  obtain ⟨t1, t2, t3, t4, t5, t6, t7, t8⟩ := hT
  have r5 : nwP T c1 c2 0 5 = T 5 := nw_hi (by omega)
  have r6 : nwP T c1 c2 0 6 = T 6 := nw_hi (by omega)
  have r7 : nwP T c1 c2 0 7 = T 7 := nw_hi (by omega)
  have r8 : nwP T c1 c2 0 8 = T 8 := nw_hi (by omega)
  have r9 : nwP T c1 c2 0 9 = T 9 := nw_hi (by omega)
  have r10 : nwP T c1 c2 0 10 = T 10 := nw_hi (by omega)
  have r11 : nwP T c1 c2 0 11 = T 11 := nw_hi (by omega)
  have r12 : nwP T c1 c2 0 12 = T 12 := nw_hi (by omega)
  have r13 : nwP T c1 c2 0 13 = T 13 := nw_hi (by omega)
  refine ⟨?_, fun p hp => ?_, ?_, fun i hi => ?_, ?_, fun s hs2 => ?_, ?_, ?_⟩
  · rw [nw_n, b0, if_pos rfl]
  · rw [nw_n] at hp
    show S2.1 103 p = _ ∧ S2.1 104 p = _ ∧ S2.1 105 p = _ ∧ S2.1 106 p = _
    rw [b1, b2, b3, b4]
    by_cases c : p = tn T
    · have e1 : tb (nwP T c1 c2 0) p = 0 := by rw [c]; exact nw_new (Or.inl rfl)
      have e2 : tm (nwP T c1 c2 0) p = 0 := by rw [c]; exact nw_new (Or.inr (Or.inl rfl))
      have e3 : ti (nwP T c1 c2 0) p = 0 := by rw [c]; exact nw_new (Or.inr (Or.inr rfl))
      have e4 : tc (nwP T c1 c2 0) p = 0 := by rw [c, nw_c]; omega
      rw [e1, e2, e3, e4, if_pos c, if_pos c, if_pos c, if_pos c]
      exact ⟨by decide, by decide, rfl, rfl⟩
    · have e1 : tb (nwP T c1 c2 0) p = tb T p := nw_old (Or.inl rfl) c
      have e2 : tm (nwP T c1 c2 0) p = tm T p := nw_old (Or.inr (Or.inl rfl)) c
      have e3 : ti (nwP T c1 c2 0) p = ti T p := nw_old (Or.inr (Or.inr rfl)) c
      have e4 : tc (nwP T c1 c2 0) p = tc T p := by rw [nw_cq c, if_neg (by omega)]
      rw [e1, e2, e3, e4, if_neg c, if_neg c, if_neg c, if_neg c]
      exact t2 p (by omega)
  · rw [b0, if_neg (by decide)]; show _ = nI (nwP T c1 c2 0 5 0); rw [r5]; exact t3
  · have hi : i < nwP T c1 c2 0 5 0 := hi
    rw [r5] at hi
    rw [hs (102 + 6) (by omega) (by omega), hs (102 + 7) (by omega) (by omega), hs (102 + 8) (by omega) (by omega)]
    show _ = nI (nwP T c1 c2 0 6 i) ∧ _ = nI (nwP T c1 c2 0 7 i) ∧ _ = nI (nwP T c1 c2 0 8 i)
    rw [r6, r7, r8]
    exact t4 i hi
  · rw [b0, if_neg (by decide)]; show _ = nI (nwP T c1 c2 0 9 0); rw [r9]; exact t5
  · have hs2 : s < nwP T c1 c2 0 9 0 := hs2
    rw [r9] at hs2
    rw [hs (102 + 9) (by omega) (by omega), hs (102 + 10) (by omega) (by omega)]
    show _ = nI (nwP T c1 c2 0 10 s) ∧ _ = nI (nwP T c1 c2 0 11 s)
    rw [r10, r11]
    exact t6 s hs2
  · rw [b0, if_neg (by decide)]; show _ = nI (nwP T c1 c2 0 12 0); rw [r12]; exact t7
  · rw [b0, if_neg (by decide)]; show _ = nI (nwP T c1 c2 0 13 0); rw [r13]; exact t8
theorem m_tryN {T : TW} (hw : wfT T) (hfull : fullT T) (hn : tn T < 12) {c1 c2 s p : Nat} (hc2 : c2 < 2 ^ tn T) (hs : s < ts T) (hp : p < tn T) {S : sd_St} (hT : CT 17 S T) : ∃ S2, f_X10_tryNewcomer 101 17 (nI c1) (nI c2) (nI s) (nI p) S = some ((), S2) ∧ S2.1 101 6 = b1I (nbs (nwV (nwP T c1 c2 (tn T)) (tn T) s p) 366) ∧ S2.1 101 7 = b2I (nbs (nwV (nwP T c1 c2 (tn T)) (tn T) s p) 366) ∧ frm (fun a => 101 ≤ a ∧ a ≤ 128) S S2 := by
  have hz : S.1 17 15 = 0 ∨ S.1 17 15 = 1 := by
    rw [hT.2.2.2.2.2.2.2]
    have := hw.2.2.2.2.2.2.2
    rcases (show tz T = 0 ∨ tz T = 1 by omega) with e | e <;> rw [e]
    · exact Or.inl rfl
    · exact Or.inr rfl
  obtain ⟨S1, a1, a2, a3, a4⟩ := m_copyT (k0 := 102) (k1 := 17) (by decide) (by decide) (by decide) hz
  have hT1 : CT 102 S1 T := CT_of (by decide) hw hT a2 a3
  have hT17 : CT 17 S1 T := CT_fr hT (fun a g1 g2 => a4.1 a (by omega))
  obtain ⟨S2, b1, b2, b3⟩ := m_markTurns hw hfull hT17
  have hT2 : CT 102 S2 T := CT_fr hT1 (fun a g1 g2 => b3.1 a (by omega))
  obtain ⟨S3, c1', p1, p2, p3, p4, p5, p6, p7⟩ := m_addPerson (k := 102) (by decide) hn hT2.1 (-1)
  have hT3 : CT 102 S3 (nwP T c1 c2 0) := CT_nw0 hT2 p1 p2 p3 p4 p6 (fun a g1 g2 => p7.1 a (by omega))
  obtain ⟨S4, d1, d2, d3⟩ := m_nw33 (c1 := c1) (s := s) (p := p) hw hn hc2 (tn T) sd_FU 0 S3 (by omega) (by unfold sd_FU; omega) hT3
  have hwX := wf_nw (c1 := c1) hw hn hc2 (Nat.le_refl _)
  obtain ⟨S5, L, e1, e2, e3, e4⟩ := m_openAll (d := 113) (k := 102) (by decide) (by decide) (by decide) hwX d2
  obtain ⟨S6, hS6⟩ : ∃ S6, S6 = sd_I (sd_I S5 101 6 (-1)) 101 7 (-1) := ⟨_, rfl⟩
  have f56 : frm (fun a => a = 101) S5 S6 := by rw [hS6]; exact frm_trans (frm_I (c := fun a => a = 101) rfl) (frm_I (c := fun a => a = 101) rfl) (fun _ h => h) (fun _ h => h)
  have f26 : frm (fun a => 101 ≤ a ∧ a ≤ 117) S2 S6 := frm_trans (frm_trans (e := fun a => 101 ≤ a ∧ a ≤ 117) (frm_trans (e := fun a => 101 ≤ a ∧ a ≤ 117) p7 d3 (fun a h => by omega) (fun a h => by omega)) e4 (fun _ h => h) (fun a h => by omega)) f56 (fun _ h => h) (fun a h => by omega)
  have hsX : s < ts (nwP T c1 c2 (tn T)) := by
    show s < nwP T c1 c2 (tn T) 9 0
    rw [nw_hi (by omega)]
    exact hs
  obtain ⟨S7, y1, y2, y3, y4⟩ := m_nw115 (T := T) hn rfl hwX hsX hp e3 366 sd_FU 0 S6 (by omega) (by unfold sd_FU; omega) (CT_fr (CT_fr d2 (fun a g1 g2 => e4.1 a (by omega))) (fun a g1 g2 => f56.1 a (by omega))) (DR_fr e2 (by rw [f56.1 113 (by decide)]) (fun a g1 g2 => f56.1 a (by omega))) (fun x hx => by rw [f26.1 128 (by decide)]; exact b2 x hx) (by rw [hS6, rI_oth (by decide), rI_same]; rfl) (by rw [hS6, rI_same]; rfl)
  refine ⟨S7, ?_, y2, y3, frm_trans (frm_trans (e := fun a => 101 ≤ a ∧ a ≤ 128) (frm_trans (e := fun a => 101 ≤ a ∧ a ≤ 128) a4 b3 (fun a h => by omega) (fun a h => by omega)) f26 (fun _ h => h) (fun a h => by omega)) y4 (fun _ h => h) (fun a h => by omega)⟩
  unfold f_X10_tryNewcomer
  simp only [Nat.reduceAdd]
  rw [sd_cl_ok a1, sd_cl_ok b1, sd_nm_eq, hT2.1, sd_cl_ok c1', show (0 : Int32) = nI 0 from rfl, d1, sd_cl_ok e1, sd_nm_eq, sd_nm_eq, ← hS6]
  rw [nbs_0, bsT_0, show nI (min 4392 FARN) - 1 = (4391 : Int32) from by decide] at y1
  exact y1
/-! the reference -/
theorem RTg_nw {g0 g : Nat → Int32} {T : TW} (hw : wfT T) (hn : tn T < 12) (h : RTg g0 T) {c1 c2 d : Nat} (hc2 : c2 < 2 ^ tn T) (e2 : g 2 = nI (tn T + 1)) (eb : g (3 + 4 * tn T) = nI d) (em : g (3 + 4 * tn T + 1) = 0) (ei : g (3 + 4 * tn T + 2) = 0) (ec : g (3 + 4 * tn T + 3) = nI c2) (eq : ∀ q, q < tn T → g (3 + 4 * q + 3) = nI (if c1.testBit q = true then tc T q ||| 2 ^ tn T else tc T q)) (eo : ∀ q, q < tn T → g (3 + 4 * q) = g0 (3 + 4 * q) ∧ g (3 + 4 * q + 1) = g0 (3 + 4 * q + 1) ∧ g (3 + 4 * q + 2) = g0 (3 + 4 * q + 2)) (ez : ∀ j, j < 2 ∨ (51 ≤ j ∧ j < 97) → g j = g0 j) : RTg g (setB (nwP T c1 c2 (tn T)) (tn T) d) := by
  have ha12 := hw.2.2.1
  have h4 := hw.2.2.2.2.1
  obtain ⟨t1, t2, t3, t4, t5, t6, t7, t8⟩ := h
  have hi : ∀ i, 5 ≤ i → setB (nwP T c1 c2 (tn T)) (tn T) d i = T i := fun i hi => by rw [setB_o (by omega), nw_hi hi]
  refine ⟨?_, ?_, ?_, fun p hp => ?_, ?_, fun i hi2 => ?_, ?_, fun s hs => ?_⟩
  · rw [ez 0 (by omega)]; show _ = nI (setB _ _ d 12 0); rw [hi 12 (by omega)]; exact t1
  · rw [ez 1 (by omega)]; show _ = nI (setB _ _ d 13 0); rw [hi 13 (by omega)]; exact t2
  · rw [setB_tn, nw_n]; exact e2
  · rw [setB_tn, nw_n] at hp
    have hb : tb (setB (nwP T c1 c2 (tn T)) (tn T) d) p = if p = tn T then d + 1 else tb T p := by
      show (if 1 = 1 ∧ p = tn T then d + 1 else nwP T c1 c2 (tn T) 1 p) = _
      by_cases c : p = tn T
      · rw [if_pos ⟨rfl, c⟩, if_pos c]
      · rw [if_neg (fun z => c z.2), if_neg c, nw_old (Or.inl rfl) c]
    have hm : tm (setB (nwP T c1 c2 (tn T)) (tn T) d) p = nwP T c1 c2 (tn T) 2 p := rfl
    have hil : ti (setB (nwP T c1 c2 (tn T)) (tn T) d) p = nwP T c1 c2 (tn T) 3 p := rfl
    rw [hb, hm, hil, setB_tc]
    by_cases c : p = tn T
    · subst c
      rw [if_pos rfl, nw_new (Or.inr (Or.inl rfl)), nw_new (Or.inr (Or.inr rfl)), nw_c, Nat.mod_eq_of_lt hc2, nI_pred]
      exact ⟨eb, em, ei, ec⟩
    · rw [if_neg c, nw_old (Or.inr (Or.inl rfl)) c, nw_old (Or.inr (Or.inr rfl)) c, nw_cq c]
      obtain ⟨o1, o2, o3⟩ := eo p (by omega)
      obtain ⟨a1, a2, a3, -⟩ := t4 p (by omega)
      refine ⟨by rw [o1]; exact a1, by rw [o2]; exact a2, by rw [o3]; exact a3, ?_⟩
      rw [eq p (by omega)]
      by_cases cb : c1.testBit p = true
      · rw [if_pos cb, if_pos ⟨by omega, cb⟩]
      · rw [if_neg cb, if_neg (fun z => cb z.2)]
  · rw [ez 51 (by omega)]; show _ = nI (setB _ _ d 5 0); rw [hi 5 (by omega)]; exact t5
  · have hi2 : i < setB (nwP T c1 c2 (tn T)) (tn T) d 5 0 := hi2
    rw [hi 5 (by omega)] at hi2
    have : i < ta T := hi2
    rw [ez _ (by omega), ez _ (by omega), ez _ (by omega)]
    show _ = nI (setB _ _ d 6 i) ∧ _ = nI (setB _ _ d 7 i) ∧ _ = nI (setB _ _ d 8 i)
    rw [hi 6 (by omega), hi 7 (by omega), hi 8 (by omega)]
    exact t6 i hi2
  · rw [ez 88 (by omega)]; show _ = nI (setB _ _ d 9 0); rw [hi 9 (by omega)]; exact t7
  · have hs : s < setB (nwP T c1 c2 (tn T)) (tn T) d 9 0 := hs
    rw [hi 9 (by omega)] at hs
    have : s < ts T := hs
    rw [ez _ (by omega), ez _ (by omega)]
    show _ = nI (setB _ _ d 10 s) ∧ _ = nI (setB _ _ d 11 s)
    rw [hi 10 (by omega), hi 11 (by omega)]
    exact t8 s hs
theorem n_nw115 {T : TW} (hn : tn T < 12) {c1 : Nat} {x3 x4 x5 x7 : Int32} {g0 : Nat → Int32} (hg : ∀ q, q < tn T → g0 (3 + 4 * q + 3) = nI (tc T q)) : ∀ (m n k : Nat) (S : sd_St), k + m = tn T → m < n → (∀ j, S.1 136 j = if ∃ q, q < k ∧ c1.testBit q = true ∧ j = 3 + 4 * q + 3 then nI (tc T ((j - 6) / 4) ||| 2 ^ tn T) else g0 j) → ∃ S2, f_X12_newcomer_l115 n (nI c1) x3 x4 x5 (nI (tn T)) x7 (nI k) S = f_X12_newcomer_l173 sd_FU x3 x4 x5 x7 (-1 : Int32) (1000000 : Int32) (0 : Int32) S2 ∧ (∀ j, S2.1 136 j = if ∃ q, q < tn T ∧ c1.testBit q = true ∧ j = 3 + 4 * q + 3 then nI (tc T ((j - 6) / 4) ||| 2 ^ tn T) else g0 j) ∧ frm (fun a => a = 136) S S2 := by
  intro m
  induction m with
  | zero =>
    intro n k S hk hm hS
    obtain ⟨n, rfl⟩ : ∃ n', n = n' + 1 := ⟨n - 1, by omega⟩
    refine ⟨S, ?_, by rw [show tn T = k by omega]; rw [show tn T = k by omega] at hS; exact hS, frm_rfl⟩
    unfold f_X12_newcomer_l115
    rw [if_pos (nI_le (by omega) (by omega))]
  | succ m ih =>
    intro n k S hk hm hS
    obtain ⟨n, rfl⟩ : ∃ n', n = n' + 1 := ⟨n - 1, by omega⟩
    have hkn : k < tn T := by omega
    have hSk : S.1 136 (3 + 4 * k + 3) = nI (tc T k) := by
      rw [hS, if_neg (by rintro ⟨q, h1, -, h2⟩; omega)]
      exact hg k hkn
    have key : ∀ w : Nat, w = (if c1.testBit k = true then 2 ^ tn T else 0) → ∃ S2, f_X12_newcomer_b154 (f_X12_newcomer_l115 n) (nI c1) x3 x4 x5 (nI (tn T)) x7 (nI k) (nI (3 + 4 * k + 3)) (nI (tc T k)) (nI w) S = f_X12_newcomer_l173 sd_FU x3 x4 x5 x7 (-1 : Int32) (1000000 : Int32) (0 : Int32) S2 ∧ (∀ j, S2.1 136 j = if ∃ q, q < tn T ∧ c1.testBit q = true ∧ j = 3 + 4 * q + 3 then nI (tc T ((j - 6) / 4) ||| 2 ^ tn T) else g0 j) ∧ frm (fun a => a = 136) S S2 := by
      intro w hwv
      obtain ⟨S1, hS1⟩ : ∃ S1, S1 = sd_I S 136 (3 + 4 * k + 3) (nI (tc T k ||| w)) := ⟨_, rfl⟩
      have f1 : frm (fun a => a = 136) S S1 := by rw [hS1]; exact frm_I rfl
      obtain ⟨S2, e1, e2, e3⟩ := ih n (k + 1) S1 (by omega) (by omega) (fun j => by
        rw [hS1]
        by_cases cj : j = 3 + 4 * k + 3
        · rw [cj, rI_same, hwv]
          by_cases cb : c1.testBit k = true
          · rw [if_pos cb, if_pos ⟨k, by omega, cb, rfl⟩, show (3 + 4 * k + 3 - 6) / 4 = k by omega]
          · rw [if_neg cb, Nat.or_zero, if_neg (by
              rintro ⟨q, h1, h2, h3⟩
              have : q = k := by omega
              rw [this] at h2
              exact cb h2), hg k hkn]
        · rw [rI_oth cj, hS j]
          by_cases ce : ∃ q, q < k ∧ c1.testBit q = true ∧ j = 3 + 4 * q + 3
          · obtain ⟨q, h1, h2, h3⟩ := ce
            rw [if_pos ⟨q, h1, h2, h3⟩, if_pos ⟨q, by omega, h2, h3⟩]
          · rw [if_neg ce, if_neg (by
              rintro ⟨q, h1, h2, h3⟩
              exact ce ⟨q, by
                rcases Nat.lt_or_ge q k with z | z
                · exact z
                · exfalso
                  apply cj
                  have : q = k := by omega
                  rw [h3, this], h2, h3⟩)])
      refine ⟨S2, ?_, e2, frm_trans f1 e3 (fun _ h => h) (fun _ h => h)⟩
      unfold f_X12_newcomer_b154
      rw [nI_or, sd_st_ok (by rw [al136]; omega) (sd_al_lt _), ← hS1, nI_1]
      exact e1
    unfold f_X12_newcomer_l115
    rw [if_neg (nI_ge hkn (by omega)), ix4, ixb, ldT (by omega), hSk]
    by_cases cb : c1.testBit k = true
    · rw [if_pos ((bit1 (nI c1) (by omega)).mpr (by rw [hb_nI (by omega)]; exact cb)), shl_nI (by omega)]
      exact key _ (by rw [if_pos cb])
    · rw [if_neg (fun z => cb (by have := (bit1 (nI c1) (by omega)).mp z; rw [hb_nI (by omega)] at this; exact this))]
      exact key 0 (by rw [if_neg cb])
theorem n_nw173 {X : TW} {n0 s p : Nat} (hwX : ∀ d, d < 366 → wfT (setB X n0 d)) (hfX : ∀ d, fullT (setB X n0 d)) (hn : n0 < 12) (hs : s < ts X) (hp : p < tn X) (hp12 : p < 12) {x5 : Int32} (hx5 : x5 = 0 ∨ x5 = 1) {g0 : Nat → Int32} (hR : ∀ (g : Nat → Int32) d, g (3 + 4 * n0) = nI d → (∀ j, j ≠ 3 + 4 * n0 → g j = g0 j) → RTg g (setB X n0 d)) (hv : ∀ d, nwV X n0 s p d = FARN ∨ nwV X n0 s p d < 4392) : ∀ (m n d : Nat) (S : sd_St), d + m = 366 → m < n → (∀ j, j ≠ 3 + 4 * n0 → S.1 136 j = g0 j) → ∃ S2, f_X12_newcomer_l173 n (nI s) (nI p) x5 (nI (3 + 4 * n0)) (b2I (nbs (nwV X n0 s p) d)) (b3I (nbs (nwV X n0 s p) d)) (nI d) S = sd_cl (f_X12_carry (1 : Int32) (0 : Int32) S2) (fun _ S_6 => some (if x5 = 0 then b1I (nbs (nwV X n0 s p) 366) else b2I (nbs (nwV X n0 s p) 366), S_6)) ∧ (∀ j, j ≠ 3 + 4 * n0 → S2.1 136 j = g0 j) ∧ frm (fun a => a = 130 ∨ a = 136 ∨ (139 ≤ a ∧ a ≤ 141)) S S2 ∧ ∀ j, j ≠ 16 → S2.1 130 j = S.1 130 j := by
  intro m
  induction m with
  | zero =>
    intro n d S hd hm hS
    obtain ⟨n, rfl⟩ : ∃ n', n = n' + 1 := ⟨n - 1, by omega⟩
    have hd6 : d = 366 := by omega
    subst hd6
    refine ⟨S, ?_, hS, frm_rfl, fun _ _ => rfl⟩
    unfold f_X12_newcomer_l173
    rw [if_pos (show (366 : Int32) ≤ nI 366 from nI_le (a := 366) (by omega) (by omega))]
    have hcase := nbs_v hv (d := 366)
    generalize nbs (nwV X n0 s p) 366 = Z at *
    clear hv hR hS
    congr 1
    funext _ S_6
    rcases hcase with e | ⟨x, q, e, h1, h2⟩
    · subst e
      rcases hx5 with g | g <;> rw [g] <;> rfl
    · subst e
      show (if nI q < 0 then _ else _) = some (if x5 = 0 then nI x else nI q, S_6)
      rw [if_neg (nI_pos (by omega))]
      rcases hx5 with g | g
      · rw [g, if_neg (by decide), if_pos rfl]; rfl
      · rw [g, if_pos rfl, if_neg (by decide)]; rfl
  | succ m ih =>
    intro n d S hd hm hS
    obtain ⟨n, rfl⟩ : ∃ n', n = n' + 1 := ⟨n - 1, by omega⟩
    have hd3 : d < 366 := by omega
    obtain ⟨S1, hS1⟩ : ∃ S1, S1 = sd_I S 136 (3 + 4 * n0) (nI d) := ⟨_, rfl⟩
    have f1 : frm (fun a => a = 136) S S1 := by rw [hS1]; exact frm_I rfl
    have hg1 : ∀ j, j ≠ 3 + 4 * n0 → S1.1 136 j = g0 j := fun j hj => by rw [hS1, rI_oth hj]; exact hS j hj
    have hT1 : RTg (S1.1 136) (setB X n0 d) := hR _ d (by rw [hS1, rI_same]) hg1
    obtain ⟨S2, e1, e2, e3, e4⟩ := n_find (hwX d hd3) (hfX d) (s := s) hs hT1
    have q1 : S2.1 140 p = nI (nwV X n0 s p d) := BR_h e2 p hp
    have f12 : frm (fun a => a = 130 ∨ a = 136 ∨ (139 ≤ a ∧ a ≤ 141)) S S2 := frm_trans f1 e3 (fun a h => Or.inr (Or.inl h)) (fun a h => by omega)
    obtain ⟨S3, y1, y2, y3, y4⟩ := ih n (d + 1) S2 (by omega) (by omega) (fun j hj => by rw [e3.1 136 (by omega)]; exact hg1 j hj)
    refine ⟨S3, ?_, y2, frm_trans f12 y3 (fun _ h => h) (fun _ h => h), fun j hj => by rw [y4 j hj, e4 j hj, f1.1 130 (by decide)]⟩
    have hvd := hv d
    have hb3 : ∃ B, B ≤ FARN ∧ b3I (nbs (nwV X n0 s p) d) = nI B ∧ bsT (nbs (nwV X n0 s p) d) = B := by
      rcases nbs_v hv (d := d) with e | ⟨x, q, e, h1, h2⟩
      · rw [e]; exact ⟨FARN, Nat.le_refl _, rfl, rfl⟩
      · rw [e]; exact ⟨x, by unfold FARN; omega, rfl, rfl⟩
    obtain ⟨B, hB, hB3, hBT⟩ := hb3
    have pre : ∀ R, (if nI B ≤ nI (nwV X n0 s p d) then f_X12_newcomer_l173 n (nI s) (nI p) x5 (nI (3 + 4 * n0)) (b2I (nbs (nwV X n0 s p) d)) (b3I (nbs (nwV X n0 s p) d)) (nI (d + 1)) S2 else f_X12_newcomer_l173 n (nI s) (nI p) x5 (nI (3 + 4 * n0)) (nI d) (nI (nwV X n0 s p d)) (nI (d + 1)) S2) = R → f_X12_newcomer_l173 (n + 1) (nI s) (nI p) x5 (nI (3 + 4 * n0)) (b2I (nbs (nwV X n0 s p) d)) (b3I (nbs (nwV X n0 s p) d)) (nI d) S = R := by
      intro R hR2
      unfold f_X12_newcomer_l173 f_X12_newcomer_b214 f_X12_newcomer_b240
      rw [if_neg (show ¬ (366 : Int32) ≤ nI d from nI_ge (b := 366) (by omega) (by decide)), sd_st_ok (by rw [al136]; omega) (sd_al_lt _), ← hS1, sd_cl_ok e1, sd_ld_ok (by rw [al140]; omega) (sd_al_lt _), q1, hB3, nI_1]
      rw [hB3] at hR2
      by_cases c : nI B ≤ nI (nwV X n0 s p d)
      · rw [if_pos c] at hR2
        rw [if_pos c, sd_ld_ok (by rw [al140]; omega) (sd_al_lt _), q1, if_pos c]
        exact hR2
      · rw [if_neg c] at hR2
        rw [if_neg c, sd_ld_ok (by rw [al140]; omega) (sd_al_lt _), q1, if_neg c, sd_ld_ok (by rw [al140]; omega) (sd_al_lt _), q1]
        exact hR2
    refine pre _ ?_
    generalize hw0 : nwV X n0 s p d = A at *
    by_cases c : A < bsT (nbs (nwV X n0 s p) d)
    · have e := nbs_y (v := nwV X n0 s p) (d := d) (by rw [hw0]; exact c)
      rw [hBT] at c
      rw [if_neg (nI_ge c (by unfold FARN at hB; omega))]
      rw [e, hw0] at y1
      exact y1
    · have e := nbs_n (v := nwV X n0 s p) (d := d) (by rw [hw0]; exact c)
      rw [hBT] at c
      rw [if_pos (nI_le (by omega) (by rcases hvd with g | g <;> unfold FARN at *; omega; omega))]
      rw [e] at y1
      exact y1
