/-! TOWN, by the reference; both agree -/
theorem n_wipe_l : ∀ (m n i : Nat) (S : sd_St), i + m = 170 → m < n → ∃ S2, f_X12_town_l21 n (nI i) S = f_X12_town_l45 sd_FU S2 ∧ (∀ j, S2.1 136 j = if 170 + i ≤ j ∧ j < 340 then 0 else S.1 136 j) ∧ frm (fun a => a = 136) S S2 := by
  intro m
  induction m with
  | zero =>
    intro n i S hi hn
    obtain ⟨n, rfl⟩ : ∃ n', n = n' + 1 := ⟨n - 1, by omega⟩
    refine ⟨S, ?_, fun j => by rw [if_neg (by omega)], frm_rfl⟩
    unfold f_X12_town_l21
    rw [if_pos (show (170 : Int32) ≤ nI i from nI_le (a := 170) (by omega) (by omega))]
  | succ m ih =>
    intro n i S hi hn
    obtain ⟨n, rfl⟩ : ∃ n', n = n' + 1 := ⟨n - 1, by omega⟩
    obtain ⟨Sa, hSa⟩ : ∃ Sa, Sa = sd_I S 136 (170 + i) 0 := ⟨_, rfl⟩
    obtain ⟨S2, e1, e2, e3⟩ := ih n (i + 1) Sa (by omega) (by omega)
    refine ⟨S2, ?_, fun j => ?_, frm_trans (by rw [hSa]; exact frm_I (c := fun a => a = 136) rfl) e3 (fun _ h => h) (fun _ h => h)⟩
    · unfold f_X12_town_l21
      rw [if_neg (show ¬ (170 : Int32) ≤ nI i from nI_ge (b := 170) (by omega) (by decide)), show (170 : Int32) + nI i = nI (170 + i) from by rw [show (170 : Int32) = nI 170 from rfl, nI_add], sd_st_ok (by rw [al136]; omega) (sd_al_lt _), ← hSa, nI_1]
      exact e1
    · rw [e2, hSa]
      by_cases c : j = 170 + i
      · rw [if_neg (by omega), if_pos (by omega), c, rI_same]
      · rw [rI_oth c]
        by_cases c2 : 170 + i ≤ j ∧ j < 340
        · rw [if_pos (by omega), if_pos c2]
        · rw [if_neg (by omega), if_neg c2]
theorem n_unmark_l : ∀ (m n i : Nat) (S : sd_St), i + m = 4 → m < n → (∀ j, j < i → S.1 154 j = 0) → ∃ S2, f_X12_town_l97 n (nI i) S = some (0, S2) ∧ (∀ j, j < 4 → S2.1 154 j = 0) ∧ frm (fun a => a = 154) S S2 := by
  intro m
  induction m with
  | zero =>
    intro n i S hi hn h
    obtain ⟨n, rfl⟩ : ∃ n', n = n' + 1 := ⟨n - 1, by omega⟩
    refine ⟨S, ?_, fun j hj => h j (by omega), frm_rfl⟩
    unfold f_X12_town_l97
    rw [if_pos (show (4 : Int32) ≤ nI i from nI_le (a := 4) (by omega) (by omega))]
  | succ m ih =>
    intro n i S hi hn h
    obtain ⟨n, rfl⟩ : ∃ n', n = n' + 1 := ⟨n - 1, by omega⟩
    obtain ⟨Sa, hSa⟩ : ∃ Sa, Sa = sd_I S 154 i (vp_nar .boolean (0 : Int32)) := ⟨_, rfl⟩
    have fa : frm (fun a => a = 154) S Sa := by rw [hSa]; exact frm_I rfl
    obtain ⟨S2, e1, e2, e3⟩ := ih n (i + 1) Sa (by omega) (by omega) (fun j hj => by
      rw [hSa]
      by_cases c : j = i
      · rw [c, rI_same]; decide
      · rw [rI_oth c]; exact h j (by omega))
    refine ⟨S2, ?_, e2, frm_trans fa e3 (fun _ h => h) (fun _ h => h)⟩
    unfold f_X12_town_l97
    rw [if_neg (show ¬ (4 : Int32) ≤ nI i from nI_ge (b := 4) (by omega) (by decide)), sd_st_ok (show i < sd_al 154 by rw [show sd_al 154 = 4 from by decide]; omega) (sd_al_lt _), ← hSa, nI_1]
    exact e1
theorem n_town {S : sd_St} {σ : Sg} (hw : WF σ) (h : IR S σ) : ∃ S1, f_X12_town S = some (eI (told σ.2.2.2), S1) ∧ IR S1 (sgT σ) ∧ frm hiC S S1 := by
  have h1000 := hw.2.2.2.2.1
  obtain ⟨tp, htp⟩ : ∃ tp, tp = σ.2.2.2 := ⟨_, rfl⟩
  have hlen := tl_len (tp := tp) (by rw [htp]; exact h1000)
  obtain ⟨A1, hA1⟩ : ∃ A, A = sd_I S 130 0 0 := ⟨_, rfl⟩
  obtain ⟨A2, hA2⟩ : ∃ A, A = sd_I A1 130 3 (A1.1 130 2) := ⟨_, rfl⟩
  obtain ⟨A3, hA3⟩ : ∃ A, A = sd_I A2 130 2 0 := ⟨_, rfl⟩
  have h2 : A1.1 130 2 = nI tp.length := by rw [hA1, rI_oth (by decide), htp]; exact h.2.2.1.1
  have hT : RTp A3 tp := by
    refine ⟨?_, fun i c hi => ?_, by rw [htp]; exact h1000, by rw [htp]; exact hw.2.2.2.2.2⟩
    · rw [hA3, rI_oth (by decide), hA2, rI_same, h2]
    · rw [hA3, rI_cell (by decide), hA2, rI_cell (by decide), hA1, rI_cell (by decide)]
      exact h.2.2.1.2 i c (by rw [← htp]; exact hi)
  obtain ⟨B, b1, b2, b3, b4, b5, b6, b7, b8, -⟩ := n_cut_l (tp := tp) 1000 sd_FU 0 0 A3 (by rw [htp]; omega) (by unfold sd_FU; omega) (by omega) (by omega) hT
  obtain ⟨C1, hC1⟩ : ∃ A, A = sd_I B 130 13 0 := ⟨_, rfl⟩
  obtain ⟨C2, hC2⟩ : ∃ A, A = sd_I C1 130 14 0 := ⟨_, rfl⟩
  obtain ⟨D, d1, d2, d3⟩ := n_wipe_l 170 sd_FU 0 C2 (by omega) (by unfold sd_FU; omega)
  have oD : ∀ a, a ≠ 136 → D.1 a = C2.1 a := fun a ha => d3.1 a ha
  have oC : ∀ a, a ≠ 130 → C2.1 a = B.1 a := fun a ha => by rw [hC2, rI_cell ha, hC1, rI_cell ha]
  have lD : ∀ a, a ≠ 136 → D.2 a = B.2 a := fun a ha => by rw [d3.2 a ha, hC2, hC1]; rfl
  have e8 : D.1 130 8 = 0 := by rw [oD 130 (by decide), hC2, rI_oth (by decide), hC1, rI_oth (by decide)]; exact b6
  have e7 : D.1 130 7 = 0 := by rw [oD 130 (by decide), hC2, rI_oth (by decide), hC1, rI_oth (by decide)]; exact b5
  have e13 : D.1 130 13 = 0 := by rw [oD 130 (by decide), hC2, rI_oth (by decide), hC1, rI_same]
  have e14 : D.1 130 14 = 0 := by rw [oD 130 (by decide), hC2, rI_same]
  have ez : ∀ j, j < 170 → D.1 136 (170 + j) = 0 := fun j hj => by rw [d2, if_pos (by omega)]
  have hB135 : B.2 135 = S.2 135 := by rw [b8.2 135 (by decide), hA3, hA2, hA1]; rfl
  have hat : AT D tp := by
    refine ⟨fun j t hj => ?_, ?_, ?_, by rw [htp]; exact h1000, fun i hi => by rw [lD 135 (by decide), hB135]; exact h.2.2.2 i hi⟩
    · have := b2 j t hj
      rw [Nat.zero_add] at this
      unfold RT at this ⊢
      rw [oD 133 (by decide), oC 133 (by decide), oD 132 (by decide), oC 132 (by decide), lD 134 (by decide)]
      exact this
    · rw [oD 132 (by decide), oC 132 (by decide)]
      rw [Nat.zero_add] at b3; exact b3
    · rw [oD 133 (by decide), oC 133 (by decide)]
      rw [Nat.zero_add] at b4; exact b4
  have hO : OKR D tp (TW0, [], false) (tks tp 0) := by
    refine ⟨⟨hat, e8, ⟨0, by rw [e7]; rfl, Nat.zero_le _, rfl⟩, ⟨ez 0 (by omega), ez 1 (by omega), ez 2 (by omega), fun p hp => absurd hp (Nat.not_lt_zero p), ez 51 (by omega), fun p hp => absurd hp (Nat.not_lt_zero p), ez 88 (by omega), fun p hp => absurd hp (Nat.not_lt_zero p)⟩, ⟨fun p hp hp2 => ⟨ez _ (by omega), ez _ (by omega), ez _ (by omega)⟩, ez 97 (by omega)⟩, ⟨by rw [e13]; rfl, fun j w v hj => (by cases hj)⟩, by rw [e14]; rfl, ⟨Nat.zero_le _, fun w v hm => (by cases hm)⟩⟩, fun _ => ⟨ez _ (by decide), ez _ (by decide), ez _ (by decide)⟩⟩
  obtain ⟨E, g1, g2, g3⟩ := n_town_l (tp := tp) 1000 sd_FU D _ _ hlen (by unfold sd_FU; omega) hO PW_0
  have g2 : ENDr E tp (told tp) := g2
  have hpre : ∀ R, f_X12_town_b77 E = R → f_X12_town S = R := by
    intro R hR
    unfold f_X12_town f_X12_cutAll
    rw [sd_nm_eq, ← hA1, sd_nm_eq, ← hA2, sd_nm_eq, ← hA3, sd_cl_ok (show f_X12_cutAll_l17 sd_FU (0 : Int32) (0 : Int32) A3 = _ from b1), sd_nm_eq, ← hC1, sd_nm_eq, ← hC2]
    exact (d1.trans g1).trans hR
  -- what the whole kept
  have kE : ∀ a, ¬ (a = 130 ∨ (132 ≤ a ∧ a ≤ 134) ∨ (136 ≤ a ∧ a ≤ 138)) → E.1 a = S.1 a := by
    intro a ha
    rw [g3.1.1 a (by omega), oD a (by omega), oC a (by omega), b8.1 a (by omega), hA3, rI_cell (by omega), hA2, rI_cell (by omega), hA1, rI_cell (by omega)]
  have kL : ∀ a, ¬ (a = 130 ∨ (132 ≤ a ∧ a ≤ 134) ∨ (136 ≤ a ∧ a ≤ 138)) → E.2 a = S.2 a := by
    intro a ha
    rw [g3.1.2 a (by omega), lD a (by omega), b8.2 a (by omega), hA3, hA2, hA1]
    rfl
  have k2 : E.1 130 2 = 0 := by
    rw [g3.2.2 2 (by decide) (by decide) (by decide) (by decide), oD 130 (by decide), hC2, rI_oth (by decide), hC1, rI_oth (by decide), b7 2 (by decide) (by decide), hA3, rI_same]
  have k136 : ∀ j, j < 170 ∨ 340 ≤ j → E.1 136 j = S.1 136 j := by
    intro j hj
    rw [g3.2.1 j hj, d2, if_neg (by omega), hC2, rI_cell (by decide), hC1, rI_cell (by decide), b8.1 136 (by omega), hA3, rI_cell (by decide), hA2, rI_cell (by decide), hA1, rI_cell (by decide)]
  have fE : frm hiC S E := ⟨fun a ha => kE a (by unfold hiC at ha; omega), fun a ha => kL a (by unfold hiC at ha; omega)⟩
  rw [← htp]
  unfold sgT
  rw [← htp]
  cases ht : told tp with
  | error e =>
    rw [ht] at g2
    have g2 : FLr E e := g2
    refine ⟨E, hpre _ ?_, ?_, fE⟩
    · unfold f_X12_town_b77
      rw [if_neg (FLr_nle g2), g2.1]
      rfl
    · have hI := IR_136 (S := S) (S2 := sd_I E 130 2 (S.1 130 2)) hw h (fun j hj => by rw [rI_cell (by decide)]; exact k136 j hj) (by rw [rI_cell (by decide)]; exact kE 154 (by omega)) rI_same (by rw [rI_cell (by decide)]; exact kE 131 (by omega)) (kL 135 (by omega))
      obtain ⟨i1, i2, -, i4⟩ := hI
      rw [rI_cell (by decide)] at i1 i2
      rw [rI_cell (by decide)] at i2
      exact ⟨i1, i2, ⟨k2, fun i c z => (by cases z)⟩, i4⟩
  | ok P =>
    rw [ht] at g2
    have g2 : OKR E tp P [] := g2
    obtain ⟨F, f1, f2, f3, f4, f5⟩ := n_carry (a := 1) (b := 0) (by decide) (by decide) (by decide) E
    obtain ⟨G, q1, q2, q3⟩ := n_unmark_l 4 sd_FU 0 F (by omega) (by unfold sd_FU; omega) (fun j hj => absurd hj (Nat.not_lt_zero j))
    have hP : PW P := told_PW (by rw [htp]; exact h1000) (by rw [htp]; exact hw.2.2.2.2.2) ht
    have h0 : ∀ j, j < 170 → G.1 136 j = E.1 136 (170 + j) := by
      intro j hj
      rw [q3.1 136 (by decide)]
      have := f2 j hj
      rw [show 170 * 0 + j = j by omega, show 170 * 1 + j = 170 + j by omega] at this
      exact this
    refine ⟨G, hpre _ ?_, ⟨⟨RTg_fr hP.1 g2.1.2.2.2.1 (fun j hj => h0 j (by omega)), ?_, fun i w s t n z => (by cases z)⟩, fun m hm => Or.inl ⟨rfl, q2 m hm⟩, ⟨?_, fun i c z => (by cases z)⟩, fun i hi => ?_⟩, ?_⟩
    · unfold f_X12_town_b77
      rw [g2.1.2.1, if_pos (by decide), show (1 : Int32) = nI 1 from rfl, show (0 : Int32) = nI 0 from rfl, sd_cl_ok f1, q1]
      rfl
    · rw [h0 97 (by omega)]
      exact g2.1.2.2.2.2.1.2
    · rw [q3.1 130 (by decide), f4 130 (by decide)]; exact k2
    · rw [q3.2 135 (by decide), f5, kL 135 (by omega)]; exact h.2.2.2 i hi
    · refine frm_trans fE (frm_trans (c := hiC) (e := hiC) ⟨fun a ha => f4 a (by unfold hiC at ha; omega), fun a _ => by rw [f5]⟩ q3 (fun _ h => h) (fun a h => by unfold hiC; omega)) (fun _ h => h) (fun _ h => h)
theorem ag_town : AG f_X11_town f_X12_town := by
  intro σ hw
  exact ⟨eI (told σ.2.2.2), sgT σ, wf_sgT hw, fun S h => m_town hw h, fun S h => n_town hw h⟩
