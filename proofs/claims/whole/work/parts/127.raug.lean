/-! THE REFERENCE KEEPS A WAY: copies, back, and what is next -/
theorem nx_aug {N : Nat} {s t : Nat → Prop} {E : Nat → Nat → Prop} {u : Nat → Bool} {c : Nat → Option Nat} (hG : GF N s t E u c) {tF : Nat → Option Nat} {tB : Nat → Nat} {onF onB : Nat → Prop} {x : Nat} (W : WAY N s E u c tF tB onF onB x) {u' : Nat → Bool} {c' : Nat → Option Nat} (U1 : ∀ e, onF e → tF e = some e → u' e = false) (U2 : ∀ e, onB e → tB e = e → u' e = true) (U3 : ∀ e, ¬ (onF e ∧ tF e = some e) → ¬ (onB e ∧ tB e = e) → u' e = u e) (V1 : ∀ e, onF e → tF e ≠ some e → c' e = tF e) (V2 : ∀ e, ¬ (onF e ∧ tF e ≠ some e) → c' e = c e) :
    (∀ e, u' e = true → c' e ≠ some x) ∧ (∀ d, onB d → d ≠ x → u' d = true → ∃ f, onF f ∧ tF f = some d ∧ d ≠ f ∧ u' f = true ∧ c' f = some d) ∧ (∀ d, ¬ onB d → u' d = u d ∧ (∀ f, onF f → tF f ≠ some d) ∧ ∀ e, (u' e = true ∧ c' e = some d) ↔ (u e = true ∧ c e = some d)) := by
  obtain ⟨h1, h2, h3, h4, h5⟩ := hG
  obtain ⟨w1, w2, w3, w4, w5, w6, w7, r, w8, w9⟩ := W
  have k1 : ∀ b e, onB b → u e = true → c e = some b → onF e ∧ tB b = e := by
    intro b e hb ue ce
    obtain ⟨-, q2, q3⟩ := w1 b hb
    have ub := (h3 e b ue ce).1
    rcases q3 with ⟨-, q⟩ | ⟨-, q4, q5⟩
    · rw [ub] at q; cases q
    · have := h4 _ _ _ q4 ue q5 ce
      rw [this] at q2
      exact ⟨q2, this⟩
  have k2 : ∀ f, onF f → tF f ≠ some f → u' f = true := by
    intro f hf hn
    obtain ⟨b, hb, eb⟩ := w3 f hf
    obtain ⟨-, -, q3⟩ := w1 b hb
    rw [eb] at q3
    rcases q3 with ⟨q, -⟩ | ⟨q4, q5, -⟩
    · rw [← q] at eb hb
      exact U2 f hb eb
    · by_cases c2 : onB f ∧ tB f = f
      · exact U2 f c2.1 c2.2
      · rw [U3 f (fun z => hn z.2) c2]; exact q5
  have k4 : ∀ e, ¬ onF e → u' e = u e := by
    intro e he
    refine U3 e (fun z => he z.1) (fun z => ?_)
    have := (w1 e z.1).2.1
    rw [z.2] at this
    exact he this
  have k5 : ∀ e, ¬ onF e → c' e = c e := fun e he => V2 e (fun z => he z.1)
  have k6 : ∀ e, onF e → u' e = true → tF e ≠ some e := by
    intro e he hu z
    rw [U1 e he z] at hu; cases hu
  have k8 : ∀ f d, onF f → tF f = some d → onB d := by
    intro f d hf z
    rcases (w2 f hf).2 with ⟨q, -⟩ | ⟨d', q, q2, -⟩
    · rw [z] at q; cases q
    · rw [z] at q; cases q; exact q2
  refine ⟨fun e hu hc => ?_, fun d hd hne hu => ?_, fun d hd => ⟨?_, fun f hf z => hd (k8 f d hf z), fun e => ⟨fun z => ?_, fun z => ?_⟩⟩⟩
  · by_cases c1 : onF e
    · rw [V1 e c1 (k6 e c1 hu)] at hc
      exact w6 e c1 hc
    · rw [k5 e c1] at hc
      rw [k4 e c1] at hu
      exact c1 (k1 x e w7 hu hc).1
  · obtain ⟨f, q1, q2⟩ := w5 d hd hne
    have hdf : d ≠ f := by
      intro z
      rw [← z] at q1 q2
      rw [U1 d q1 q2] at hu; cases hu
    have hn : tF f ≠ some f := by
      rw [q2]; intro z; cases z; exact hdf rfl
    exact ⟨f, q1, q2, hdf, k2 f q1 hn, by rw [V1 f q1 hn]; exact q2⟩
  · exact U3 d (fun z => hd (k8 d d z.1 z.2)) (fun z => hd z.1)
  · by_cases c1 : onF e
    · have hz := z.2
      rw [V1 e c1 (k6 e c1 z.1)] at hz
      exact absurd (k8 e d c1 hz) hd
    · rw [← k4 e c1, ← k5 e c1]; exact z
  · have c1 : ¬ onF e := by
      intro c1
      obtain ⟨b, hb, eb⟩ := w3 e c1
      obtain ⟨-, -, q3⟩ := w1 b hb
      rw [eb] at q3
      rcases q3 with ⟨q, q'⟩ | ⟨-, -, q6⟩
      · rw [← q, z.1] at q'; cases q'
      · rw [z.2] at q6
        cases q6
        exact hd hb
    rw [k4 e c1, k5 e c1]; exact z
theorem n_cp {N : Nat} (h288 : N ≤ 288) {u : Nat → Bool} (q99 : Int32 → Int32 → Int32 → Int32 → sd_St → Option (Int32 × sd_St)) {x1 x2 x4 x5 : Int32} : ∀ (m n i : Nat) (S : sd_St), i + m = N → m < n → S.1 130 20 = nI N → (∀ d, d < N → S.1 145 d = bI (u d)) → (∀ d, d < i → S.1 150 d = S.1 145 d ∧ S.1 151 d = S.1 147 d ∧ S.1 152 d = S.1 146 d) → ∃ S2, f_X12_cut_l107 q99 n x1 x2 x4 x5 (nI i) S = sd_cl (f_X12_laysWay x5 S2) (fun _ S_19 => sd_st S_19 152 (x5 / (2 : Int32)) (-3 : Int32) (fun S_21 => f_X12_cut_l184 q99 sd_FU x1 x2 x4 (0 : Int32) S_21)) ∧ (∀ d, d < N → S2.1 150 d = S.1 145 d ∧ S2.1 151 d = S.1 147 d ∧ S2.1 152 d = S.1 146 d) ∧ frm (fun a => a = 150 ∨ a = 151 ∨ a = 152) S S2 := by
  have hal := al143
  intro m
  induction m with
  | zero =>
    intro n i S hi hn h20 h145 h
    obtain ⟨n, rfl⟩ : ∃ n', n = n' + 1 := ⟨n - 1, by omega⟩
    refine ⟨S, ?_, fun d hd => h d (by omega), frm_rfl⟩
    unfold f_X12_cut_l107
    rw [h20, if_pos (nI_le (by omega) (by omega))]
  | succ m ih =>
    intro n i S hi hn h20 h145 h
    obtain ⟨n, rfl⟩ : ∃ n', n = n' + 1 := ⟨n - 1, by omega⟩
    obtain ⟨A1, hA1⟩ : ∃ A, A = sd_I S 150 i (S.1 145 i) := ⟨_, rfl⟩
    obtain ⟨A2, hA2⟩ : ∃ A, A = sd_I A1 151 i (A1.1 147 i) := ⟨_, rfl⟩
    obtain ⟨A3, hA3⟩ : ∃ A, A = sd_I A2 152 i (A2.1 146 i) := ⟨_, rfl⟩
    have f1 : frm (fun a => a = 150 ∨ a = 151 ∨ a = 152) S A1 := by rw [hA1]; exact frm_I (Or.inl rfl)
    have f2 : frm (fun a => a = 150 ∨ a = 151 ∨ a = 152) A1 A2 := by rw [hA2]; exact frm_I (Or.inr (Or.inl rfl))
    have f3 : frm (fun a => a = 150 ∨ a = 151 ∨ a = 152) A2 A3 := by rw [hA3]; exact frm_I (Or.inr (Or.inr rfl))
    have fr : frm (fun a => a = 150 ∨ a = 151 ∨ a = 152) S A3 := frm_trans (frm_trans (e := fun a => a = 150 ∨ a = 151 ∨ a = 152) f1 f2 (fun _ h => h) (fun _ h => h)) f3 (fun _ h => h) (fun _ h => h)
    have e145 : A3.1 145 = S.1 145 := fr.1 145 (by decide)
    have e146 : A3.1 146 = S.1 146 := fr.1 146 (by decide)
    have e147 : A3.1 147 = S.1 147 := fr.1 147 (by decide)
    have z147 : A1.1 147 = S.1 147 := f1.1 147 (by decide)
    have z146 : A2.1 146 = S.1 146 := by rw [f2.1 146 (by decide), f1.1 146 (by decide)]
    obtain ⟨S2, y1, y2, y3⟩ := ih n (i + 1) A3 (by omega) (by omega) (by rw [fr.1 130 (by decide)]; exact h20) (fun d hd => by rw [e145]; exact h145 d hd) (fun d hd => by
      rw [e145, e146, e147, hA3, rI_cell (by decide), rI_cell (by decide)]
      by_cases cd : d = i
      · subst cd
        rw [rI_same, z146, hA2, rI_cell (by decide), rI_same, z147, hA1, rI_same]
        exact ⟨rfl, rfl, rfl⟩
      · rw [rI_oth cd, hA2, rI_cell (by decide), rI_oth cd, rI_cell (by decide), hA1, rI_oth cd, rI_cell (by decide), rI_cell (by decide)]
        exact h d (by omega))
    refine ⟨S2, ?_, fun d hd => by rw [← e145, ← e146, ← e147]; exact y2 d hd, frm_trans fr y3 (fun _ h => h) (fun _ h => h)⟩
    show (if S.1 130 20 ≤ nI i then _ else _) = _
    rw [h20, if_neg (nI_ge (by omega) (by omega)), sd_ld_ok (by rw [hal.2.2.1]; omega) (sd_al_lt _), sd_st_ok (by rw [hal.2.2.2.2.2.2.2.1]; omega) (sd_al_lt _), show vp_nar .boolean (S.1 145 i) = S.1 145 i from by rw [h145 i (by omega), nar_b], ← hA1, sd_ld_ok (by rw [hal.2.2.2.2.1]; omega) (sd_al_lt _), sd_st_ok (by rw [hal.2.2.2.2.2.2.2.2.1]; omega) (sd_al_lt _), ← hA2, sd_ld_ok (by rw [hal.2.2.2.1]; omega) (sd_al_lt _), sd_st_ok (by rw [hal.2.2.2.2.2.2.2.2.2]; omega) (sd_al_lt _), ← hA3, nI_1]
    exact y1
theorem n_bk {N : Nat} (h288 : N ≤ 288) {u : Nat → Bool} (q99 : Int32 → Int32 → Int32 → Int32 → sd_St → Option (Int32 × sd_St)) {x1 x2 x4 : Int32} : ∀ (m n i : Nat) (S : sd_St), i + m = N → m < n → S.1 130 20 = nI N → (∀ d, d < N → S.1 150 d = bI (u d)) → (∀ d, d < i → S.1 145 d = bI (u d) ∧ S.1 147 d = (if u d then S.1 151 d else -1) ∧ S.1 146 d = (if u d then S.1 152 d else -1)) → ∃ S2, f_X12_cut_l184 q99 n x1 x2 x4 (nI i) S = sd_cl (f_X12_beginner x1 S2) (fun r_8 S_7 => sd_cl (f_X12_fromOf x1 S_7) (fun r_10 S_9 => sd_cl (f_X12_findWay r_8 r_10 x2 S_9) (fun r_12 S_11 => q99 x1 x2 (x4 + (1 : Int32)) r_12 S_11))) ∧ (∀ d, d < N → S2.1 145 d = bI (u d) ∧ S2.1 147 d = (if u d then S.1 151 d else -1) ∧ S2.1 146 d = (if u d then S.1 152 d else -1)) ∧ frm (fun a => a = 145 ∨ a = 146 ∨ a = 147) S S2 := by
  have hal := al143
  intro m
  induction m with
  | zero =>
    intro n i S hi hn h20 h150 h
    obtain ⟨n, rfl⟩ : ∃ n', n = n' + 1 := ⟨n - 1, by omega⟩
    refine ⟨S, ?_, fun d hd => h d (by omega), frm_rfl⟩
    unfold f_X12_cut_l184
    rw [h20, if_pos (nI_le (by omega) (by omega))]
  | succ m ih =>
    intro n i S hi hn h20 h150 h
    obtain ⟨n, rfl⟩ : ∃ n', n = n' + 1 := ⟨n - 1, by omega⟩
    obtain ⟨A1, hA1⟩ : ∃ A, A = sd_I S 145 i (bI (u i)) := ⟨_, rfl⟩
    obtain ⟨A2, hA2⟩ : ∃ A, A = sd_I A1 147 i (if u i then S.1 151 i else -1) := ⟨_, rfl⟩
    obtain ⟨A3, hA3⟩ : ∃ A, A = sd_I A2 146 i (if u i then S.1 152 i else -1) := ⟨_, rfl⟩
    have f1 : frm (fun a => a = 145 ∨ a = 146 ∨ a = 147) S A1 := by rw [hA1]; exact frm_I (Or.inl rfl)
    have f2 : frm (fun a => a = 145 ∨ a = 146 ∨ a = 147) A1 A2 := by rw [hA2]; exact frm_I (Or.inr (Or.inr rfl))
    have f3 : frm (fun a => a = 145 ∨ a = 146 ∨ a = 147) A2 A3 := by rw [hA3]; exact frm_I (Or.inr (Or.inl rfl))
    have f12 : frm (fun a => a = 145 ∨ a = 146 ∨ a = 147) S A2 := frm_trans f1 f2 (fun _ h => h) (fun _ h => h)
    have fr : frm (fun a => a = 145 ∨ a = 146 ∨ a = 147) S A3 := frm_trans f12 f3 (fun _ h => h) (fun _ h => h)
    have e150 : A3.1 150 = S.1 150 := fr.1 150 (by decide)
    have e151 : A3.1 151 = S.1 151 := fr.1 151 (by decide)
    have e152 : A3.1 152 = S.1 152 := fr.1 152 (by decide)
    have g1 : A1.1 145 i = bI (u i) := by rw [hA1, rI_same]
    have g2 : A2.1 145 i = bI (u i) := by rw [hA2, rI_cell (by decide), g1]
    have g3 : A1.1 151 = S.1 151 := f1.1 151 (by decide)
    have g4 : A2.1 152 = S.1 152 := f12.1 152 (by decide)
    obtain ⟨S2, y1, y2, y3⟩ := ih n (i + 1) A3 (by omega) (by omega) (by rw [fr.1 130 (by decide)]; exact h20) (fun d hd => by rw [e150]; exact h150 d hd) (fun d hd => by
      rw [e151, e152, hA3, rI_cell (by decide), rI_cell (by decide)]
      by_cases cd : d = i
      · subst cd
        rw [rI_same, hA2, rI_cell (by decide), rI_same, g1]
        exact ⟨rfl, rfl, rfl⟩
      · rw [rI_oth cd, hA2, rI_cell (by decide), rI_oth cd, rI_cell (by decide), hA1, rI_oth cd, rI_cell (by decide), rI_cell (by decide)]
        exact h d (by omega))
    refine ⟨S2, ?_, fun d hd => by rw [← e151, ← e152]; exact y2 d hd, frm_trans fr y3 (fun _ h => h) (fun _ h => h)⟩
    show (if S.1 130 20 ≤ nI i then _ else _) = _
    rw [h20, if_neg (nI_ge (by omega) (by omega)), sd_ld_ok (by rw [hal.2.2.2.2.2.2.2.1]; omega) (sd_al_lt _), h150 i (by omega), sd_st_ok (by rw [hal.2.2.1]; omega) (sd_al_lt _), nar_b, ← hA1, sd_ld_ok (by rw [hal.2.2.1]; omega) (sd_al_lt _), g1]
    unfold f_X12_cut_b234 f_X12_cut_b262
    cases cu : u i with
    | false =>
      rw [cu] at hA2 hA3 g2
      have hA2 : A2 = sd_I A1 147 i (-1) := hA2
      have hA3 : A3 = sd_I A2 146 i (-1) := hA3
      rw [if_pos (by decide), sd_st_ok (by rw [hal.2.2.2.2.1]; omega) (sd_al_lt _), ← hA2, sd_ld_ok (by rw [hal.2.2.1]; omega) (sd_al_lt _), g2, if_pos (by decide), sd_st_ok (by rw [hal.2.2.2.1]; omega) (sd_al_lt _), ← hA3, nI_1]
      exact y1
    | true =>
      rw [cu] at hA2 hA3 g2
      have hA2 : A2 = sd_I A1 147 i (S.1 151 i) := hA2
      have hA3 : A3 = sd_I A2 146 i (S.1 152 i) := hA3
      rw [if_neg (by decide), sd_ld_ok (by rw [hal.2.2.2.2.2.2.2.2.1]; omega) (sd_al_lt _), g3, sd_st_ok (by rw [hal.2.2.2.2.1]; omega) (sd_al_lt _), ← hA2, sd_ld_ok (by rw [hal.2.2.1]; omega) (sd_al_lt _), g2, if_neg (by decide), sd_ld_ok (by rw [hal.2.2.2.2.2.2.2.2.2]; omega) (sd_al_lt _), g4, sd_st_ok (by rw [hal.2.2.2.1]; omega) (sd_al_lt _), ← hA3, nI_1]
      exact y1
