/-! THE REFERENCE'S CUT: way after way -/
def FRT (S S2 : sd_St) : Prop := frm (fun a => a = 130 ∨ (145 ≤ a ∧ a ≤ 152)) S S2 ∧ ∀ j, j ≠ 28 → S2.1 130 j = S.1 130 j
theorem FRT_trans {S S2 S3 : sd_St} (h : FRT S S2) (g : FRT S2 S3) : FRT S S3 := ⟨frm_trans h.1 g.1 (fun _ h => h) (fun _ h => h), fun j hj => (g.2 j hj).trans (h.2 j hj)⟩
theorem FRM_FRT {S S2 : sd_St} (h : FRM S S2) : FRT S S2 := ⟨frm_mono h.1 (fun a ha => by omega), h.2⟩
theorem EVs_FRT {S S2 : sd_St} {T : TW} {M : List (Nat × Nat)} (h : EVs S T M) (g : FRT S S2) : EVs S2 T M := by
  obtain ⟨h1, h2, h3⟩ := h
  refine ⟨by rw [g.1.1 136 (by omega)]; exact h1, ⟨by rw [g.2 20 (by decide)]; exact h2.1, ?_⟩, h3⟩
  rw [g.1.1 143 (by omega), g.1.1 144 (by omega)]
  exact h2.2
theorem cn_le (N : Nat) (p : Nat → Bool) : cn N p ≤ N := by
  unfold cn
  have := List.length_filter_le p (List.range N)
  rw [List.length_range] at this
  exact this
/-- a way kept -/
theorem n_keep {T : TW} {M : List (Nat × Nat)} {b f g : Nat} {u : Nat → Bool} {c : Nat → Option Nat} (hG : GF M.length (grS M b f) (grT T M g) (grE T M) u c) (q99 : Int32 → Int32 → Int32 → Int32 → sd_St → Option (Int32 × sd_St)) {x1 x2 x4 : Int32} {S : sd_St} {Q : List Nat} {tF : Nat → Option Nat} {tB : Nat → Nat} (hRS : RS T M b f u c S Q tF tB) {i x : Nat} (hix : Q[i]? = some (2 * x + 1)) (ht : grT T M g x) : ∃ S2 u' c', f_X12_cut_l107 q99 sd_FU x1 x2 x4 (nI (2 * x + 1)) (0 : Int32) S = sd_cl (f_X12_beginner x1 S2) (fun r_8 S_7 => sd_cl (f_X12_fromOf x1 S_7) (fun r_10 S_9 => sd_cl (f_X12_findWay r_8 r_10 x2 S_9) (fun r_12 S_11 => q99 x1 x2 (x4 + (1 : Int32)) r_12 S_11))) ∧ EVs S2 T M ∧ RFL S2 M.length u' c' ∧ NX S2 M.length u' c' ∧ GF M.length (grS M b f) (grT T M g) (grE T M) u' c' ∧ wo M.length u' c' = wo M.length u c + 1 ∧ FRT S S2 := by
  have hal := al143
  obtain ⟨h1, h2, h3, h4, h5⟩ := hRS
  have h288 := h3.2.2.1
  have hlen := sr_len h1
  have hil := (List.getElem?_eq_some_iff.mp hix).1
  have hxN := sr_lt h1 (List.mem_of_getElem? hix)
  have hxN : x < M.length := by omega
  obtain ⟨A1, a1, a2, a3⟩ := n_cp h288 (u := u) q99 (x1 := x1) (x2 := x2) (x4 := x4) (x5 := nI (2 * x + 1)) M.length sd_FU 0 S (by omega) (by unfold sd_FU; omega) h3.2.1.1 (fun d hd => (h4.1 d hd).1) (fun d hd => absurd hd (Nat.not_lt_zero d))
  obtain ⟨A2, onF, onB, b1, W, R, k1, k2, k3, k4, k5, k6, k7, k8⟩ := n_lays h288 h1 577 sd_FU i x A1 (by omega) (by unfold sd_FU; omega) hix (fun d z1 z2 => by rw [a3.1 148 (by decide), h2.2.2.1 d z1, if_pos z2]) (fun d z1 z2 => by rw [a3.1 148 (by decide), h2.2.2.2 d z1, if_pos z2])
  obtain ⟨A3, hA3⟩ : ∃ A, A = sd_I A2 152 x (-3) := ⟨_, rfl⟩
  have hFu : ∀ e, onF e → tF e = some e → u e = true := by
    intro e he z
    rcases (W.2.1 e he).2 with ⟨q, -⟩ | ⟨d, q, -, q3⟩
    · rw [z] at q; cases q
    · rw [z] at q
      cases q
      rcases q3 with ⟨-, q3⟩ | ⟨q3, -⟩
      · exact q3
      · exact absurd rfl q3
  have hBu : ∀ e, onB e → tB e = e → u e = false ∧ onF e := by
    intro e he z
    obtain ⟨-, q1, q2⟩ := W.1 e he
    rw [z] at q1 q2
    rcases q2 with ⟨-, q2⟩ | ⟨q2, -⟩
    · exact ⟨q2, q1⟩
    · exact absurd rfl q2
  obtain ⟨u', hu'⟩ : ∃ u' : Nat → Bool, u' = fun e => decide (e < M.length) && decide (¬ A2.1 150 e = 0) := ⟨_, rfl⟩
  obtain ⟨c', hc'⟩ : ∃ c' : Nat → Option Nat, c' = fun e => @ite _ (onF e ∧ tF e ≠ some e) (Classical.propDecidable _) (tF e) (c e) := ⟨_, rfl⟩
  have uin : ∀ e, e < M.length → u' e = decide (¬ A2.1 150 e = 0) := by
    intro e a
    rw [hu']
    show (decide (e < M.length) && _) = _
    rw [decide_eq_true a]
    rfl
  have uout : ∀ e, ¬ e < M.length → u' e = false := by
    intro e a
    rw [hu']
    show (decide (e < M.length) && _) = _
    rw [decide_eq_false a]
    rfl
  have U1 : ∀ e, onF e → tF e = some e → u' e = false := by
    intro e he z
    rw [uin e (W.2.1 e he).1, k1 e he z]; rfl
  have U2 : ∀ e, onB e → tB e = e → u' e = true := by
    intro e he z
    rw [uin e (W.1 e he).1, k2 e he z]; rfl
  have U3 : ∀ e, ¬ (onF e ∧ tF e = some e) → ¬ (onB e ∧ tB e = e) → u' e = u e := by
    intro e z1 z2
    by_cases hr : e < M.length
    · rw [uin e hr, k3 e z1 z2, (a2 e hr).1, (h4.1 e hr).1]
      exact bI_ne0 _
    · rw [uout e hr]
      cases hu : u e with
      | false => rfl
      | true => exact absurd (h4.2 e hu) hr
  have V1 : ∀ e, onF e → tF e ≠ some e → c' e = tF e := by
    intro e z1 z2
    rw [hc']
    exact if_pos ⟨z1, z2⟩
  have V2 : ∀ e, ¬ (onF e ∧ tF e ≠ some e) → c' e = c e := by
    intro e z
    rw [hc']
    exact if_neg z
  obtain ⟨G1, G2⟩ := gf_aug hG W ht (u' := u') (c' := c') ⟨U1, U2, U3, V1, fun e z _ => V2 e z⟩
  obtain ⟨X1, X2, X3⟩ := nx_aug hG W U1 U2 U3 V1 V2
  have h150 : ∀ d, d < M.length → A2.1 150 d = bI (u' d) := by
    intro d hd
    by_cases c1 : onF d ∧ tF d = some d
    · rw [k1 d c1.1 c1.2, U1 d c1.1 c1.2]; rfl
    · by_cases c2 : onB d ∧ tB d = d
      · rw [k2 d c2.1 c2.2, U2 d c2.1 c2.2]; rfl
      · rw [k3 d c1 c2, U3 d c1 c2, (a2 d hd).1, (h4.1 d hd).1]
  have h151 : ∀ d, d < M.length → u' d = true → A2.1 151 d = sI (c' d) := by
    intro d hd hu
    by_cases c1 : onF d ∧ tF d ≠ some d
    · rw [k4 d c1.1 c1.2, V1 d c1.1 c1.2]
    · rw [k5 d c1, V2 d c1, (a2 d hd).2.1]
      refine (h4.1 d hd).2.1 ?_
      by_cases c2 : onB d ∧ tB d = d
      · obtain ⟨q1, q2⟩ := hBu d c2.1 c2.2
        exfalso
        refine c1 ⟨q2, fun z => ?_⟩
        rw [hFu d q2 z] at q1; cases q1
      · by_cases c3 : onF d ∧ tF d = some d
        · rw [U1 d c3.1 c3.2] at hu; cases hu
        · rw [← U3 d c3 c2]; exact hu
  have f3 : frm (fun a => a = 150 ∨ a = 151 ∨ a = 152) A2 A3 := by rw [hA3]; exact frm_I (Or.inr (Or.inr rfl))
  have f13 : frm (fun a => a = 150 ∨ a = 151 ∨ a = 152) S A3 := frm_trans (frm_trans (e := fun a => a = 150 ∨ a = 151 ∨ a = 152) a3 k8 (fun _ h => h) (fun _ h => h)) f3 (fun _ h => h) (fun _ h => h)
  obtain ⟨A4, d1, d2, d3⟩ := n_bk h288 (u := u') q99 (x1 := x1) (x2 := x2) (x4 := x4) M.length sd_FU 0 A3 (by omega) (by unfold sd_FU; omega) (by rw [f13.1 130 (by decide)]; exact h3.2.1.1) (fun d hd => by rw [hA3, rI_cell (by decide)]; exact h150 d hd) (fun d hd => absurd hd (Nat.not_lt_zero d))
  have fall : FRT S A4 := by
    refine ⟨frm_trans f13 d3 (fun a ha => by omega) (fun a ha => by omega), fun j _ => ?_⟩
    rw [d3.1 130 (by decide), f13.1 130 (by decide)]
  refine ⟨A4, u', c', ?_, EVs_FRT h3 fall, ⟨fun d hd => ?_, fun d hd => ?_⟩, fun d hd => ?_, G1, G2, fall⟩
  · rw [show f_X12_cut_l107 q99 sd_FU x1 x2 x4 (nI (2 * x + 1)) (0 : Int32) S = _ from a1]
    unfold f_X12_laysWay
    rw [sd_cl_ok b1, dv1 (by omega), sd_st_ok (by rw [hal.2.2.2.2.2.2.2.2.2]; omega) (sd_al_lt _), ← hA3]
    exact d1
  · obtain ⟨e1, e2, -⟩ := d2 d hd
    refine ⟨e1, fun hu => ?_, fun hu => ?_⟩
    · rw [e2, hu, if_pos rfl, hA3, rI_cell (by decide)]; exact h151 d hd hu
    · rw [e2, hu, if_neg (by decide)]
  · by_cases hr : d < M.length
    · exact hr
    · rw [uout d hr] at hd; cases hd
  · obtain ⟨-, -, e3⟩ := d2 d hd
    cases hu : u' d with
    | false =>
      rw [hu, if_neg (by decide)] at e3
      exact Or.inl ⟨rfl, e3⟩
    | true =>
      rw [hu, if_pos rfl, hA3] at e3
      right
      by_cases cx : d = x
      · subst cx
        rw [rI_same] at e3
        exact Or.inl ⟨rfl, e3, X1⟩
      · rw [rI_oth cx] at e3
        by_cases cb : onB d
        · obtain ⟨f', q1, q2, q3, q4, q5⟩ := X2 d cb cx hu
          rw [k6 d f' q1 q2 q3] at e3
          exact Or.inr ⟨rfl, f', e3, q4, q5⟩
        · obtain ⟨q1, q2, q3⟩ := X3 d cb
          rw [k7 d (fun f' z1 z2 => absurd z2 (q2 f' z1)), (a2 d hd).2.2] at e3
          rcases h5 d hd with ⟨z1, -⟩ | ⟨z1, z2, z3⟩ | ⟨z1, e', z2, z3, z4⟩
          · rw [← q1, hu] at z1; cases z1
          · refine Or.inl ⟨rfl, e3.trans z2, fun e y1 y2 => ?_⟩
            obtain ⟨y3, y4⟩ := (q3 e).mp ⟨y1, y2⟩
            exact z3 e y3 y4
          · obtain ⟨y3, y4⟩ := (q3 e').mpr ⟨z3, z4⟩
            exact Or.inr ⟨rfl, e', e3.trans z2, y3, y4⟩
/-- all ways -/
theorem n_cutL {T : TW} (hw : wfT T) {M : List (Nat × Nat)} {s g : Nat} (hs : s < ts T) (hb12 : tg T s < 12) (hf : tx T s < 4392) (hg : g < 12) : ∀ (m n : Nat) (S : sd_St) (u : Nat → Bool) (c : Nat → Option Nat), M.length - wo M.length u c ≤ m → m < n → GF M.length (grS M (tg T s) (tx T s)) (grT T M g) (grE T M) u c → EVs S T M → RFL S M.length u c → NX S M.length u c → ∃ k S2, sd_cl (f_X12_beginner (nI s) S) (fun r_8 S_7 => sd_cl (f_X12_fromOf (nI s) S_7) (fun r_10 S_9 => sd_cl (f_X12_findWay r_8 r_10 (nI g) S_9) (fun r_12 S_11 => f_X12_cut_l99 n (nI s) (nI g) (nI (wo M.length u c)) r_12 S_11))) = some (nI k, S2) ∧ MXF M.length (grS M (tg T s) (tx T s)) (grT T M g) (grE T M) k ∧ FRT S S2 := by
  intro m
  induction m with
  | zero =>
    intro n S u c hm hn hG h3 h4 h5
    obtain ⟨n, rfl⟩ : ∃ n', n = n' + 1 := ⟨n - 1, by omega⟩
    rw [sd_cl_ok (n_beginner h3.1 hw hs), sd_cl_ok (n_fromOf hw h3.1 hs)]
    rcases n_findWay hw hb12 hf hg hG h3 h4 h5 with ⟨S2, e1, e2, e3⟩ | ⟨S2, Q, tF, tB, j, x, e1, e2, e3, e4, e5⟩
    · refine ⟨_, S2, ?_, e2, FRM_FRT e3⟩
      rw [sd_cl_ok e1]
      unfold f_X12_cut_l99
      rw [if_pos (show (-1 : Int32) < 0 by decide)]
    · exfalso
      obtain ⟨S3, u', c', -, -, -, -, y5, y6, -⟩ := n_keep hG (fun _ _ _ _ _ => none) (x1 := 0) (x2 := 0) (x4 := 0) e2 e3 e4
      have : wo M.length u' c' ≤ M.length := cn_le _ _
      omega
  | succ m ih =>
    intro n S u c hm hn hG h3 h4 h5
    obtain ⟨n, rfl⟩ : ∃ n', n = n' + 1 := ⟨n - 1, by omega⟩
    rw [sd_cl_ok (n_beginner h3.1 hw hs), sd_cl_ok (n_fromOf hw h3.1 hs)]
    rcases n_findWay hw hb12 hf hg hG h3 h4 h5 with ⟨S2, e1, e2, e3⟩ | ⟨S2, Q, tF, tB, j, x, e1, e2, e3, e4, e5⟩
    · refine ⟨_, S2, ?_, e2, FRM_FRT e3⟩
      rw [sd_cl_ok e1]
      unfold f_X12_cut_l99
      rw [if_pos (show (-1 : Int32) < 0 by decide)]
    · obtain ⟨S3, u', c', y1, y2, y3, y4, y5, y6, y7⟩ := n_keep hG (f_X12_cut_l99 n) (x1 := nI s) (x2 := nI g) (x4 := nI (wo M.length u c)) e2 e3 e4
      have hxN := sr_lt e2.1 (List.mem_of_getElem? e3)
      have h288 := h3.2.2.1
      obtain ⟨k, S4, z1, z2, z3⟩ := ih n S3 u' c' (by omega) (by omega) y5 y2 y3 y4
      refine ⟨k, S4, ?_, z2, FRT_trans (FRT_trans (FRM_FRT e5) y7) z3⟩
      rw [sd_cl_ok e1]
      show (if nI (2 * x + 1) < 0 then _ else _) = _
      rw [if_neg (nI_pos (by omega)), y1, nI_1, ← y6]
      exact z1
/-- the wipe ahead of the first -/
theorem n_l40 {N : Nat} (h288 : N ≤ 288) {x1 x2 : Int32} : ∀ (m n i : Nat) (S : sd_St), i + m = N → m < n → S.1 130 20 = nI N → (∀ d, d < i → S.1 145 d = 0 ∧ S.1 146 d = -1 ∧ S.1 147 d = -1) → ∃ S2, f_X12_cut_l40 n x1 x2 (nI i) S = sd_cl (f_X12_beginner x1 S2) (fun r_31 S_30 => sd_cl (f_X12_fromOf x1 S_30) (fun r_33 S_32 => sd_cl (f_X12_findWay r_31 r_33 x2 S_32) (fun r_35 S_34 => f_X12_cut_l99 sd_FU x1 x2 (0 : Int32) r_35 S_34))) ∧ (∀ d, d < N → S2.1 145 d = 0 ∧ S2.1 146 d = -1 ∧ S2.1 147 d = -1) ∧ frm (fun a => a = 145 ∨ a = 146 ∨ a = 147) S S2 := by
  have hal := al143
  intro m
  induction m with
  | zero =>
    intro n i S hi hn h20 h
    obtain ⟨n, rfl⟩ : ∃ n', n = n' + 1 := ⟨n - 1, by omega⟩
    refine ⟨S, ?_, fun d hd => h d (by omega), frm_rfl⟩
    unfold f_X12_cut_l40
    rw [h20, if_pos (nI_le (by omega) (by omega))]
  | succ m ih =>
    intro n i S hi hn h20 h
    obtain ⟨n, rfl⟩ : ∃ n', n = n' + 1 := ⟨n - 1, by omega⟩
    obtain ⟨A1, hA1⟩ : ∃ A, A = sd_I S 145 i 0 := ⟨_, rfl⟩
    obtain ⟨A2, hA2⟩ : ∃ A, A = sd_I A1 146 i (-1) := ⟨_, rfl⟩
    obtain ⟨A3, hA3⟩ : ∃ A, A = sd_I A2 147 i (-1) := ⟨_, rfl⟩
    have f1 : frm (fun a => a = 145 ∨ a = 146 ∨ a = 147) S A1 := by rw [hA1]; exact frm_I (Or.inl rfl)
    have f2 : frm (fun a => a = 145 ∨ a = 146 ∨ a = 147) A1 A2 := by rw [hA2]; exact frm_I (Or.inr (Or.inl rfl))
    have f3 : frm (fun a => a = 145 ∨ a = 146 ∨ a = 147) A2 A3 := by rw [hA3]; exact frm_I (Or.inr (Or.inr rfl))
    have f12 : frm (fun a => a = 145 ∨ a = 146 ∨ a = 147) S A2 := frm_trans f1 f2 (fun _ h => h) (fun _ h => h)
    have fr : frm (fun a => a = 145 ∨ a = 146 ∨ a = 147) S A3 := frm_trans f12 f3 (fun _ h => h) (fun _ h => h)
    obtain ⟨S2, y1, y2, y3⟩ := ih n (i + 1) A3 (by omega) (by omega) (by rw [fr.1 130 (by decide)]; exact h20) (fun d hd => by
      rw [hA3, rI_cell (by decide), rI_cell (by decide)]
      by_cases cd : d = i
      · subst cd
        rw [rI_same, hA2, rI_cell (by decide), rI_same, hA1, rI_same]
        exact ⟨rfl, rfl, rfl⟩
      · rw [rI_oth cd, hA2, rI_cell (by decide), rI_oth cd, rI_cell (by decide), hA1, rI_oth cd, rI_cell (by decide), rI_cell (by decide)]
        exact h d (by omega))
    refine ⟨S2, ?_, y2, frm_trans fr y3 (fun _ h => h) (fun _ h => h)⟩
    show (if S.1 130 20 ≤ nI i then _ else _) = _
    rw [h20, if_neg (nI_ge (by omega) (by omega)), sd_st_ok (by rw [hal.2.2.1]; omega) (sd_al_lt _), show vp_nar .boolean (0 : Int32) = 0 from by decide, ← hA1, sd_st_ok (by rw [hal.2.2.2.1]; omega) (sd_al_lt _), ← hA2, sd_st_ok (by rw [hal.2.2.2.2.1]; omega) (sd_al_lt _), ← hA3, nI_1]
    exact y1
theorem n_cutS {T : TW} (hw : wfT T) {M : List (Nat × Nat)} {s g : Nat} (hs : s < ts T) (hb12 : tg T s < 12) (hf : tx T s < 4392) (hg : g < 12) {S : sd_St} (h3 : EVs S T M) : ∃ k S2, f_X12_cut_l40 sd_FU (nI s) (nI g) (0 : Int32) S = some (nI k, S2) ∧ MXF M.length (grS M (tg T s) (tx T s)) (grT T M g) (grE T M) k ∧ FRT S S2 := by
  have h288 := h3.2.2.1
  obtain ⟨A, a1, a2, a3⟩ := n_l40 h288 (x1 := nI s) (x2 := nI g) M.length sd_FU 0 S (by omega) (by unfold sd_FU; omega) h3.2.1.1 (fun d hd => absurd hd (Nat.not_lt_zero d))
  have fA : FRT S A := ⟨frm_mono a3 (fun a ha => by omega), fun j _ => by rw [a3.1 130 (by decide)]⟩
  have hw0 : wo M.length (fun _ => false) (fun _ => none) = 0 := by
    unfold wo cn
    rw [List.filter_eq_nil_iff.mpr (fun a _ => by simp)]
    rfl
  obtain ⟨k, S2, y1, y2, y3⟩ := n_cutL hw (M := M) (g := g) hs hb12 hf hg M.length sd_FU A (fun _ => false) (fun _ => none) (by omega) (by unfold sd_FU; omega) ⟨fun e z => (by cases z), fun e z => (by cases z), fun e d z => (by cases z), fun e e' d z => (by cases z), fun e z => (by cases z)⟩ (EVs_FRT h3 fA) ⟨fun d hd => ⟨by rw [(a2 d hd).1]; rfl, fun z => (by cases z), fun _ => (a2 d hd).2.2⟩, fun d z => (by cases z)⟩ (fun d hd => Or.inl ⟨rfl, (a2 d hd).2.1⟩)
  rw [hw0] at y1
  exact ⟨k, S2, a1.trans y1, y2, FRT_trans fA y3⟩
