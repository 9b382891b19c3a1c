/-! THE CLASS'S FEWEST SHUTTERS -/
theorem m_wipeT_l {lo hi : Nat} (h288 : hi ≤ 288) {x2 x3 : Int32} : ∀ (m n i : Nat) (S : sd_St), i + m = hi → m < n → lo ≤ i → S.1 62 1 = nI hi → (∀ d, lo ≤ d → d < i → S.1 67 d = -2 ∧ S.1 68 d = -2) → ∃ S2, f_X6_addWay_l6 62 28 n x2 x3 (nI i) S = sd_cp S2 63 (0 : Int32) 69 (0 : Int32) (12 : Int32) (fun S_20 => sd_nm (sd_I S_20 62 11 (0 : Int32)) (fun S_21 => sd_cl (f_X6_leadTo 62 28 x2 (x3 - (1 : Int32)) (-1 : Int32) S_21) (fun _ S_22 => f_X6_addWay_l72 62 28 sd_FU (0 : Int32) S_22))) ∧ (∀ d, lo ≤ d → d < hi → S2.1 67 d = -2 ∧ S2.1 68 d = -2) ∧ frm (fun a => a = 67 ∨ a = 68) S S2 := by
  have hal := al6
  intro m
  induction m with
  | zero =>
    intro n i S hi' hn hlo h1 h
    obtain ⟨n, rfl⟩ : ∃ n', n = n' + 1 := ⟨n - 1, by omega⟩
    refine ⟨S, ?_, fun d a b => h d a (by omega), frm_rfl⟩
    unfold f_X6_addWay_l6
    simp only [Nat.reduceAdd]
    rw [h1, if_pos (nI_le (by omega) (by omega))]
  | succ m ih =>
    intro n i S hi' hn hlo h1 h
    obtain ⟨n, rfl⟩ : ∃ n', n = n' + 1 := ⟨n - 1, by omega⟩
    obtain ⟨A1, hA1⟩ : ∃ A, A = sd_I S 67 i (-2) := ⟨_, rfl⟩
    obtain ⟨A2, hA2⟩ : ∃ A, A = sd_I A1 68 i (-2) := ⟨_, rfl⟩
    obtain ⟨S2, e1, e2, e3⟩ := ih n (i + 1) A2 (by omega) (by omega) (by omega) (by rw [hA2, rI_cell (by decide), hA1, rI_cell (by decide)]; exact h1) (fun d a b => by
      rw [hA2, rI_cell (by decide), hA1]
      by_cases cd : d = i
      · rw [cd, rI_same, rI_same]; exact ⟨rfl, rfl⟩
      · rw [rI_oth cd, rI_oth cd, rI_cell (by decide)]; exact h d a (by omega))
    have f1 : frm (fun a => a = 67 ∨ a = 68) S A1 := by rw [hA1]; exact frm_I (Or.inl rfl)
    have f2 : frm (fun a => a = 67 ∨ a = 68) A1 A2 := by rw [hA2]; exact frm_I (Or.inr rfl)
    refine ⟨S2, ?_, e2, frm_trans (frm_trans (e := fun a => a = 67 ∨ a = 68) f1 f2 (fun _ h => h) (fun _ h => h)) e3 (fun _ h => h) (fun _ h => h)⟩
    show (if S.1 62 1 ≤ nI i then _ else _) = _
    simp only [Nat.reduceAdd]
    rw [h1, if_neg (nI_ge (by omega) (by omega)), sd_st_ok (by rw [hal.2.2.2.2.1]; omega) (sd_al_lt _), ← hA1, sd_st_ok (by rw [hal.2.2.2.2.2.1]; omega) (sd_al_lt _), ← hA2, nI_1]
    exact e1
theorem m_addWay {T : TW} {L : List (Nat × Nat)} (hk : DOK T L) {b f g : Nat} (hb12 : b < 12) (hf : f < 4392) (hg : g < 12) {u : Nat → Bool} {c : Nat → Option Nat} {lo hi : Nat} (hG : GF hi (grS L b f) (grT T L g) (grE T L) u c) (hlo1 : ∀ d, d < lo → dD L d < f) (hlo2 : ∀ d, lo ≤ d → d < L.length → f ≤ dD L d) {S : sd_St} (hT : TKD T L S lo hi) (hF : FLW S lo hi u c) (h62 : S.1 62 2 = nI g) : (∃ S2, f_X6_addWay 62 28 (nI b) (nI f) S = some (0, S2) ∧ MXF hi (grS L b f) (grT T L g) (grE T L) (wo hi u c) ∧ FW S S2) ∨ ∃ S2 u' c', f_X6_addWay 62 28 (nI b) (nI f) S = some (1, S2) ∧ FLW S2 lo hi u' c' ∧ GF hi (grS L b f) (grT T L g) (grE T L) u' c' ∧ wo hi u' c' = wo hi u c + 1 ∧ FW S S2 := by
  have hal := al6
  have h288 := hk.1
  have hiL := hT.2.2.2.2.1
  have hlh := hT.2.2.2.1
  obtain ⟨A1, a1, a2, a3⟩ := m_wipeT_l (lo := lo) (hi := hi) (by omega) (x2 := nI b) (x3 := nI f) (hi - lo) sd_FU lo S (by omega) (by unfold sd_FU; omega) (Nat.le_refl _) hT.2.2.1 (fun d z1 z2 => absurd z1 (by omega))
  obtain ⟨A2, hA2⟩ : ∃ A, A = sd_A A1 69 (va_cpy (A1.1 63) (A1.1 69) 0 0 12) := ⟨_, rfl⟩
  obtain ⟨A3, hA3⟩ : ∃ A, A = sd_I A2 62 11 0 := ⟨_, rfl⟩
  have o : ∀ a, ¬ (a = 62 ∨ (67 ≤ a ∧ a ≤ 70)) → A3.1 a = S.1 a := fun a ha => by rw [hA3, rI_cell (by omega), hA2, rA_cell (by omega), a3.1 a (by omega)]
  have o62 : ∀ j, j ≠ 11 → A3.1 62 j = S.1 62 j := fun j hj => by rw [hA3, rI_oth hj, hA2, rA_cell (by decide), a3.1 62 (by decide)]
  have f3 : FQ S A3 := ⟨⟨o, fun a ha => by rw [hA3, hA2]; show A1.2 a = _; rw [a3.2 a (by omega)]⟩, o62⟩
  have hT3 := TKD_FQ hT f3
  have hS3 : SR hi (grS L b f) (grE T L) u c [] (fun _ => none) (fun _ => 0) := ⟨List.nodup_nil, fun i d z => (by cases z), fun i d z => (by cases z)⟩
  have hC3 : CQ A3 lo hi [] (fun _ => none) (fun _ => 0) := by
    refine ⟨by rw [hA3, rI_same]; rfl, fun i n z => (by cases z), fun d z1 z2 => ?_, fun d z1 z2 => ?_, fun n z => (by cases z)⟩
    · rw [if_neg (fun z => (by cases z)), hA3, rI_cell (by decide), hA2, rA_cell (by decide)]; exact (a2 d z1 z2).1
    · rw [if_neg (fun z => (by cases z)), hA3, rI_cell (by decide), hA2, rA_cell (by decide)]; exact (a2 d z1 z2).2
  have hU3 : UNO A3 L lo hi [] := by
    intro h hh
    refine ⟨lst L lo hi h, ?_, fun d hd => ?_, fun e z1 z2 z3 z4 => ?_⟩
    · rw [hA3, rI_cell (by decide), hA2, rA_same, va_cpy, if_pos ⟨by omega, by omega⟩, show 0 + (h - 0) = h by omega, a3.1 63 (by decide)]
      exact hT.2.2.2.2.2.1 h hh
    · obtain ⟨q1, q2, q3, -⟩ := lst_some hd
      exact ⟨q1, q2, q3⟩
    · exfalso
      cases hl : lst L lo hi h with
      | none => exact lst_none hl e z1 z2 z3
      | some d => exact (lst_some hl).2.2.2 e (z4 d hl) z2 z3
  obtain ⟨A4, R, tF, l1, l2, l3, l4, l5, l6⟩ := m_lead hk hb12 (x3 := nI f - 1) (X := f) (fun a ha => nI_m1le (by omega) (by omega)) (p := none) hS3 hC3 hT3 (fun e z1 z2 z3 z4 => Or.inl ⟨rfl, z3, z4⟩) hU3
  have hCS : CS T L b f g u c A4 lo hi ([] ++ R) tF (fun _ => 0) := ⟨l2, l3, TKD_FQ hT3 l6, l4, FLW_FQ (FLW_FQ hF f3) l6, by rw [l6.2 2 (by decide), f3.2 2 (by decide)]; exact h62⟩
  have hpre : ∀ X, f_X6_addWay_l72 62 28 sd_FU (nI 0) A4 = X → f_X6_addWay 62 28 (nI b) (nI f) S = X := by
    intro X hX
    unfold f_X6_addWay
    have hcp : ∀ (k : sd_St → Option (Int32 × sd_St)), sd_cp A1 63 (0 : Int32) 69 (0 : Int32) (12 : Int32) k = k (sd_A A1 69 (va_cpy (A1.1 63) (A1.1 69) 0 0 12)) := fun k => sd_cp_ok (k0 := 63) (k1 := 69) (a := 0) (b := 0) (n := 12) (by rw [hal.1]; omega) (by rw [hal.2.2.2.2.2.2.1]; omega)
    rw [hT.2.1, sd_nm_eq, a1, hcp, ← hA2, sd_nm_eq, ← hA3, sd_cl_ok (show f_X6_leadTo 62 28 (nI b) (nI f - 1) (-1 : Int32) A3 = _ from l1)]
    exact hX
  rcases m_srch_l hk hg hG (2 * hi) sd_FU 0 A4 ([] ++ R) tF (fun _ => 0) (by omega) (by unfold sd_FU; omega) (Nat.zero_le _) hCS (fun j hj => absurd hj (Nat.not_lt_zero j)) with ⟨S2, R2, tF2, tB2, y1, y2, y3, y4⟩ | ⟨S2, u', c', y1, y2, y3, y4, y5⟩
  · refine Or.inl ⟨S2, hpre _ y1, ?_, FW_trans (FQ_FW (FQ_trans f3 l6)) y4⟩
    obtain ⟨Q, hQ⟩ : ∃ Q, Q = [] ++ R ++ R2 := ⟨_, rfl⟩
    rw [← hQ] at y2 y3
    obtain ⟨s1, s2, s3, s4, s5, s6⟩ := y2
    have hst : ∀ e, lo ≤ e → e < hi → dH L e = b → f ≤ dD L e → 2 * e ∈ Q := fun e z1 z2 z3 z4 => by rw [hQ]; exact List.mem_append_left _ (l5 e z1 z2 z3 z4)
    have hPn : ∀ n, n ∈ Q → ∃ j, j < Q.length ∧ Q[j]? = some n := by
      intro n hn
      obtain ⟨j, hj, ej⟩ := List.getElem_of_mem hn
      exact ⟨j, hj, List.getElem?_eq_some_iff.mpr ⟨hj, ej⟩⟩
    have hge : ∀ e, e < hi → f ≤ dD L e → lo ≤ e := by
      intro e z1 z2
      rcases Nat.lt_or_ge e lo with q | q
      · have := hlo1 e q; omega
      · exact q
    have c1 : ∀ e, e < hi → grS L b f e → decide (2 * e ∈ Q) = true := fun e z1 z2 => decide_eq_true (hst e (hge e z1 z2.2) z1 z2.1 z2.2)
    have c2 : ∀ d e, d < hi → e < hi → decide (2 * d + 1 ∈ Q) = true → grE T L d e → decide (2 * e ∈ Q) = true := by
      intro d e z1 z2 z3 z4
      have z3 := of_decide_eq_true z3
      obtain ⟨j, j1, j2⟩ := hPn _ z3
      have hdl := s2.2.2.2.2 _ z3
      have hfd := hlo2 d (by omega) (by omega)
      have h1 := ((y3 j j1).2 d j2).1 e (hge e z2 (by have := z4.2; omega)) z2 z4
      exact decide_eq_true h1
    have c3 : ∀ d, d < hi → decide (2 * d + 1 ∈ Q) = true → ¬ grT T L g d := by
      intro d z1 z3
      obtain ⟨j, j1, j2⟩ := hPn _ (of_decide_eq_true z3)
      exact ((y3 j j1).2 d j2).2.2
    refine ⟨⟨u, c, hG, rfl⟩, fun e => decide (2 * e ∈ Q), fun e => decide (2 * e + 1 ∈ Q), c1, c2, c3, ?_⟩
    refine gf_ge hG (F := fun e => decide (2 * e ∈ Q)) (B := fun e => decide (2 * e + 1 ∈ Q)) (fun e z1 z2 => ?_) (fun e z0 z1 z2 => ?_) (fun e d z1 z2 z3 => ?_)
    · obtain ⟨j, j1, j2⟩ := hPn _ (of_decide_eq_true z2)
      exact decide_eq_true (((y3 j j1).2 e j2).2.1 z1)
    · obtain ⟨j, j1, j2⟩ := hPn _ (of_decide_eq_true z1)
      exact decide_eq_true (((y3 j j1).1 e j2).1 z2)
    · obtain ⟨j, j1, j2⟩ := hPn _ (of_decide_eq_true z1)
      exact decide_eq_true (((y3 j j1).1 e j2).2 d z2 z3)
  · exact Or.inr ⟨S2, u', c', hpre _ y1, y2, y3, y4, FW_trans (FQ_FW (FQ_trans f3 l6)) y5⟩
theorem cn_ge {N lo : Nat} (h : lo ≤ N) : cn N (fun e => decide (lo ≤ e) && !false) = N - lo := by
  unfold cn
  induction N with
  | zero =>
    rw [Nat.zero_sub]
    rfl
  | succ N ih =>
    rw [List.range_succ, List.filter_append, List.length_append]
    by_cases c : lo ≤ N
    · rw [ih c]
      simp [c]
      omega
    · have : lo = N + 1 := by omega
      subst this
      rw [show ((List.range N).filter (fun e => decide (N + 1 ≤ e) && !false)) = [] from List.filter_eq_nil_iff.mpr (fun a ha => by
        have := List.mem_range.mp ha
        simp; omega)]
      simp
theorem m_few_l6 {T : TW} {L : List (Nat × Nat)} (hk : DOK T L) {b f g : Nat} (hb12 : b < 12) (hf : f < 4392) (hg : g < 12) {lo hi : Nat} (hlo1 : ∀ d, d < lo → dD L d < f) (hlo2 : ∀ d, lo ≤ d → d < L.length → f ≤ dD L d) : ∀ (m n i : Nat) (S : sd_St) (u : Nat → Bool) (c : Nat → Option Nat), i + m = hi → m < n → lo ≤ i → GF hi (grS L b f) (grT T L g) (grE T L) u c → wo hi u c = i - lo → TKD T L S lo hi → FLW S lo hi u c → S.1 62 2 = nI g → ∃ k S2, f_X6_fewest_l23 62 28 n (nI b) (nI f) (nI (i - lo)) (nI i) S = some (nI k, S2) ∧ MXF hi (grS L b f) (grT T L g) (grE T L) k ∧ FW S S2 := by
  have h288 := hk.1
  intro m
  induction m with
  | zero =>
    intro n i S u c hi' hn hlo hG hwo hT hF h62
    obtain ⟨n, rfl⟩ : ∃ n', n = n' + 1 := ⟨n - 1, by omega⟩
    have hiL := hT.2.2.2.2.1
    have him : hi = i := by omega
    subst him
    refine ⟨hi - lo, S, ?_, ⟨⟨u, c, hG, hwo⟩, fun e => decide (lo ≤ e), fun _ => false, fun e z1 z2 => ?_, fun d e _ _ z => (by cases z), fun d _ z => (by cases z), ?_⟩, FQ_FW FQ_rfl⟩
    · unfold f_X6_fewest_l23
      rw [hT.2.2.1, if_pos (nI_le (Nat.le_refl _) (by omega))]
    · refine decide_eq_true ?_
      rcases Nat.lt_or_ge e lo with q | q
      · have := hlo1 e q
        have := z2.2
        omega
      · exact q
    · rw [cn_ge (by omega)]; exact Nat.le_refl _
  | succ m ih =>
    intro n i S u c hi' hn hlo hG hwo hT hF h62
    obtain ⟨n, rfl⟩ : ∃ n', n = n' + 1 := ⟨n - 1, by omega⟩
    have hiL := hT.2.2.2.2.1
    have hpre : f_X6_fewest_l23 62 28 (n + 1) (nI b) (nI f) (nI (i - lo)) (nI i) S = sd_cl (f_X6_addWay 62 28 (nI b) (nI f) S) (fun r_3 S_2 => (if r_3 = 0 then (some (nI (i - lo), S_2)) else (f_X6_fewest_l23 62 28 n) (nI b) (nI f) (nI (i - lo) + (1 : Int32)) (nI i + (1 : Int32)) S_2)) := by
      show (if S.1 62 1 ≤ nI i then _ else _) = _
      rw [hT.2.2.1, if_neg (nI_ge (by omega) (by omega))]
    rw [hpre]
    rcases m_addWay hk hb12 hf hg hG hlo1 hlo2 hT hF h62 with ⟨S2, e1, e2, e3⟩ | ⟨S2, u', c', e1, e2, e3, e4, e5⟩
    · rw [hwo] at e2
      exact ⟨i - lo, S2, by rw [sd_cl_ok e1, if_pos rfl], e2, e3⟩
    · obtain ⟨k, S3, y1, y2, y3⟩ := ih n (i + 1) S2 u' c' (by omega) (by omega) (by omega) e3 (by omega) (TKD_FW hT e5) e2 (by rw [e5.2 2 (by decide)]; exact h62)
      refine ⟨k, S3, ?_, y2, FW_trans e5 y3⟩
      rw [sd_cl_ok e1, if_neg (by decide), nI_1, nI_1, show i - lo + 1 = i + 1 - lo by omega]
      exact y1
theorem m_fewS {T : TW} {L : List (Nat × Nat)} (hk : DOK T L) {b f g B : Nat} (hb12 : b < 12) (hf : f < 4392) (hg : g < 12) (hB : B < 4392) {S : sd_St} (hL : DR 28 S T L) : ∃ k hi S2, f_X6_fewest 62 28 (nI b) (nI f) (nI g) (nI B) S = some (nI k, S2) ∧ MXF hi (grS L b f) (grT T L g) (grE T L) k ∧ hi ≤ L.length ∧ (∀ d, hi ≤ d → d < L.length → B < dD L d) ∧ (∀ d, d < hi → f ≤ dD L d → dD L d ≤ B) ∧ frm (fun a => 62 ≤ a ∧ a ≤ 70) S S2 := by
  obtain ⟨A1, hA1⟩ : ∃ A, A = sd_I S 62 2 (nI g) := ⟨_, rfl⟩
  have o : ∀ a, a ≠ 62 → A1.1 a = S.1 a := fun a ha => by rw [hA1, rI_cell ha]
  obtain ⟨lo, hi, S2, e1, e2, e3, e4, e5, e6, e7, e8, e9⟩ := m_take hk hf hB (DR_fr' hL (by rw [o 28 (by decide)]) (o 30 (by decide)) (o 31 (by decide)) (o 32 (by decide)))
  have h288 := hk.1
  have hiL := e2.2.2.2.2.1
  have hlh := e2.2.2.2.1
  have hw0 : wo hi (fun _ => false) (fun _ => none) = 0 := by
    unfold wo cn
    rw [List.filter_eq_nil_iff.mpr (fun a _ => by simp)]
    rfl
  obtain ⟨k, S3, y1, y2, y3⟩ := m_few_l6 hk hb12 hf hg e4 e5 (hi - lo) sd_FU lo S2 (fun _ => false) (fun _ => none) (by omega) (by unfold sd_FU; omega) (Nat.le_refl _) ⟨fun e z => (by cases z), fun e z => (by cases z), fun e d z => (by cases z), fun e e' d z => (by cases z), fun e z => (by cases z)⟩ (by rw [hw0]; omega) e2 ⟨fun d a b => ⟨by rw [e3 d a b]; rfl, fun z => (by cases z)⟩, fun d z => (by cases z)⟩ (by rw [e9, hA1, rI_same])
  refine ⟨k, hi, S3, ?_, y2, hiL, e7, fun d z1 z2 => ?_, ?_⟩
  · unfold f_X6_fewest
    rw [sd_nm_eq, ← hA1, sd_cl_ok e1, e2.2.1, sd_nm_eq]
    rw [show lo - lo = 0 by omega] at y1
    exact y1
  · rcases Nat.lt_or_ge d lo with q | q
    · have := e4 d q; omega
    · exact e6 d q z1
  · exact frm_trans (frm_trans (e := fun a => 62 ≤ a ∧ a ≤ 70) (by rw [hA1]; exact frm_I (c := fun a => 62 ≤ a ∧ a ≤ 70) (by omega)) e8 (fun _ h => h) (fun a h => by omega)) y3.1 (fun _ h => h) (fun a h => by omega)
