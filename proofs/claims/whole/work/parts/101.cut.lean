/-! THE REFERENCE CUTS THE TAPE INTO TOKENS -/
theorem al132 : sd_al 132 = 1002 := by decide
theorem al133 : sd_al 133 = 1002 := by decide
theorem al134 : sd_al 134 = 1002 := by decide
/-- a token as the reference holds it -/
def RT (S : sd_St) (k : Nat) (t : TK) : Prop := S.1 133 k = nI t.2.1 ∧ ((t.1 = 1 ∧ S.1 132 k = 1 ∧ S.2 134 k = wR t.2.2) ∨ (t.1 = 2 ∧ S.1 132 k = 2 ∧ S.2 134 k = lN (nm t.2.2)) ∨ (t.1 = 3 ∧ S.1 132 k = 3 ∧ S.2 134 k = lN 59) ∨ (t.1 = 4 ∧ (S.1 132 k = 4 ∨ (S.1 132 k = 3 ∧ S.2 134 k ≠ lN 59))))
def frC (S S2 : sd_St) (k : Nat) : Prop := frm (fun a => 132 ≤ a ∧ a ≤ 134) S S2 ∧ ∀ a j, j < k → S2.1 a j = S.1 a j ∧ S2.2 a j = S.2 a j
theorem frC_rfl {S : sd_St} {k : Nat} : frC S S k := ⟨frm_rfl, fun _ _ _ => ⟨rfl, rfl⟩⟩
theorem frC_trans {S S2 S3 : sd_St} {k l : Nat} (hkl : k ≤ l) (h : frC S S2 k) (g : frC S2 S3 l) : frC S S3 k := ⟨frm_trans h.1 g.1 (fun _ h => h) (fun _ h => h), fun a j hj => ⟨((g.2 a j (by omega)).1).trans (h.2 a j hj).1, ((g.2 a j (by omega)).2).trans (h.2 a j hj).2⟩⟩
theorem frC_I {S : sd_St} {a k : Nat} {v : Int32} (h : 132 ≤ a ∧ a ≤ 134) : frC S (sd_I S a k v) k := ⟨frm_I h, fun b j hj => ⟨by rw [rI, if_neg (by omega)], rfl⟩⟩
theorem frC_L {S : sd_St} {a k : Nat} {v : Int64} (h : 132 ≤ a ∧ a ≤ 134) : frC S (sd_L S a k v) k := ⟨frm_L h, fun b j hj => ⟨rfl, by rw [rL, if_neg (by omega)]⟩⟩
/-- the reference's tape -/
def RTp (S : sd_St) (tp : List Nat) : Prop := S.1 130 3 = nI tp.length ∧ (∀ i c, tp[i]? = some c → S.1 131 i = nI c) ∧ tp.length ≤ 1000 ∧ ∀ c ∈ tp, okC c
theorem RTp_fr {S S2 : sd_St} {tp : List Nat} (h : RTp S tp) {k : Nat} (g : frC S S2 k) : RTp S2 tp := by
  obtain ⟨h1, h2, h3⟩ := h
  exact ⟨by rw [g.1.1 130 (by omega)]; exact h1, by rw [g.1.1 131 (by omega)]; exact h2, h3⟩
theorem rtp_at {S : sd_St} {tp : List Nat} (h : RTp S tp) {i : Nat} (hi : i < tp.length) : ∃ c, tp[i]? = some c ∧ S.1 131 i = nI c ∧ c ≤ 126 ∧ okC c := by
  obtain ⟨h1, h2, h3, h4⟩ := h
  obtain ⟨c, hc⟩ : ∃ c, tp[i]? = some c := ⟨tp[i], List.getElem?_eq_getElem hi⟩
  have := h4 c (List.mem_of_getElem? hc)
  refine ⟨c, hc, h2 i c hc, ?_, this⟩
  unfold okC at this
  omega
theorem n_isL {S : sd_St} {c : Nat} (hc : c ≤ 126) : f_X12_isLetter (nI c) S = some (bI (isL c), S) := m_isL hc
theorem n_isD {S : sd_St} {c : Nat} (hc : c ≤ 126) : f_X12_isDigit (nI c) S = some (bI (isD c), S) := m_isD hc
theorem n_rank {S : sd_St} {c : Nat} (hc : isL c = true) : f_X12_rank (nI c) S = some (nI (c - 96), S) := by
  have h := L_pos hc
  unfold f_X12_rank
  rw [sd_cl_ok (n_isL (by omega)), hc, if_neg (by decide), show (96 : Int32) = nI 96 from rfl, nI_sub (by omega)]
theorem n_w70 {tp : List Nat} {k fr : Nat} (hk : k ≤ 1000) {q17 : Int32 → Int32 → sd_St → Option (Unit × sd_St)} : ∀ (m n i : Nat) (acc : List Nat) (S : sd_St), i + m = tp.length → m < n → RTp S tp → acc.length + fr = i → ∃ S2, f_X12_cutAll_l70 q17 n (nI k) (nI i) (nI fr) (wR (acc.take 8)) S = q17 (nI (k + 1)) (nI (i + (spn isL tp i).length)) S2 ∧ S2.1 132 k = nI (if (acc ++ spn isL tp i).length ≤ 8 then 1 else 4) ∧ S2.2 134 k = wR ((acc ++ spn isL tp i).take 8) ∧ S2.1 133 = S.1 133 ∧ frC S S2 k := by
  have hend : ∀ (i : Nat) (acc : List Nat) (S : sd_St), tp.length ≤ 1000 → i ≤ tp.length → acc.length + fr = i → spn isL tp i = [] → ∃ S2, f_X12_cutAll_b129 q17 (nI k) (nI i) (nI fr) (wR (acc.take 8)) S = q17 (nI (k + 1)) (nI (i + (spn isL tp i).length)) S2 ∧ S2.1 132 k = nI (if (acc ++ spn isL tp i).length ≤ 8 then 1 else 4) ∧ S2.2 134 k = wR ((acc ++ spn isL tp i).take 8) ∧ S2.1 133 = S.1 133 ∧ frC S S2 k := by
    intro i acc S h1000 hi hl hs
    rw [hs, List.append_nil, List.length_nil, Nat.add_zero]
    obtain ⟨Sa, hSa⟩ : ∃ Sa, Sa = sd_I S 132 k (nI (if acc.length ≤ 8 then 1 else 4)) := ⟨_, rfl⟩
    obtain ⟨Sb, hSb⟩ : ∃ Sb, Sb = sd_L Sa 134 k (wR (acc.take 8)) := ⟨_, rfl⟩
    refine ⟨Sb, ?_, by rw [hSb]; show Sa.1 132 k = _; rw [hSa, rI_same], by rw [hSb, rL_same], by rw [hSb]; show Sa.1 133 = _; rw [hSa, rI_cell (by decide)], by rw [hSb, hSa]; exact frC_trans (Nat.le_refl _) (frC_I (by omega)) (frC_L (by omega))⟩
    unfold f_X12_cutAll_b129 f_X12_cutAll_b148 f_X12_cutAll_b265
    rw [nI_sub (by omega), show i - fr = acc.length by omega]
    by_cases c : acc.length ≤ 8
    · rw [if_pos c] at hSa
      rw [if_pos (show nI acc.length ≤ (8 : Int32) from nI_le (b := 8) c (by decide)), sd_st_ok (by rw [al132]; omega) (sd_al_lt _), show (1 : Int32) = nI 1 from rfl, ← hSa, sd_stl_ok (by rw [al134]; omega) (sd_al_lt _), ← hSb, nI_add]
      rfl
    · rw [if_neg c] at hSa
      rw [if_neg (show ¬ nI acc.length ≤ (8 : Int32) from nI_ge (a := 8) (by omega) (by omega)), sd_st_ok (by rw [al132]; omega) (sd_al_lt _), show (4 : Int32) = nI 4 from rfl, ← hSa, sd_stl_ok (by rw [al134]; omega) (sd_al_lt _), ← hSb, nI_1]
      rfl
  intro m
  induction m with
  | zero =>
    intro n i acc S hi hn hT hl
    obtain ⟨n, rfl⟩ : ∃ n', n = n' + 1 := ⟨n - 1, by omega⟩
    have h1000 := hT.2.2.1
    unfold f_X12_cutAll_l70
    rw [hT.1, if_pos (nI_le (by omega) (by omega))]
    exact hend i acc S h1000 (by omega) hl (spn_end (by omega))
  | succ m ih =>
    intro n i acc S hi hn hT hl
    obtain ⟨n, rfl⟩ : ∃ n', n = n' + 1 := ⟨n - 1, by omega⟩
    have h1000 := hT.2.2.1
    obtain ⟨c, q1, q2, q3, -⟩ := rtp_at hT (i := i) (by omega)
    unfold f_X12_cutAll_l70
    rw [hT.1, if_neg (nI_ge (by omega) (by omega)), sd_ld_ok (by rw [al131]; omega) (sd_al_lt _), q2, sd_cl_ok (n_isL q3)]
    cases cl : isL c with
    | false =>
      rw [if_pos (by decide)]
      exact hend i acc S h1000 (by omega) hl (spn_nil q1 cl)
    | true =>
      have hsp := spn_cons (P := isL) q1 cl
      obtain ⟨S2, y1, y2, y3, y4, y5⟩ := ih n (i + 1) (acc ++ [c]) S (by omega) (by omega) hT (by rw [List.length_append]; simp; omega)
      rw [List.append_assoc, List.singleton_append, ← hsp] at y2 y3
      refine ⟨S2, ?_, y2, y3, y4, y5⟩
      rw [if_neg (by decide), nI_sub (by omega), show i - fr = acc.length by omega]
      have e : i + (spn isL tp i).length = i + 1 + (spn isL tp (i + 1)).length := by rw [hsp, List.length_cons]; omega
      rw [e, ← y1]
      unfold f_X12_cutAll_b121
      by_cases c8 : 8 ≤ acc.length
      · rw [if_pos (show (8 : Int32) ≤ nI acc.length from nI_le (a := 8) c8 (by omega)), nI_1]
        have : (acc ++ [c]).take 8 = acc.take 8 := by rw [List.take_append_of_le_length c8]
        rw [this]
      · have hc := L_pos cl
        rw [if_neg (show ¬ (8 : Int32) ≤ nI acc.length from nI_ge (b := 8) (by omega) (by decide)), sd_ld_ok (by rw [al131]; omega) (sd_al_lt _), q2, sd_cl_ok (n_rank cl), nI_1, nI_l (by omega)]
        have e1 : acc.take 8 = acc := List.take_of_length_le (by omega)
        have e2 : (acc ++ [c]).take 8 = acc ++ [c] := List.take_of_length_le (by rw [List.length_append]; simp; omega)
        rw [e1, e2]
        show f_X12_cutAll_l70 q17 n (nI k) (nI (i + 1)) (nI fr) (lN 37 * lN (wv 37 96 acc) + lN (c - 96)) S = f_X12_cutAll_l70 q17 n (nI k) (nI (i + 1)) (nI fr) (lN (wv 37 96 (acc ++ [c]))) S
        rw [lN_mul, lN_add, wv_app]
theorem n_w159 {tp : List Nat} {k fr : Nat} (hk : k ≤ 1000) {q17 : Int32 → Int32 → sd_St → Option (Unit × sd_St)} : ∀ (m n i : Nat) (acc : List Nat) (S : sd_St), i + m = tp.length → m < n → RTp S tp → acc.length + fr = i → ∃ S2, f_X12_cutAll_l159 q17 n (nI k) (nI i) (nI fr) (lN (nm (acc.take 4))) S = q17 (nI (k + 1)) (nI (i + (spn isD tp i).length)) S2 ∧ S2.1 132 k = nI (if (acc ++ spn isD tp i).length ≤ 4 then 2 else 4) ∧ S2.2 134 k = lN (nm ((acc ++ spn isD tp i).take 4)) ∧ S2.1 133 = S.1 133 ∧ frC S S2 k := by
  have hend : ∀ (i : Nat) (acc : List Nat) (S : sd_St), tp.length ≤ 1000 → i ≤ tp.length → acc.length + fr = i → spn isD tp i = [] → ∃ S2, f_X12_cutAll_b218 q17 (nI k) (nI i) (nI fr) (lN (nm (acc.take 4))) S = q17 (nI (k + 1)) (nI (i + (spn isD tp i).length)) S2 ∧ S2.1 132 k = nI (if (acc ++ spn isD tp i).length ≤ 4 then 2 else 4) ∧ S2.2 134 k = lN (nm ((acc ++ spn isD tp i).take 4)) ∧ S2.1 133 = S.1 133 ∧ frC S S2 k := by
    intro i acc S h1000 hi hl hs
    rw [hs, List.append_nil, List.length_nil, Nat.add_zero]
    obtain ⟨Sa, hSa⟩ : ∃ Sa, Sa = sd_I S 132 k (nI (if acc.length ≤ 4 then 2 else 4)) := ⟨_, rfl⟩
    obtain ⟨Sb, hSb⟩ : ∃ Sb, Sb = sd_L Sa 134 k (lN (nm (acc.take 4))) := ⟨_, rfl⟩
    refine ⟨Sb, ?_, by rw [hSb]; show Sa.1 132 k = _; rw [hSa, rI_same], by rw [hSb, rL_same], by rw [hSb]; show Sa.1 133 = _; rw [hSa, rI_cell (by decide)], by rw [hSb, hSa]; exact frC_trans (Nat.le_refl _) (frC_I (by omega)) (frC_L (by omega))⟩
    unfold f_X12_cutAll_b218 f_X12_cutAll_b236 f_X12_cutAll_b265
    rw [nI_sub (by omega), show i - fr = acc.length by omega]
    by_cases c : acc.length ≤ 4
    · rw [if_pos c] at hSa
      rw [if_pos (show nI acc.length ≤ (4 : Int32) from nI_le (b := 4) c (by decide)), sd_st_ok (by rw [al132]; omega) (sd_al_lt _), show (2 : Int32) = nI 2 from rfl, ← hSa, sd_stl_ok (by rw [al134]; omega) (sd_al_lt _), ← hSb, nI_1]
      rfl
    · rw [if_neg c] at hSa
      rw [if_neg (show ¬ nI acc.length ≤ (4 : Int32) from nI_ge (a := 4) (by omega) (by omega)), sd_st_ok (by rw [al132]; omega) (sd_al_lt _), show (4 : Int32) = nI 4 from rfl, ← hSa, sd_stl_ok (by rw [al134]; omega) (sd_al_lt _), ← hSb, nI_1]
      rfl
  intro m
  induction m with
  | zero =>
    intro n i acc S hi hn hT hl
    obtain ⟨n, rfl⟩ : ∃ n', n = n' + 1 := ⟨n - 1, by omega⟩
    have h1000 := hT.2.2.1
    unfold f_X12_cutAll_l159
    rw [hT.1, if_pos (nI_le (by omega) (by omega))]
    exact hend i acc S h1000 (by omega) hl (spn_end (by omega))
  | succ m ih =>
    intro n i acc S hi hn hT hl
    obtain ⟨n, rfl⟩ : ∃ n', n = n' + 1 := ⟨n - 1, by omega⟩
    have h1000 := hT.2.2.1
    obtain ⟨c, q1, q2, q3, -⟩ := rtp_at hT (i := i) (by omega)
    unfold f_X12_cutAll_l159
    rw [hT.1, if_neg (nI_ge (by omega) (by omega)), sd_ld_ok (by rw [al131]; omega) (sd_al_lt _), q2, sd_cl_ok (n_isD q3)]
    cases cl : isD c with
    | false =>
      rw [if_pos (by decide)]
      exact hend i acc S h1000 (by omega) hl (spn_nil q1 cl)
    | true =>
      have hsp := spn_cons (P := isD) q1 cl
      obtain ⟨S2, y1, y2, y3, y4, y5⟩ := ih n (i + 1) (acc ++ [c]) S (by omega) (by omega) hT (by rw [List.length_append]; simp; omega)
      rw [List.append_assoc, List.singleton_append, ← hsp] at y2 y3
      refine ⟨S2, ?_, y2, y3, y4, y5⟩
      rw [if_neg (by decide), nI_sub (by omega), show i - fr = acc.length by omega]
      have e : i + (spn isD tp i).length = i + 1 + (spn isD tp (i + 1)).length := by rw [hsp, List.length_cons]; omega
      rw [e, ← y1]
      unfold f_X12_cutAll_b210
      by_cases c8 : 4 ≤ acc.length
      · rw [if_pos (show (4 : Int32) ≤ nI acc.length from nI_le (a := 4) c8 (by omega)), nI_1]
        have : (acc ++ [c]).take 4 = acc.take 4 := by rw [List.take_append_of_le_length c8]
        rw [this]
      · have hc := D_pos cl
        rw [if_neg (show ¬ (4 : Int32) ≤ nI acc.length from nI_ge (b := 4) (by omega) (by decide)), sd_ld_ok (by rw [al131]; omega) (sd_al_lt _), q2, nI_1, nI_l (by omega)]
        have e1 : acc.take 4 = acc := List.take_of_length_le (by omega)
        have e2 : (acc ++ [c]).take 4 = acc ++ [c] := List.take_of_length_le (by rw [List.length_append]; simp; omega)
        rw [e1, e2]
        show f_X12_cutAll_l159 q17 n (nI k) (nI (i + 1)) (nI fr) (lN 10 * lN (nm acc) + lN c - lN 48) S = f_X12_cutAll_l159 q17 n (nI k) (nI (i + 1)) (nI fr) (lN (nm (acc ++ [c]))) S
        rw [lN_mul, lN_add, lN_sub (by omega)]
        unfold nm
        rw [wv_app, show 10 * wv 10 48 acc + c - 48 = 10 * wv 10 48 acc + (c - 48) by omega]
/-- all tokens from a place on -/
theorem n_cut_l {tp : List Nat} : ∀ (m n i k : Nat) (S : sd_St), tp.length - i ≤ m → m < n → i ≤ tp.length → k ≤ i → RTp S tp → ∃ S2, f_X12_cutAll_l17 n (nI k) (nI i) S = some ((), S2) ∧ (∀ j t, (tks tp i)[j]? = some t → RT S2 (k + j) t) ∧ S2.1 132 (k + (tks tp i).length) = 0 ∧ S2.1 133 (k + (tks tp i).length) = nI tp.length ∧ S2.1 130 7 = 0 ∧ S2.1 130 8 = 0 ∧ (∀ j, j ≠ 7 → j ≠ 8 → S2.1 130 j = S.1 130 j) ∧ frm (fun a => a = 130 ∨ (132 ≤ a ∧ a ≤ 134)) S S2 ∧ ∀ a j, a ≠ 130 → j < k → S2.1 a j = S.1 a j ∧ S2.2 a j = S.2 a j := by
  intro m
  induction m with
  | zero =>
    intro n i k S hi hn hi2 hk hT
    obtain ⟨n, rfl⟩ : ∃ n', n = n' + 1 := ⟨n - 1, by omega⟩
    have h1000 := hT.2.2.1
    obtain ⟨A1, hA1⟩ : ∃ A, A = sd_I S 132 k 0 := ⟨_, rfl⟩
    obtain ⟨A2, hA2⟩ : ∃ A, A = sd_I A1 133 k (nI tp.length) := ⟨_, rfl⟩
    obtain ⟨A3, hA3⟩ : ∃ A, A = sd_I A2 130 7 0 := ⟨_, rfl⟩
    obtain ⟨A4, hA4⟩ : ∃ A, A = sd_I A3 130 8 0 := ⟨_, rfl⟩
    rw [tks_end (by omega)]
    have e3 : A1.1 130 3 = nI tp.length := by rw [hA1, rI_cell (by decide)]; exact hT.1
    refine ⟨A4, ?_, fun j t hj => (by cases hj), ?_, ?_, ?_, ?_, fun j h1 h2 => ?_, ?_, fun a j ha hj => ⟨?_, ?_⟩⟩
    · unfold f_X12_cutAll_l17
      rw [hT.1, if_pos (nI_le (by omega) (by omega)), sd_st_ok (by rw [al132]; omega) (sd_al_lt _), ← hA1, e3, sd_st_ok (by rw [al133]; omega) (sd_al_lt _), ← hA2, sd_nm_eq, ← hA3, sd_nm_eq, ← hA4]
    · rw [List.length_nil, Nat.add_zero, hA4, rI_cell (by decide), hA3, rI_cell (by decide), hA2, rI_cell (by decide), hA1, rI_same]
    · rw [List.length_nil, Nat.add_zero, hA4, rI_cell (by decide), hA3, rI_cell (by decide), hA2, rI_same]
    · rw [hA4, rI_oth (by decide), hA3, rI_same]
    · rw [hA4, rI_same]
    · rw [hA4, rI_oth h2, hA3, rI_oth h1, hA2, rI_cell (by decide), hA1, rI_cell (by decide)]
    · rw [hA4, hA3, hA2, hA1]
      have e : ∀ (B : sd_St) (a j : Nat) (v : Int32), (a = 130 ∨ (132 ≤ a ∧ a ≤ 134)) → frm (fun a => a = 130 ∨ (132 ≤ a ∧ a ≤ 134)) B (sd_I B a j v) := fun B a j v h => frm_I h
      exact frm_trans (frm_trans (frm_trans (e _ 132 _ _ (by omega)) (e _ 133 _ _ (by omega)) (fun _ h => h) (fun _ h => h)) (e _ 130 _ _ (by omega)) (fun _ h => h) (fun _ h => h)) (e _ 130 _ _ (by omega)) (fun _ h => h) (fun _ h => h)
    · rw [hA4, rI, if_neg (by omega), hA3, rI, if_neg (by omega), hA2, rI, if_neg (by omega), hA1, rI, if_neg (by omega)]
    · rw [hA4, hA3, hA2, hA1]; rfl
  | succ m ih =>
    intro n i k S hi hn hi2 hk hT
    obtain ⟨n, rfl⟩ : ∃ n', n = n' + 1 := ⟨n - 1, by omega⟩
    have h1000 := hT.2.2.1
    by_cases hie : i = tp.length
    · obtain ⟨S2, y⟩ := ih (n + 1) i k S (by omega) (by omega) hi2 hk hT
      exact ⟨S2, y⟩
    · obtain ⟨c, q1, q2, q3, q4⟩ := rtp_at hT (i := i) (by omega)
      have hblank : (c = 32 ∨ c = 10) → ∃ S2, f_X12_cutAll_b44 (f_X12_cutAll_l17 n) (nI k) (nI i) S = some ((), S2) ∧ (∀ j t, (tks tp i)[j]? = some t → RT S2 (k + j) t) ∧ S2.1 132 (k + (tks tp i).length) = 0 ∧ S2.1 133 (k + (tks tp i).length) = nI tp.length ∧ S2.1 130 7 = 0 ∧ S2.1 130 8 = 0 ∧ (∀ j, j ≠ 7 → j ≠ 8 → S2.1 130 j = S.1 130 j) ∧ frm (fun a => a = 130 ∨ (132 ≤ a ∧ a ≤ 134)) S S2 ∧ ∀ a j, a ≠ 130 → j < k → S2.1 a j = S.1 a j ∧ S2.2 a j = S.2 a j := by
        intro hb
        rw [tks_at q1, if_pos hb]
        unfold f_X12_cutAll_b44
        rw [nI_1]
        exact ih n (i + 1) k S (by omega) (by omega) (by omega) (by omega) hT
      have htok : ∀ (t : TK) (j0 : Nat) (S1 : sd_St), tks tp i = t :: tks tp j0 → i < j0 → j0 ≤ tp.length → RT S1 k t → frC S S1 k → ∃ S2, f_X12_cutAll_l17 n (nI (k + 1)) (nI j0) S1 = some ((), S2) ∧ (∀ j t, (tks tp i)[j]? = some t → RT S2 (k + j) t) ∧ S2.1 132 (k + (tks tp i).length) = 0 ∧ S2.1 133 (k + (tks tp i).length) = nI tp.length ∧ S2.1 130 7 = 0 ∧ S2.1 130 8 = 0 ∧ (∀ j, j ≠ 7 → j ≠ 8 → S2.1 130 j = S.1 130 j) ∧ frm (fun a => a = 130 ∨ (132 ≤ a ∧ a ≤ 134)) S S2 ∧ ∀ a j, a ≠ 130 → j < k → S2.1 a j = S.1 a j ∧ S2.2 a j = S.2 a j := by
        intro t j0 S1 ht hj hj2 hRT hfr
        obtain ⟨S2, y1, y2, y3, y4, y5, y6, y7, y8, y9⟩ := ih n j0 (k + 1) S1 (by omega) (by omega) hj2 (by omega) (RTp_fr hT hfr)
        rw [ht]
        refine ⟨S2, y1, fun j u hu => ?_, ?_, ?_, y5, y6, fun j h1 h2 => ?_, frm_trans (frm_mono hfr.1 (d := fun a => a = 130 ∨ (132 ≤ a ∧ a ≤ 134)) (fun a h => Or.inr h)) y8 (fun _ h => h) (fun _ h => h), fun a j ha hj => ?_⟩
        · cases j with
          | zero =>
            have hu : u = t := by simpa using hu.symm
            subst hu
            rw [Nat.add_zero]
            unfold RT at hRT ⊢
            rw [(y9 133 k (by decide) (by omega)).1, (y9 132 k (by decide) (by omega)).1, (y9 134 k (by decide) (by omega)).2]
            exact hRT
          | succ j =>
            have := y2 j u (by simpa using hu)
            rw [show k + (j + 1) = k + 1 + j by omega]
            exact this
        · rw [List.length_cons, show k + ((tks tp j0).length + 1) = k + 1 + (tks tp j0).length by omega]; exact y3
        · rw [List.length_cons, show k + ((tks tp j0).length + 1) = k + 1 + (tks tp j0).length by omega]; exact y4
        · rw [y7 j h1 h2, hfr.1.1 130 (by omega)]
        · have := y9 a j ha (by omega)
          exact ⟨this.1.trans (hfr.2 a j hj).1, this.2.trans (hfr.2 a j hj).2⟩
      unfold f_X12_cutAll_l17
      rw [hT.1, if_neg (nI_ge (by omega) (by omega)), sd_ld_ok (by rw [al131]; omega) (sd_al_lt _), q2]
      by_cases c1 : c = 10
      · rw [if_pos (by rw [c1]; rfl)]
        exact hblank (Or.inr c1)
      · rw [if_neg (show ¬ nI c = (10 : Int32) from fun z => c1 (nI_inj (b := 10) (by omega) (by decide) z))]
        by_cases c2 : c = 32
        · rw [if_pos (by rw [c2]; rfl)]
          exact hblank (Or.inl c2)
        · rw [if_neg (show ¬ nI c = (32 : Int32) from fun z => c2 (nI_inj (b := 32) (by omega) (by decide) z)), sd_st_ok (by rw [al133]; omega) (sd_al_lt _)]
          obtain ⟨Sa, hSa⟩ : ∃ Sa, Sa = sd_I S 133 k (nI i) := ⟨_, rfl⟩
          have fa : frC S Sa k := by rw [hSa]; exact frC_I (by omega)
          have ea : Sa.1 133 k = nI i := by rw [hSa, rI_same]
          have hTa := RTp_fr hT fa
          rw [← hSa, sd_cl_ok (n_isL q3)]
          have hat := tks_at q1
          rw [if_neg (show ¬ (c = 32 ∨ c = 10) from fun z => z.elim c2 c1)] at hat
          cases cl : isL c with
          | true =>
            rw [if_neg (by decide)]
            rw [cl, if_pos rfl] at hat
            obtain ⟨S2, y1, y2, y3, y4, y5⟩ := n_w70 (tp := tp) (k := k) (fr := i) (by omega) (q17 := f_X12_cutAll_l17 n) (tp.length - i) sd_FU i [] Sa (by omega) (by unfold sd_FU; omega) hTa (by simp)
            rw [List.nil_append] at y2 y3
            have y1 : f_X12_cutAll_l70 (f_X12_cutAll_l17 n) sd_FU (nI k) (nI i) (nI i) (0 : Int64) Sa = _ := y1
            rw [y1]
            have hpos := spn_pos (P := isL) q1 cl
            have hle := spn_le (P := isL) hi2
            refine htok _ _ S2 hat (by omega) hle ?_ (frC_trans (Nat.le_refl _) fa y5)
            refine ⟨by rw [y4]; exact ea, ?_⟩
            by_cases c8 : (spn isL tp i).length ≤ 8
            · rw [if_pos c8] at y2
              rw [List.take_of_length_le c8] at y3
              exact Or.inl ⟨by rw [if_pos c8], y2, y3⟩
            · rw [if_neg c8] at y2
              exact Or.inr (Or.inr (Or.inr ⟨by rw [if_neg c8], Or.inl y2⟩))
          | false =>
            rw [if_pos (by decide), sd_cl_ok (n_isD q3)]
            rw [cl, if_neg (by decide)] at hat
            cases cd : isD c with
            | true =>
              rw [if_neg (by decide)]
              rw [cd, if_pos rfl] at hat
              obtain ⟨S2, y1, y2, y3, y4, y5⟩ := n_w159 (tp := tp) (k := k) (fr := i) (by omega) (q17 := f_X12_cutAll_l17 n) (tp.length - i) sd_FU i [] Sa (by omega) (by unfold sd_FU; omega) hTa (by simp)
              rw [List.nil_append] at y2 y3
              have y1 : f_X12_cutAll_l159 (f_X12_cutAll_l17 n) sd_FU (nI k) (nI i) (nI i) (0 : Int64) Sa = _ := y1
              rw [y1]
              have hpos := spn_pos (P := isD) q1 cd
              have hle := spn_le (P := isD) hi2
              refine htok _ _ S2 hat (by omega) hle ?_ (frC_trans (Nat.le_refl _) fa y5)
              refine ⟨by rw [y4]; exact ea, ?_⟩
              by_cases c8 : (spn isD tp i).length ≤ 4
              · rw [if_pos c8] at y2
                rw [List.take_of_length_le c8] at y3
                exact Or.inr (Or.inl ⟨by rw [if_pos c8], y2, y3⟩)
              · rw [if_neg c8] at y2
                exact Or.inr (Or.inr (Or.inr ⟨by rw [if_neg c8], Or.inl y2⟩))
            | false =>
              rw [if_pos (by decide), sd_nm_eq]
              rw [cd, if_neg (by decide)] at hat
              have key : ∀ (v : Nat), (v = 3 ∨ v = 4) → (c = 59 → v = 3) → ∃ S2, f_X12_cutAll_b261 (f_X12_cutAll_l17 n) (nI k) (nI i) ((nI c).toInt64) (nI k) (nI v) Sa = some ((), S2) ∧ (∀ j t, (tks tp i)[j]? = some t → RT S2 (k + j) t) ∧ S2.1 132 (k + (tks tp i).length) = 0 ∧ S2.1 133 (k + (tks tp i).length) = nI tp.length ∧ S2.1 130 7 = 0 ∧ S2.1 130 8 = 0 ∧ (∀ j, j ≠ 7 → j ≠ 8 → S2.1 130 j = S.1 130 j) ∧ frm (fun a => a = 130 ∨ (132 ≤ a ∧ a ≤ 134)) S S2 ∧ ∀ a j, a ≠ 130 → j < k → S2.1 a j = S.1 a j ∧ S2.2 a j = S.2 a j := by
                intro v hv hc59
                obtain ⟨Sb, hSb⟩ : ∃ Sb, Sb = sd_I Sa 132 k (nI v) := ⟨_, rfl⟩
                obtain ⟨Sc, hSc⟩ : ∃ Sc, Sc = sd_L Sb 134 k (lN c) := ⟨_, rfl⟩
                unfold f_X12_cutAll_b261 f_X12_cutAll_b265
                rw [sd_st_ok (by rw [al132]; omega) (sd_al_lt _), ← hSb, nI_l (by omega), sd_stl_ok (by rw [al134]; omega) (sd_al_lt _), ← hSc, nI_1, nI_1]
                refine htok _ (i + 1) Sc hat (by omega) (by omega) ?_ (frC_trans (Nat.le_refl _) fa (by rw [hSc, hSb]; exact frC_trans (Nat.le_refl _) (frC_I (by omega)) (frC_L (by omega))))
                have e2 : Sc.1 132 k = nI v := by rw [hSc]; show Sb.1 132 k = _; rw [hSb, rI_same]
                have e4 : Sc.2 134 k = lN c := by rw [hSc, rL_same]
                refine ⟨by rw [hSc]; show Sb.1 133 k = _; rw [hSb, rI_cell (by decide)]; exact ea, ?_⟩
                by_cases c5 : c = 59
                · have := hc59 c5
                  rw [this] at e2
                  exact Or.inr (Or.inr (Or.inl ⟨by rw [if_pos c5], e2, by rw [e4, c5]⟩))
                · refine Or.inr (Or.inr (Or.inr ⟨by rw [if_neg c5], ?_⟩))
                  rcases hv with q | q
                  · rw [q] at e2
                    exact Or.inr ⟨e2, by rw [e4]; exact fun z => c5 (lN64 (by omega) (by decide) z)⟩
                  · rw [q] at e2
                    exact Or.inl e2
              have hsg : ∃ b, f_X12_isSignOf (nI c) Sa = some (b, Sa) ∧ (b = 0 ∨ b = 1) ∧ (c = 59 → b = 1) := by
                unfold f_X12_isSignOf
                by_cases h1 : nI c = (40 : Int32)
                · rw [if_pos h1]; exact ⟨1, rfl, Or.inr rfl, fun _ => rfl⟩
                rw [if_neg h1]
                by_cases h2 : nI c = (41 : Int32)
                · rw [if_pos h2]; exact ⟨1, rfl, Or.inr rfl, fun _ => rfl⟩
                rw [if_neg h2]
                by_cases h3 : nI c = (59 : Int32)
                · rw [if_pos h3]; exact ⟨1, rfl, Or.inr rfl, fun _ => rfl⟩
                rw [if_neg h3]
                have hn : ¬ c = 59 := fun z => h3 (by rw [z]; rfl)
                by_cases h4 : nI c = (61 : Int32)
                · rw [if_pos h4]; exact ⟨1, rfl, Or.inr rfl, fun _ => rfl⟩
                rw [if_neg h4]
                by_cases h5 : nI c = (60 : Int32)
                · rw [if_pos h5]; exact ⟨1, rfl, Or.inr rfl, fun _ => rfl⟩
                rw [if_neg h5]
                by_cases h6 : nI c = (43 : Int32)
                · rw [if_pos h6]; exact ⟨1, rfl, Or.inr rfl, fun _ => rfl⟩
                rw [if_neg h6]
                by_cases h7 : nI c = (45 : Int32)
                · rw [if_pos h7]; exact ⟨1, rfl, Or.inr rfl, fun _ => rfl⟩
                rw [if_neg h7]
                by_cases h8 : nI c = (42 : Int32)
                · rw [if_pos h8]; exact ⟨1, rfl, Or.inr rfl, fun _ => rfl⟩
                rw [if_neg h8]
                exact ⟨0, rfl, Or.inl rfl, fun z => absurd z hn⟩
              obtain ⟨b, hb1, hb2, hb3⟩ := hsg
              rw [sd_cl_ok hb1]
              rcases hb2 with hb2 | hb2
              · rw [if_pos hb2]
                exact key 4 (Or.inr rfl) (fun z => by rw [hb3 z] at hb2; cases hb2)
              · rw [if_neg (by rw [hb2]; decide)]
                exact key 3 (Or.inl rfl) (fun _ => rfl)
