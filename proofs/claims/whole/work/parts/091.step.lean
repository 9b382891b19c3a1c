/-! THE CLASS'S TAPE, TOKEN BY TOKEN -/
def plc (L : Nat) : List TK → Nat
  | [] => L
  | t :: _ => t.2.1
/-- the tape's signs -/
def TPs (S : sd_St) (tp : List Nat) : Prop := TPc S tp ∧ tp.length ≤ 1000 ∧ ∀ c ∈ tp, okC c
/-- the token that the class stands at, and what is behind it -/
def CUR (S : sd_St) (tp : List Nat) (ts : List TK) : Prop := S.1 13 4 = nI (plc tp.length ts) ∧ ∃ i, S.1 13 2 = nI i ∧ i ≤ tp.length ∧ match ts with
  | [] => S.1 13 3 = 0
  | t :: r => S.1 13 3 = nI t.1 ∧ (t.1 = 1 → S.2 13 5 = wC t.2.2) ∧ (t.1 = 2 → S.1 13 6 = nI (nm t.2.2)) ∧ r = tks tp i
theorem al14 : sd_al 14 = 1000 := by decide
theorem tp_at {S : sd_St} {tp : List Nat} (h : TPs S tp) {i : Nat} (hi : i < tp.length) : ∃ c, tp[i]? = some c ∧ S.1 14 i = nI c ∧ c ≤ 126 := by
  obtain ⟨⟨h1, h2⟩, h3, h4⟩ := h
  obtain ⟨c, hc⟩ : ∃ c, tp[i]? = some c := ⟨tp[i], List.getElem?_eq_getElem hi⟩
  refine ⟨c, hc, h2 i c hc, ?_⟩
  have := h4 c (List.mem_of_getElem? hc)
  unfold okC at this
  omega
theorem TPs_fr {S S2 : sd_St} {tp : List Nat} (h : TPs S tp) (h1 : S2.1 13 1 = S.1 13 1) (h2 : S2.1 14 = S.1 14) : TPs S2 tp := by
  obtain ⟨⟨a1, a2⟩, h3⟩ := h
  exact ⟨⟨by rw [h1]; exact a1, by rw [h2]; exact a2⟩, h3⟩
theorem m_isL {S : sd_St} {c : Nat} (hc : c ≤ 126) : f_X7_isLetter (nI c) S = some (bI (isL c), S) := by
  unfold f_X7_isLetter isL bI
  by_cases c1 : c < 97
  · rw [if_pos (show nI c < (97 : Int32) from nI_lt (b := 97) c1 (by decide)), if_neg (by simp; omega)]
  · rw [if_neg (show ¬ nI c < (97 : Int32) from nI_nlt (b := 97) (by omega) (by omega))]
    by_cases c2 : 122 < c
    · rw [if_pos (show (122 : Int32) < nI c from nI_lt (a := 122) c2 (by omega)), if_neg (by simp; omega)]
    · rw [if_neg (show ¬ (122 : Int32) < nI c from nI_nlt (a := 122) (by omega) (by decide)), if_pos (by simp; omega)]
theorem m_isD {S : sd_St} {c : Nat} (hc : c ≤ 126) : f_X7_isDigit (nI c) S = some (bI (isD c), S) := by
  unfold f_X7_isDigit isD bI
  by_cases c1 : c < 48
  · rw [if_pos (show nI c < (48 : Int32) from nI_lt (b := 48) c1 (by decide)), if_neg (by simp; omega)]
  · rw [if_neg (show ¬ nI c < (48 : Int32) from nI_nlt (b := 48) (by omega) (by omega))]
    by_cases c2 : 57 < c
    · rw [if_pos (show (57 : Int32) < nI c from nI_lt (a := 57) c2 (by omega)), if_neg (by simp; omega)]
    · rw [if_neg (show ¬ (57 : Int32) < nI c from nI_nlt (a := 57) (by omega) (by decide)), if_pos (by simp; omega)]
/-- cells of the tape that a step may write -/
def frT (S S2 : sd_St) : Prop := frm (fun a => a = 13) S S2 ∧ S2.1 13 1 = S.1 13 1
theorem frT_rfl {S : sd_St} : frT S S := ⟨frm_rfl, rfl⟩
theorem frT_trans {S S2 S3 : sd_St} (h : frT S S2) (g : frT S2 S3) : frT S S3 := ⟨frm_trans h.1 g.1 (fun _ h => h) (fun _ h => h), g.2.trans h.2⟩
theorem frT_I {S : sd_St} {j : Nat} {v : Int32} (h : j ≠ 1) : frT S (sd_I S 13 j v) := ⟨frm_I rfl, rI_oth (Ne.symm h)⟩
theorem frT_L {S : sd_St} {j : Nat} {v : Int64} : frT S (sd_L S 13 j v) := ⟨frm_L rfl, rfl⟩
theorem TPs_T {S S2 : sd_St} {tp : List Nat} (h : TPs S tp) (g : frT S S2) : TPs S2 tp := TPs_fr h g.2 (g.1.1 14 (by decide))
theorem m_tw_l {tp : List Nat} {pl : Nat} : ∀ (m n i : Nat) (acc : List Nat) (S : sd_St), i + m = tp.length → m < n → TPs S tp → S.1 13 2 = nI i → S.1 13 4 = nI pl → S.2 13 5 = wC acc → acc.length + pl = i → ∃ S2, f_X7_takeWord_l5 13 n S = some ((), S2) ∧ frT S S2 ∧ S2.1 13 2 = nI (i + (spn isL tp i).length) ∧ S2.1 13 4 = nI pl ∧ S2.2 13 5 = wC (acc ++ spn isL tp i) ∧ S2.1 13 3 = nI (if (acc ++ spn isL tp i).length ≤ 8 then 1 else 4) := by
  have hend : ∀ (i : Nat) (acc : List Nat) (S : sd_St), i ≤ tp.length → tp.length ≤ 1000 → S.1 13 2 = nI i → S.1 13 4 = nI pl → S.2 13 5 = wC acc → acc.length + pl = i → spn isL tp i = [] → ∃ S2, f_X7_takeWord_b66 13 S = some ((), S2) ∧ frT S S2 ∧ S2.1 13 2 = nI (i + (spn isL tp i).length) ∧ S2.1 13 4 = nI pl ∧ S2.2 13 5 = wC (acc ++ spn isL tp i) ∧ S2.1 13 3 = nI (if (acc ++ spn isL tp i).length ≤ 8 then 1 else 4) := by
    intro i acc S hi h1000 h2 h4 h5 hl hs
    rw [hs, List.append_nil, List.length_nil, Nat.add_zero]
    refine ⟨sd_I S 13 3 (nI (if acc.length ≤ 8 then 1 else 4)), ?_, frT_I (by decide), by rw [rI_oth (by decide)]; exact h2, by rw [rI_oth (by decide)]; exact h4, h5, rI_same⟩
    unfold f_X7_takeWord_b66 f_X7_takeWord_b86
    rw [h2, h4, nI_sub (by omega), show i - pl = acc.length by omega]
    by_cases c : acc.length ≤ 8
    · rw [if_neg (show ¬ (8 : Int32) < nI acc.length from nI_nlt (a := 8) c (by decide)), sd_nm_eq, if_pos c]
      rfl
    · rw [if_pos (show (8 : Int32) < nI acc.length from nI_lt (a := 8) (by omega) (by omega)), sd_nm_eq, if_neg c]
      rfl
  intro m
  induction m with
  | zero =>
    intro n i acc S hi hn hT h2 h4 h5 hl
    obtain ⟨n, rfl⟩ : ∃ n', n = n' + 1 := ⟨n - 1, by omega⟩
    have h1000 := hT.2.1
    unfold f_X7_takeWord_l5
    rw [hT.1.1, h2, if_pos (nI_le (by omega) (by omega))]
    exact hend i acc S (by omega) h1000 h2 h4 h5 hl (spn_end (by omega))
  | succ m ih =>
    intro n i acc S hi hn hT h2 h4 h5 hl
    obtain ⟨n, rfl⟩ : ∃ n', n = n' + 1 := ⟨n - 1, by omega⟩
    have h1000 := hT.2.1
    obtain ⟨c, q1, q2, q3⟩ := tp_at hT (i := i) (by omega)
    unfold f_X7_takeWord_l5
    rw [hT.1.1, h2, if_neg (nI_ge (by omega) (by omega)), sd_ld_ok (by rw [al14]; omega) (sd_al_lt _), q2, sd_cl_ok (m_isL q3)]
    cases cl : isL c with
    | false =>
      rw [if_pos (by decide)]
      exact hend i acc S (by omega) h1000 h2 h4 h5 hl (spn_nil q1 cl)
    | true =>
      rw [if_neg (by decide), h2, sd_ld_ok (by rw [al14]; omega) (sd_al_lt _), q2, sd_nm_eq, sd_nm_eq, h5, lN_sh8 _ (by omega)]
      obtain ⟨S1, hS1⟩ : ∃ S1, S1 = sd_L S 13 5 (lN (256 * wv 256 0 acc + c)) := ⟨_, rfl⟩
      rw [← hS1]
      have e2 : S1.1 13 2 = nI i := by rw [hS1]; exact h2
      rw [e2, nI_1]
      obtain ⟨S2, hS2⟩ : ∃ S2, S2 = sd_I S1 13 2 (nI (i + 1)) := ⟨_, rfl⟩
      rw [← hS2]
      have f1 : frT S S2 := by rw [hS2, hS1]; exact frT_trans frT_L (frT_I (by decide))
      have hw : 256 * wv 256 0 acc + c = wv 256 0 (acc ++ [c]) := by rw [wv_app]; rfl
      obtain ⟨S3, y1, y2, y3, y4, y5, y6⟩ := ih n (i + 1) (acc ++ [c]) S2 (by omega) (by omega) (TPs_T hT f1) (by rw [hS2, rI_same]) (by rw [hS2, rI_oth (by decide), hS1]; exact h4) (by rw [hS2]; show S1.2 13 5 = _; rw [hS1, rL_same, hw]) (by rw [List.length_append]; simp; omega)
      have hsp := spn_cons (P := isL) q1 cl
      rw [List.append_assoc, List.singleton_append, ← hsp] at y5 y6
      refine ⟨S3, y1, frT_trans f1 y2, ?_, y4, y5, y6⟩
      rw [y3, hsp, List.length_cons]
      congr 1
      omega
theorem m_tn_l {tp : List Nat} {pl : Nat} : ∀ (m n i : Nat) (acc : List Nat) (S : sd_St), i + m = tp.length → m < n → TPs S tp → S.1 13 2 = nI i → S.1 13 4 = nI pl → S.1 13 6 = nI (nm acc) → acc.length + pl = i → ∃ S2, f_X7_takeNumber_l5 13 n S = some ((), S2) ∧ frT S S2 ∧ S2.1 13 2 = nI (i + (spn isD tp i).length) ∧ S2.1 13 4 = nI pl ∧ S2.1 13 6 = nI (nm (acc ++ spn isD tp i)) ∧ S2.1 13 3 = nI (if (acc ++ spn isD tp i).length ≤ 4 then 2 else 4) := by
  have hend : ∀ (i : Nat) (acc : List Nat) (S : sd_St), i ≤ tp.length → tp.length ≤ 1000 → S.1 13 2 = nI i → S.1 13 4 = nI pl → S.1 13 6 = nI (nm acc) → acc.length + pl = i → spn isD tp i = [] → ∃ S2, f_X7_takeNumber_b68 13 S = some ((), S2) ∧ frT S S2 ∧ S2.1 13 2 = nI (i + (spn isD tp i).length) ∧ S2.1 13 4 = nI pl ∧ S2.1 13 6 = nI (nm (acc ++ spn isD tp i)) ∧ S2.1 13 3 = nI (if (acc ++ spn isD tp i).length ≤ 4 then 2 else 4) := by
    intro i acc S hi h1000 h2 h4 h5 hl hs
    rw [hs, List.append_nil, List.length_nil, Nat.add_zero]
    refine ⟨sd_I S 13 3 (nI (if acc.length ≤ 4 then 2 else 4)), ?_, frT_I (by decide), by rw [rI_oth (by decide)]; exact h2, by rw [rI_oth (by decide)]; exact h4, by rw [rI_oth (by decide)]; exact h5, rI_same⟩
    unfold f_X7_takeNumber_b68 f_X7_takeNumber_b87
    rw [h2, h4, nI_sub (by omega), show i - pl = acc.length by omega]
    by_cases c : acc.length ≤ 4
    · rw [if_neg (show ¬ (4 : Int32) < nI acc.length from nI_nlt (a := 4) c (by decide)), sd_nm_eq, if_pos c]
      rfl
    · rw [if_pos (show (4 : Int32) < nI acc.length from nI_lt (a := 4) (by omega) (by omega)), sd_nm_eq, if_neg c]
      rfl
  intro m
  induction m with
  | zero =>
    intro n i acc S hi hn hT h2 h4 h5 hl
    obtain ⟨n, rfl⟩ : ∃ n', n = n' + 1 := ⟨n - 1, by omega⟩
    have h1000 := hT.2.1
    unfold f_X7_takeNumber_l5
    rw [hT.1.1, h2, if_pos (nI_le (by omega) (by omega))]
    exact hend i acc S (by omega) h1000 h2 h4 h5 hl (spn_end (by omega))
  | succ m ih =>
    intro n i acc S hi hn hT h2 h4 h5 hl
    obtain ⟨n, rfl⟩ : ∃ n', n = n' + 1 := ⟨n - 1, by omega⟩
    have h1000 := hT.2.1
    obtain ⟨c, q1, q2, q3⟩ := tp_at hT (i := i) (by omega)
    unfold f_X7_takeNumber_l5
    rw [hT.1.1, h2, if_neg (nI_ge (by omega) (by omega)), sd_ld_ok (by rw [al14]; omega) (sd_al_lt _), q2, sd_cl_ok (m_isD q3)]
    cases cl : isD c with
    | false =>
      rw [if_pos (by decide)]
      exact hend i acc S (by omega) h1000 h2 h4 h5 hl (spn_nil q1 cl)
    | true =>
      have hcd := D_pos cl
      rw [if_neg (by decide), h2, sd_ld_ok (by rw [al14]; omega) (sd_al_lt _), q2, sd_nm_eq, sd_nm_eq, h5, show (48 : Int32) = nI 48 from rfl, nI_sub hcd.1, show (10 : Int32) = nI 10 from rfl, nI_mul, nI_add]
      have hw : nm acc * 10 + (c - 48) = nm (acc ++ [c]) := by unfold nm; rw [wv_app, Nat.mul_comm]
      rw [hw]
      obtain ⟨S1, hS1⟩ : ∃ S1, S1 = sd_I S 13 6 (nI (nm (acc ++ [c]))) := ⟨_, rfl⟩
      rw [← hS1]
      have e2 : S1.1 13 2 = nI i := by rw [hS1, rI_oth (by decide)]; exact h2
      rw [e2, nI_1]
      obtain ⟨S2, hS2⟩ : ∃ S2, S2 = sd_I S1 13 2 (nI (i + 1)) := ⟨_, rfl⟩
      rw [← hS2]
      have f1 : frT S S2 := by rw [hS2, hS1]; exact frT_trans (frT_I (by decide)) (frT_I (by decide))
      obtain ⟨S3, y1, y2, y3, y4, y5, y6⟩ := ih n (i + 1) (acc ++ [c]) S2 (by omega) (by omega) (TPs_T hT f1) (by rw [hS2, rI_same]) (by rw [hS2, rI_oth (by decide), hS1, rI_oth (by decide)]; exact h4) (by rw [hS2, rI_oth (by decide), hS1, rI_same]) (by rw [List.length_append]; simp; omega)
      have hsp := spn_cons (P := isD) q1 cl
      rw [List.append_assoc, List.singleton_append, ← hsp] at y5 y6
      refine ⟨S3, y1, frT_trans f1 y2, ?_, y4, y5, y6⟩
      rw [y3, hsp, List.length_cons]
      congr 1
      omega
theorem m_step_l {tp : List Nat} : ∀ (m n i : Nat) (S : sd_St), i + m = tp.length → m < n → TPs S tp → S.1 13 2 = nI i → ∃ S2, f_X7_step_l0 13 n S = some ((), S2) ∧ frT S S2 ∧ CUR S2 tp (tks tp i) := by
  have hb52 : ∀ (i c : Nat) (S : sd_St), TPs S tp → S.1 13 2 = nI i → tp[i]? = some c → ¬ (c = 32 ∨ c = 10) → ∃ S2, f_X7_step_b52 13 S = some ((), S2) ∧ frT S S2 ∧ CUR S2 tp (tks tp i) := by
    intro i c S hT h2 hc hnb
    have h1000 := hT.2.1
    have hi : i < tp.length := (List.getElem?_eq_some_iff.mp hc).1
    obtain ⟨c', q1, q2, q3⟩ := tp_at hT (i := i) hi
    rw [hc] at q1
    cases q1
    rw [tks_at hc, if_neg hnb]
    obtain ⟨S1, hS1⟩ : ∃ S1, S1 = sd_I S 13 4 (nI i) := ⟨_, rfl⟩
    have f1 : frT S S1 := by rw [hS1]; exact frT_I (by decide)
    have e2 : S1.1 13 2 = nI i := by rw [hS1, rI_oth (by decide)]; exact h2
    have e1 : S1.1 13 1 = nI tp.length := by rw [hS1, rI_oth (by decide)]; exact hT.1.1
    have e4 : S1.1 13 4 = nI i := by rw [hS1, rI_same]
    have e14 : S1.1 14 i = nI c := by rw [f1.1.1 14 (by decide)]; exact q2
    have hT1 := TPs_T hT f1
    unfold f_X7_step_b52
    simp only [Nat.reduceAdd]
    rw [h2, sd_nm_eq, ← hS1, e2, e1, if_pos (nI_lt hi (by omega)), sd_ld_ok (by rw [al14]; omega) (sd_al_lt _), e14, sd_cl_ok (m_isL q3)]
    cases cl : isL c with
    | true =>
      rw [if_neg (by decide), if_pos rfl]
      obtain ⟨Sa, hSa⟩ : ∃ Sa, Sa = sd_L S1 13 5 (0 : Int64) := ⟨_, rfl⟩
      have fa : frT S1 Sa := by rw [hSa]; exact frT_L
      obtain ⟨S2, y1, y2, y3, y4, y5, y6⟩ := m_tw_l (tp := tp) (pl := i) (tp.length - i) sd_FU i [] Sa (by omega) (by unfold sd_FU; omega) (TPs_T hT1 fa) (by rw [hSa]; exact e2) (by rw [hSa]; exact e4) (by rw [hSa, rL_same]; rfl) (by simp)
      rw [List.nil_append] at y5 y6
      refine ⟨S2, ?_, frT_trans f1 (frT_trans fa y2), y4, _, y3, spn_le (by omega), ?_⟩
      · unfold f_X7_takeWord
        rw [sd_nm_eq, ← hSa, sd_cl_ok y1]
      · exact ⟨y6, fun _ => y5, fun z => by
          exfalso
          dsimp only at z
          by_cases cc : (spn isL tp i).length ≤ 8
          · rw [if_pos cc] at z; omega
          · rw [if_neg cc] at z; omega, rfl⟩
    | false =>
      rw [if_pos (by decide), if_neg (by decide), e2, sd_ld_ok (by rw [al14]; omega) (sd_al_lt _), e14, sd_cl_ok (m_isD q3)]
      cases cd : isD c with
      | true =>
        rw [if_neg (by decide), if_pos rfl]
        obtain ⟨Sa, hSa⟩ : ∃ Sa, Sa = sd_I S1 13 6 (0 : Int32) := ⟨_, rfl⟩
        have fa : frT S1 Sa := by rw [hSa]; exact frT_I (by decide)
        obtain ⟨S2, y1, y2, y3, y4, y5, y6⟩ := m_tn_l (tp := tp) (pl := i) (tp.length - i) sd_FU i [] Sa (by omega) (by unfold sd_FU; omega) (TPs_T hT1 fa) (by rw [hSa, rI_oth (by decide)]; exact e2) (by rw [hSa, rI_oth (by decide)]; exact e4) (by rw [hSa, rI_same]; rfl) (by simp)
        rw [List.nil_append] at y5 y6
        refine ⟨S2, ?_, frT_trans f1 (frT_trans fa y2), y4, _, y3, spn_le (by omega), ?_⟩
        · unfold f_X7_takeNumber
          rw [sd_nm_eq, ← hSa, sd_cl_ok y1]
        · exact ⟨y6, fun z => by
            exfalso
            dsimp only at z
            by_cases cc : (spn isD tp i).length ≤ 4
            · rw [if_pos cc] at z; omega
            · rw [if_neg cc] at z; omega, fun _ => y5, rfl⟩
      | false =>
        rw [if_pos (by decide), if_neg (by decide), e2, sd_ld_ok (by rw [al14]; omega) (sd_al_lt _), e14]
        have key : ∀ k : Nat, k = (if c = 59 then 3 else 4) → ∃ S2, f_X7_step_b143 13 (nI k) S1 = some ((), S2) ∧ frT S S2 ∧ CUR S2 tp ((if c = 59 then 3 else 4, i, [c]) :: tks tp (i + 1)) := by
          intro k hk
          obtain ⟨Sa, hSa⟩ : ∃ Sa, Sa = sd_I S1 13 3 (nI k) := ⟨_, rfl⟩
          have ea : Sa.1 13 2 = nI i := by rw [hSa, rI_oth (by decide)]; exact e2
          obtain ⟨Sb, hSb⟩ : ∃ Sb, Sb = sd_I Sa 13 2 (nI (i + 1)) := ⟨_, rfl⟩
          refine ⟨Sb, ?_, ?_, ?_, i + 1, by rw [hSb, rI_same], by omega, ?_⟩
          · unfold f_X7_step_b143
            rw [sd_nm_eq, ← hSa, ea, nI_1, sd_nm_eq, ← hSb]
          · rw [hSb, hSa]; exact frT_trans f1 (frT_trans (frT_I (by decide)) (frT_I (by decide)))
          · rw [hSb, rI_oth (by decide), hSa, rI_oth (by decide)]; exact e4
          · refine ⟨by rw [hSb, rI_oth (by decide), hSa, rI_same, hk], fun z => ?_, fun z => ?_, rfl⟩
            · exfalso
              dsimp only at z
              by_cases cc : c = 59
              · rw [if_pos cc] at z; omega
              · rw [if_neg cc] at z; omega
            · exfalso
              dsimp only at z
              by_cases cc : c = 59
              · rw [if_pos cc] at z; omega
              · rw [if_neg cc] at z; omega
        by_cases cc : c = 59
        · rw [if_pos (by rw [cc]; rfl)]
          exact key 3 (by rw [if_pos cc])
        · rw [if_neg (show ¬ nI c = (59 : Int32) from fun z => cc (nI_inj (b := 59) (by omega) (by decide) z))]
          exact key 4 (by rw [if_neg cc])
  intro m
  induction m with
  | zero =>
    intro n i S hi hn hT h2
    obtain ⟨n, rfl⟩ : ∃ n', n = n' + 1 := ⟨n - 1, by omega⟩
    have h1000 := hT.2.1
    rw [tks_end (by omega)]
    obtain ⟨Sa, hSa⟩ : ∃ Sa, Sa = sd_I S 13 4 (nI i) := ⟨_, rfl⟩
    obtain ⟨Sb, hSb⟩ : ∃ Sb, Sb = sd_I Sa 13 3 (0 : Int32) := ⟨_, rfl⟩
    have e2 : Sa.1 13 2 = nI i := by rw [hSa, rI_oth (by decide)]; exact h2
    have e1 : Sa.1 13 1 = nI tp.length := by rw [hSa, rI_oth (by decide)]; exact hT.1.1
    refine ⟨Sb, ?_, ?_, ?_, i, ?_, by omega, ?_⟩
    · unfold f_X7_step_l0 f_X7_step_b52
      rw [hT.1.1, h2, if_pos (nI_le (by omega) (by omega)), sd_nm_eq, ← hSa, e2, e1, if_neg (nI_nlt (by omega) (by omega)), sd_nm_eq, ← hSb]
    · rw [hSb, hSa]; exact frT_trans (frT_I (by decide)) (frT_I (by decide))
    · rw [hSb, rI_oth (by decide), hSa, rI_same]
      show nI i = nI tp.length
      rw [show i = tp.length by omega]
    · rw [hSb, rI_oth (by decide)]; exact e2
    · show Sb.1 13 3 = 0
      rw [hSb, rI_same]
  | succ m ih =>
    intro n i S hi hn hT h2
    obtain ⟨n, rfl⟩ : ∃ n', n = n' + 1 := ⟨n - 1, by omega⟩
    have h1000 := hT.2.1
    obtain ⟨c, q1, q2, q3⟩ := tp_at hT (i := i) (by omega)
    have hbl : (c = 32 ∨ c = 10) → ∃ S2, f_X7_step_b39 (f_X7_step_l0 13 n) 13 S = some ((), S2) ∧ frT S S2 ∧ CUR S2 tp (tks tp i) := by
      intro hb
      rw [tks_at q1, if_pos hb]
      obtain ⟨Sa, hSa⟩ : ∃ Sa, Sa = sd_I S 13 2 (nI (i + 1)) := ⟨_, rfl⟩
      have fa : frT S Sa := by rw [hSa]; exact frT_I (by decide)
      obtain ⟨S2, y1, y2, y3⟩ := ih n (i + 1) Sa (by omega) (by omega) (TPs_T hT fa) (by rw [hSa, rI_same])
      refine ⟨S2, ?_, frT_trans fa y2, y3⟩
      unfold f_X7_step_b39
      rw [h2, nI_1, sd_nm_eq, ← hSa]
      exact y1
    unfold f_X7_step_l0
    simp only [Nat.reduceAdd]
    rw [hT.1.1, h2, if_neg (nI_ge (by omega) (by omega)), sd_ld_ok (by rw [al14]; omega) (sd_al_lt _), q2]
    by_cases c1 : c = 32
    · rw [if_pos (by rw [c1]; rfl)]
      exact hbl (Or.inl c1)
    · rw [if_neg (show ¬ nI c = (32 : Int32) from fun z => c1 (nI_inj (b := 32) (by omega) (by decide) z)), sd_ld_ok (by rw [al14]; omega) (sd_al_lt _), q2]
      by_cases c2 : c = 10
      · rw [if_pos (by rw [c2]; rfl)]
        exact hbl (Or.inr c2)
      · rw [if_neg (show ¬ nI c = (10 : Int32) from fun z => c2 (nI_inj (b := 10) (by omega) (by decide) z))]
        exact hb52 i c S hT h2 q1 (fun z => z.elim c1 c2)
theorem m_step {tp : List Nat} {i : Nat} {S : sd_St} (hi : i ≤ tp.length) (hT : TPs S tp) (h2 : S.1 13 2 = nI i) : ∃ S2, f_X7_step 13 S = some ((), S2) ∧ frT S S2 ∧ CUR S2 tp (tks tp i) := by
  have h1000 := hT.2.1
  exact m_step_l (tp.length - i) sd_FU i S (by omega) (by unfold sd_FU; omega) hT h2
