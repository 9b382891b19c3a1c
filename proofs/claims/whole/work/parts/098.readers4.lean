/-! THE READERS OF THE CLASS: away, secrets, the whole tape -/
theorem sD_le {L least : Nat} {tl tl2 : List TK} {a : Nat} (h : sD L least tl = .ok (a, tl2)) : a < 4392 ∧ least ≤ a := by
  unfold sD at h
  cases hs : sN L 11 tl with
  | error e => rw [hs] at h; cases h
  | ok z =>
    obtain ⟨y, t1⟩ := z
    have hy := sN_le hs
    rw [hs] at h
    have h : sD2 L least y t1 = .ok (a, tl2) := h
    unfold sD2 at h
    by_cases c : (isN t1 && decide (366 * y + hdn t1 < least)) = true
    · rw [if_pos c] at h; cases h
    · rw [if_neg c] at h
      cases hs2 : sN L 365 t1 with
      | error e => rw [hs2] at h; cases h
      | ok z =>
        obtain ⟨d, t2⟩ := z
        have hd := sN_le hs2
        rw [hs2] at h
        have h : (Except.ok (366 * y + d, t2) : Except Nat (Nat × List TK)) = .ok (a, tl2) := h
        have hn : isN t1 = true ∧ d = hdn t1 := by
          unfold sN at hs2
          by_cases c1 : isN t1 = true
          · rw [if_pos c1] at hs2
            by_cases c2 : hdn t1 ≤ 365
            · rw [if_pos c2] at hs2; cases hs2; exact ⟨c1, rfl⟩
            · rw [if_neg c2] at hs2; cases hs2
          · rw [if_neg c1] at hs2; cases hs2
        cases h
        refine ⟨by omega, ?_⟩
        rw [hn.1, Bool.true_and, decide_eq_true_iff] at c
        omega
theorem m_addAway {S : sd_St} {n : Nat} (hn : n < 12) (h7 : S.1 2 7 = nI n) (x y z : Int32) : ∃ S2, f_X8_addAway 2 x y z S = some ((), S2) ∧ (∀ q, S2.1 8 q = if q = n then x else S.1 8 q) ∧ (∀ q, S2.1 9 q = if q = n then y else S.1 9 q) ∧ (∀ q, S2.1 10 q = if q = n then z else S.1 10 q) ∧ (∀ j, S2.1 2 j = if j = 7 then nI (n + 1) else S.1 2 j) ∧ frm (fun a => a = 2 ∨ (8 ≤ a ∧ a ≤ 10)) S S2 := by
  obtain ⟨A1, hA1⟩ : ∃ A, A = sd_I S 8 n x := ⟨_, rfl⟩
  obtain ⟨A2, hA2⟩ : ∃ A, A = sd_I A1 9 n y := ⟨_, rfl⟩
  obtain ⟨A3, hA3⟩ : ∃ A, A = sd_I A2 10 n z := ⟨_, rfl⟩
  obtain ⟨A4, hA4⟩ : ∃ A, A = sd_I A3 2 7 (nI (n + 1)) := ⟨_, rfl⟩
  have k1 : A1.1 2 = S.1 2 := by rw [hA1, rI_cell (by decide)]
  have k2 : A2.1 2 = S.1 2 := by rw [hA2, rI_cell (by decide), k1]
  have k3 : A3.1 2 = S.1 2 := by rw [hA3, rI_cell (by decide), k2]
  have one : ∀ (B : sd_St) (a : Nat) (v : Int32) (q : Nat), (sd_I B a n v).1 a q = if q = n then v else B.1 a q := fun B a v q => by
    by_cases c : q = n
    · rw [c, if_pos rfl, rI_same]
    · rw [if_neg c, rI_oth c]
  refine ⟨A4, ?_, fun q => ?_, fun q => ?_, fun q => ?_, fun j => ?_, ?_⟩
  · unfold f_X8_addAway
    simp only [Nat.reduceAdd]
    rw [h7, if_neg (show ¬ (12 : Int32) ≤ nI n from nI_ge (b := 12) hn (by decide)), sd_st_ok (show n < sd_al 8 by rw [show sd_al 8 = 12 from by decide]; omega) (sd_al_lt _), ← hA1, k1, h7, sd_st_ok (show n < sd_al 9 by rw [show sd_al 9 = 12 from by decide]; omega) (sd_al_lt _), ← hA2, k2, h7, sd_st_ok (show n < sd_al 10 by rw [show sd_al 10 = 12 from by decide]; omega) (sd_al_lt _), ← hA3, k3, h7, nI_1, sd_nm_eq, ← hA4]
  · rw [hA4, rI_cell (by decide), hA3, rI_cell (by decide), hA2, rI_cell (by decide), hA1, one]
  · rw [hA4, rI_cell (by decide), hA3, rI_cell (by decide), hA2, one, hA1, rI_cell (by decide)]
  · rw [hA4, rI_cell (by decide), hA3, one, hA2, rI_cell (by decide), hA1, rI_cell (by decide)]
  · rw [hA4]
    by_cases c : j = 7
    · rw [c, if_pos rfl, rI_same]
    · rw [if_neg c, rI_oth c, k3]
  · rw [hA4, hA3, hA2, hA1]
    have e : ∀ (B : sd_St) (a j : Nat) (v : Int32), (a = 2 ∨ (8 ≤ a ∧ a ≤ 10)) → frm (fun a => a = 2 ∨ (8 ≤ a ∧ a ≤ 10)) B (sd_I B a j v) := fun B a j v h => frm_I h
    exact frm_trans (frm_trans (frm_trans (e _ 8 _ _ (by omega)) (e _ 9 _ _ (by omega)) (fun _ h => h) (fun _ h => h)) (e _ 10 _ _ (by omega)) (fun _ h => h) (fun _ h => h)) (e _ 2 _ _ (by omega)) (fun _ h => h) (fun _ h => h)
theorem m_addSecret {S : sd_St} {n : Nat} (hn : n < 4) (h11 : S.1 2 11 = nI n) (x y : Int32) : ∃ S2, f_X8_addSecret 2 x y S = some ((), S2) ∧ (∀ q, S2.1 11 q = if q = n then x else S.1 11 q) ∧ (∀ q, S2.1 12 q = if q = n then y else S.1 12 q) ∧ (∀ j, S2.1 2 j = if j = 11 then nI (n + 1) else S.1 2 j) ∧ frm (fun a => a = 2 ∨ a = 11 ∨ a = 12) S S2 := by
  obtain ⟨A1, hA1⟩ : ∃ A, A = sd_I S 11 n x := ⟨_, rfl⟩
  obtain ⟨A2, hA2⟩ : ∃ A, A = sd_I A1 12 n y := ⟨_, rfl⟩
  obtain ⟨A4, hA4⟩ : ∃ A, A = sd_I A2 2 11 (nI (n + 1)) := ⟨_, rfl⟩
  have k1 : A1.1 2 = S.1 2 := by rw [hA1, rI_cell (by decide)]
  have k2 : A2.1 2 = S.1 2 := by rw [hA2, rI_cell (by decide), k1]
  have one : ∀ (B : sd_St) (a : Nat) (v : Int32) (q : Nat), (sd_I B a n v).1 a q = if q = n then v else B.1 a q := fun B a v q => by
    by_cases c : q = n
    · rw [c, if_pos rfl, rI_same]
    · rw [if_neg c, rI_oth c]
  refine ⟨A4, ?_, fun q => ?_, fun q => ?_, fun j => ?_, ?_⟩
  · unfold f_X8_addSecret
    simp only [Nat.reduceAdd]
    rw [h11, if_neg (show ¬ (4 : Int32) ≤ nI n from nI_ge (b := 4) hn (by decide)), sd_st_ok (show n < sd_al 11 by rw [show sd_al 11 = 4 from by decide]; omega) (sd_al_lt _), ← hA1, k1, h11, sd_st_ok (show n < sd_al 12 by rw [show sd_al 12 = 4 from by decide]; omega) (sd_al_lt _), ← hA2, k2, h11, nI_1, sd_nm_eq, ← hA4]
  · rw [hA4, rI_cell (by decide), hA2, rI_cell (by decide), hA1, one]
  · rw [hA4, rI_cell (by decide), hA2, one, hA1, rI_cell (by decide)]
  · rw [hA4]
    by_cases c : j = 11
    · rw [c, if_pos rfl, rI_same]
    · rw [if_neg c, rI_oth c, k2]
  · rw [hA4, hA2, hA1]
    have e : ∀ (B : sd_St) (a j : Nat) (v : Int32), (a = 2 ∨ a = 11 ∨ a = 12) → frm (fun a => a = 2 ∨ a = 11 ∨ a = 12) B (sd_I B a j v) := fun B a j v h => frm_I h
    exact frm_trans (frm_trans (e _ 11 _ _ (by omega)) (e _ 12 _ _ (by omega)) (fun _ h => h) (fun _ h => h)) (e _ 2 _ _ (by omega)) (fun _ h => h) (fun _ h => h)
theorem FL_n0 {S : sd_St} {tp : List Nat} {e : Nat} (hF : FL S tp e) : ¬ S.1 1 5 = 0 := by
  rw [hF.2.2.2.2.2.2.1]
  exact nI_ne0 hF.2.2.2.2.2.2.2.1 (by have := hF.2.2.2.2.2.2.2.2; omega)
theorem m_rAway {S : sd_St} {tp : List Nat} {P : Pst} {t : TK} {r : List TK} (h : OKc S tp P (t :: r)) : ∃ S2, f_X9_readAway 1 S = some ((), S2) ∧ SC S2 tp (rAway tp.length P (t :: r)) ∧ FR S S2 := by
  have e8 : sd_no 8 = (1718775661 : Int64) := by decide
  have e9 : sd_no 9 = (29807 : Int64) := by decide
  have ha12 := h.2.2.2.2.2.2.2.2.1.2.2.1
  obtain ⟨S1, a1, a2, a3⟩ := m_first h (decide (ta P.1 = 12)) (k := 5) (by decide) (by decide)
  obtain ⟨v1, S2, b1, b2, b3, b4⟩ := m_takeP a2
  obtain ⟨S3, c1, c2, c3⟩ := m_takeW b2 (i := 8) (by decide)
  obtain ⟨v2, S4, d1, d2, d3, d4⟩ := m_takeD c2 (v0 := 0) (least := 0) (by decide) (fun _ _ => rfl)
  obtain ⟨S5, g1, g2, g3⟩ := m_takeW d2 (i := 9) (by decide)
  have fr5 : FR S S5 := FR_trans a3 (FR_trans b3 (FR_trans c3 (FR_trans d3 g3)))
  have pre : ∀ (v3 : Int32) (S6 : sd_St), f_X9_takeDate 1 v2 S5 = some (v3, S6) → ∀ R, (if (S6.1 1 5) = 0 then sd_cl (f_X8_addAway 2 v1 v2 v3 S6) (fun _ S_16 => (some ((), S_16))) else (some ((), S6))) = R → f_X9_readAway 1 S = R := by
    intro v3 S6 k1 R hR
    have key : sd_cl (f_X9_takePerson 1 S1) (fun r_6 S_5 => sd_cl (f_X9_takeWord 1 (1718775661 : Int64) S_5) (fun _ S_7 => sd_cl (f_X9_takeDate 1 (0 : Int32) S_7) (fun r_10 S_9 => sd_cl (f_X9_takeWord 1 (29807 : Int64) S_9) (fun _ S_11 => sd_cl (f_X9_takeDate 1 r_10 S_11) (fun r_14 S_13 => (if (S_13.1 1 5) = 0 then sd_cl (f_X8_addAway 2 r_6 r_10 r_14 S_13) (fun _ S_16 => (some ((), S_16))) else (some ((), S_13)))))))) = R := by
      rw [sd_cl_ok b1, ← e8, ← e9, sd_cl_ok c1, sd_cl_ok d1, sd_cl_ok g1, sd_cl_ok k1]
      exact hR
    have a1 := a1 (fun S_3 => sd_cl (f_X9_takePerson 1 S_3) (fun r_6 S_5 => sd_cl (f_X9_takeWord 1 (1718775661 : Int64) S_5) (fun _ S_7 => sd_cl (f_X9_takeDate 1 (0 : Int32) S_7) (fun r_10 S_9 => sd_cl (f_X9_takeWord 1 (29807 : Int64) S_9) (fun _ S_11 => sd_cl (f_X9_takeDate 1 r_10 S_11) (fun r_14 S_13 => (if (S_13.1 1 5) = 0 then sd_cl (f_X8_addAway 2 r_6 r_10 r_14 S_13) (fun _ S_16 => (some ((), S_16))) else (some ((), S_13)))))))))
    unfold f_X9_readAway f_X9_readAway_b18
    simp only [Nat.reduceAdd]
    rw [h.2.2.2.2.1.2.2.1]
    by_cases c : ta P.1 = 12
    · rw [decide_eq_true c] at a1
      rw [if_pos (by rw [c]; rfl)]
      exact a1.trans key
    · rw [decide_eq_false c] at a1
      rw [if_neg (show ¬ nI (ta P.1) = (12 : Int32) from fun z => c (nI_inj (b := 12) (by omega) (by decide) z))]
      exact a1.trans key
  have hfail : ∀ e, FL S5 tp e → rAway tp.length P (t :: r) = .error e → ∃ S2, f_X9_readAway 1 S = some ((), S2) ∧ SC S2 tp (rAway tp.length P (t :: r)) ∧ FR S S2 := by
    intro e hF he
    obtain ⟨v3, S6, k1, k2, k3, -⟩ := m_takeD (P := P) (x := .error e) hF (v0 := v2) (least := 0) (by decide) (fun _ z => by cases z)
    refine ⟨S6, pre v3 S6 k1 _ ?_, by rw [he]; exact k2, FR_trans fr5 k3⟩
    rw [if_neg (FL_n0 k2)]
  unfold rAway at hfail ⊢
  by_cases c : ta P.1 = 12
  · rw [decide_eq_true c] at g2
    rw [if_pos c] at hfail ⊢
    exact hfail _ g2 rfl
  · rw [decide_eq_false c] at a2 b2 b4 c2 d2 d4 g2
    rw [if_neg c] at hfail ⊢
    have g2 : ST S5 tp P ((((((sP tp.length P.2.1 r).map (fun _ => r.tail)).bind (sW tp.length 8)).bind (sD tp.length 0)).map (fun y => y.2)).bind (sW tp.length 9)) := g2
    have d4 : ∀ a tl2, (((sP tp.length P.2.1 r).map (fun _ => r.tail)).bind (sW tp.length 8)).bind (sD tp.length 0) = .ok (a, tl2) → v2 = nI a := d4
    have b4 : ∀ tl p, (Except.ok r : Except Nat (List TK)) = .ok tl → sP tp.length P.2.1 tl = .ok p → v1 = nI p := b4
    have hfail : ∀ e, FL S5 tp e → (sP tp.length P.2.1 r).bind (fun p => ((sW tp.length 8 r.tail).bind (sD tp.length 0)).bind (fun x => ((sW tp.length 9 x.2).bind (sD tp.length x.1)).map (fun y => ((addA P.1 p x.1 y.1, P.2.1, P.2.2), y.2)))) = .error e → ∃ S2, f_X9_readAway 1 S = some ((), S2) ∧ SC S2 tp ((sP tp.length P.2.1 r).bind (fun p => ((sW tp.length 8 r.tail).bind (sD tp.length 0)).bind (fun x => ((sW tp.length 9 x.2).bind (sD tp.length x.1)).map (fun y => ((addA P.1 p x.1 y.1, P.2.1, P.2.2), y.2))))) ∧ FR S S2 := hfail
    show ∃ S2, _ ∧ SC S2 tp ((sP tp.length P.2.1 r).bind _) ∧ _
    cases hs1 : sP tp.length P.2.1 r with
    | error e =>
      rw [hs1] at g2 hfail
      exact hfail e g2 rfl
    | ok p =>
      rw [hs1] at g2 d4 hfail
      have hv1 := b4 r p rfl hs1
      have g2 : ST S5 tp P ((((sW tp.length 8 r.tail).bind (sD tp.length 0)).map (fun y => y.2)).bind (sW tp.length 9)) := g2
      have d4 : ∀ a tl2, (sW tp.length 8 r.tail).bind (sD tp.length 0) = .ok (a, tl2) → v2 = nI a := d4
      have hfail : ∀ e, FL S5 tp e → ((sW tp.length 8 r.tail).bind (sD tp.length 0)).bind (fun x => ((sW tp.length 9 x.2).bind (sD tp.length x.1)).map (fun y => ((addA P.1 p x.1 y.1, P.2.1, P.2.2), y.2))) = .error e → ∃ S2, f_X9_readAway 1 S = some ((), S2) ∧ SC S2 tp (((sW tp.length 8 r.tail).bind (sD tp.length 0)).bind (fun x => ((sW tp.length 9 x.2).bind (sD tp.length x.1)).map (fun y => ((addA P.1 p x.1 y.1, P.2.1, P.2.2), y.2)))) ∧ FR S S2 := hfail
      show ∃ S2, _ ∧ SC S2 tp (((sW tp.length 8 r.tail).bind (sD tp.length 0)).bind _) ∧ _
      cases hs2 : (sW tp.length 8 r.tail).bind (sD tp.length 0) with
      | error e =>
        rw [hs2] at g2 hfail
        exact hfail e g2 rfl
      | ok z =>
        obtain ⟨f, t3⟩ := z
        rw [hs2] at g2 hfail
        have hv2 := d4 f t3 hs2
        have hf : f < 4392 := by
          cases hs3 : sW tp.length 8 r.tail with
          | error e => rw [hs3] at hs2; cases hs2
          | ok q => rw [hs3] at hs2; exact (sD_le hs2).1
        have g2 : ST S5 tp P (sW tp.length 9 t3) := g2
        obtain ⟨v3, S6, k1, k2, k3, k4⟩ := m_takeD g2 (v0 := v2) hf (fun _ _ => hv2)
        show ∃ S2, _ ∧ SC S2 tp (((sW tp.length 9 t3).bind (sD tp.length f)).map (fun y => ((addA P.1 p f y.1, P.2.1, P.2.2), y.2))) ∧ _
        cases hs4 : (sW tp.length 9 t3).bind (sD tp.length f) with
        | error e =>
          rw [hs4] at k2
          have k2 : FL S6 tp e := k2
          refine ⟨S6, pre v3 S6 k1 _ ?_, k2, FR_trans fr5 k3⟩
          rw [if_neg (FL_n0 k2)]
        | ok z =>
          obtain ⟨u, t5⟩ := z
          rw [hs4] at k2
          have k2 : OKc S6 tp P t5 := k2
          have hv3 := k4 u t5 hs4
          have hu : u < 4392 ∧ f ≤ u := by
            cases hs3 : sW tp.length 9 t3 with
            | error e => rw [hs3] at hs4; cases hs4
            | ok q => rw [hs3] at hs4; exact sD_le hs4
          have hW := k2.2.2.2.2.2.2.2.2
          have hp := sP_lt hW hs1
          obtain ⟨S7, m1, m2, m3, m4, m5, m6⟩ := m_addAway (S := S6) (n := ta P.1) (by omega) k2.2.2.2.2.1.2.2.1 v1 v2 v3
          refine ⟨S7, pre v3 S6 k1 _ ?_, ?_, FR_trans fr5 (FR_trans k3 (frm_mono m6 (fun a h => by omega)))⟩
          · rw [k2.2.1, if_pos rfl, sd_cl_ok m1]
          · show OKc S7 tp (addA P.1 p f u, P.2.1, P.2.2) t5
            obtain ⟨x1, x2, x3, x4, x5, x6, x7, x8, x9⟩ := k2
            have o : ∀ a, ¬ (a = 2 ∨ (8 ≤ a ∧ a ≤ 10)) → S7.1 a = S6.1 a := fun a ha => m6.1 a ha
            refine ⟨TPs_fr x1 (by rw [o 13 (by omega)]) (o 14 (by omega)), by rw [o 1 (by omega)]; exact x2, ?_, x4, ?_, ?_, ?_, by rw [o 1 (by omega)]; exact x8, PW_addA x9 (by omega) hp hu.2 hu.1⟩
            · unfold CUR at x3 ⊢
              rw [o 13 (by omega), m6.2 13 (by omega)]; exact x3
            · obtain ⟨u1, u2, u3, u4, u5, u6, u7, u8⟩ := x5
              have q0 : tn (addA P.1 p f u) = tn P.1 := by show addA P.1 p f u 0 0 = _; rw [addA_o (by omega)]
              refine ⟨by rw [m5, if_neg (by decide), q0]; exact u1, fun q hq => ?_, by rw [m5, if_pos rfl, addA_n], fun i hi => ?_, ?_, fun s hs => ?_, ?_, ?_⟩
              · rw [q0] at hq
                rw [o (2 + 1) (by omega), o (2 + 2) (by omega), o (2 + 3) (by omega), o (2 + 4) (by omega)]
                show _ = nI (addA P.1 p f u 1 q) - 1 ∧ _ = nI (addA P.1 p f u 2 q) - 1 ∧ _ = nI (addA P.1 p f u 3 q) ∧ _ = nI (addA P.1 p f u 4 q)
                rw [addA_o (i := 1) (by omega), addA_o (i := 2) (by omega), addA_o (i := 3) (by omega), addA_o (i := 4) (by omega)]
                exact u2 q hq
              · rw [addA_n] at hi
                obtain ⟨z1, z2, z3⟩ := addA_r P.1 p f u i
                show S7.1 8 i = _ ∧ S7.1 9 i = _ ∧ S7.1 10 i = _
                rw [z1, z2, z3, m2, m3, m4]
                by_cases ci : i = ta P.1
                · rw [if_pos ci, if_pos ci, if_pos ci, if_pos ci, if_pos ci, if_pos ci]
                  exact ⟨hv1, hv2, hv3⟩
                · rw [if_neg ci, if_neg ci, if_neg ci, if_neg ci, if_neg ci, if_neg ci]
                  exact u4 i (by omega)
              · rw [m5, if_neg (by decide)]; show _ = nI (addA P.1 p f u 9 0); rw [addA_o (by omega)]; exact u5
              · have hs : s < addA P.1 p f u 9 0 := hs
                rw [addA_o (by omega)] at hs
                rw [o (2 + 9) (by omega), o (2 + 10) (by omega)]
                show _ = nI (addA P.1 p f u 10 s) ∧ _ = nI (addA P.1 p f u 11 s)
                rw [addA_o (i := 10) (by omega), addA_o (i := 11) (by omega)]
                exact u6 s hs
              · rw [m5, if_neg (by decide)]; show _ = nI (addA P.1 p f u 12 0); rw [addA_o (by omega)]; exact u7
              · rw [m5, if_neg (by decide)]; show _ = nI (addA P.1 p f u 13 0); rw [addA_o (by omega)]; exact u8
            · refine ⟨fun q hq z => ?_, ?_⟩
              · have hq : q < addA P.1 p f u 0 0 := hq
                rw [addA_o (by omega)] at hq
                show hb (S7.1 7 q) z = (decide (z < addA P.1 p f u 0 0) && (addA P.1 p f u 4 z).testBit q)
                rw [addA_o (i := 0) (by omega), addA_o (i := 4) (by omega), o 7 (by omega)]
                exact x6.1 q hq z
              · rw [m5, if_neg (by decide)]
                show _ = nI (pcs (addA P.1 p f u))
                rw [pcs_rows (T := P.1) (addA_o (by omega)) (addA_o (by omega))]
                exact x6.2
            · rw [m6.2 15 (by omega), m6.2 16 (by omega)]; exact x7
theorem m_rSecret {S : sd_St} {tp : List Nat} {P : Pst} {t : TK} {r : List TK} (h : OKc S tp P (t :: r)) : ∃ S2, f_X9_readSecret 1 S = some ((), S2) ∧ SC S2 tp (rSecret tp.length P (t :: r)) ∧ FR S S2 := by
  have e11 : sd_no 11 = (2003399784 : Int64) := by decide
  have e8 : sd_no 8 = (1718775661 : Int64) := by decide
  have h4 := h.2.2.2.2.2.2.2.2.1.2.2.2.2.1
  obtain ⟨S1, a1, a2, a3⟩ := m_first h (decide (ts P.1 = 4)) (k := 5) (by decide) (by decide)
  obtain ⟨nm0, S2, b1, b2, b3, b4⟩ := m_takeNew a2
  obtain ⟨S3, c1, c2, c3⟩ := m_takeW b2 (i := 11) (by decide)
  obtain ⟨v1, S4, d1, d2, d3, d4⟩ := m_takeP c2
  obtain ⟨S5, g1, g2, g3⟩ := m_takeW d2 (i := 8) (by decide)
  obtain ⟨v2, S6, k1, k2, k3, k4⟩ := m_takeD g2 (v0 := 0) (least := 0) (by decide) (fun _ _ => rfl)
  have fr6 : FR S S6 := FR_trans a3 (FR_trans b3 (FR_trans c3 (FR_trans d3 (FR_trans g3 k3))))
  have pre : ∀ R, (if (S6.1 1 5) = 0 then sd_stl S6 16 (S6.1 2 11) nm0 (fun S_16 => sd_cl (f_X8_addSecret 2 v1 v2 S_16) (fun _ S_17 => (some ((), S_17)))) else (some ((), S6))) = R → f_X9_readSecret 1 S = R := by
    intro R hR
    have key : sd_cl (f_X9_takeNewName 1 S1) (fun r_6 S_5 => sd_cl (f_X9_takeWord 1 (2003399784 : Int64) S_5) (fun _ S_7 => sd_cl (f_X9_takePerson 1 S_7) (fun r_10 S_9 => sd_cl (f_X9_takeWord 1 (1718775661 : Int64) S_9) (fun _ S_11 => sd_cl (f_X9_takeDate 1 (0 : Int32) S_11) (fun r_14 S_13 => (if (S_13.1 1 5) = 0 then sd_stl S_13 16 (S_13.1 2 11) r_6 (fun S_16 => sd_cl (f_X8_addSecret 2 r_10 r_14 S_16) (fun _ S_17 => (some ((), S_17)))) else (some ((), S_13)))))))) = R := by
      rw [sd_cl_ok b1, ← e11, ← e8, sd_cl_ok c1, sd_cl_ok d1, sd_cl_ok g1, sd_cl_ok k1]
      exact hR
    have a1 := a1 (fun S_3 => sd_cl (f_X9_takeNewName 1 S_3) (fun r_6 S_5 => sd_cl (f_X9_takeWord 1 (2003399784 : Int64) S_5) (fun _ S_7 => sd_cl (f_X9_takePerson 1 S_7) (fun r_10 S_9 => sd_cl (f_X9_takeWord 1 (1718775661 : Int64) S_9) (fun _ S_11 => sd_cl (f_X9_takeDate 1 (0 : Int32) S_11) (fun r_14 S_13 => (if (S_13.1 1 5) = 0 then sd_stl S_13 16 (S_13.1 2 11) r_6 (fun S_16 => sd_cl (f_X8_addSecret 2 r_10 r_14 S_16) (fun _ S_17 => (some ((), S_17)))) else (some ((), S_13)))))))))
    unfold f_X9_readSecret f_X9_readSecret_b17
    simp only [Nat.reduceAdd]
    rw [h.2.2.2.2.1.2.2.2.2.1]
    by_cases c : ts P.1 = 4
    · rw [decide_eq_true c] at a1
      rw [if_pos (by rw [c]; rfl)]
      exact a1.trans key
    · rw [decide_eq_false c] at a1
      rw [if_neg (show ¬ nI (ts P.1) = (4 : Int32) from fun z => c (nI_inj (b := 4) (by omega) (by decide) z))]
      exact a1.trans key
  have hfail : ∀ e, FL S6 tp e → rSecret tp.length P (t :: r) = .error e → ∃ S2, f_X9_readSecret 1 S = some ((), S2) ∧ SC S2 tp (rSecret tp.length P (t :: r)) ∧ FR S S2 := by
    intro e hF he
    refine ⟨S6, pre _ ?_, by rw [he]; exact hF, fr6⟩
    rw [if_neg (FL_n0 hF)]
  unfold rSecret at hfail ⊢
  by_cases c : ts P.1 = 4
  · rw [decide_eq_true c] at k2
    rw [if_pos c] at hfail ⊢
    exact hfail _ k2 rfl
  · rw [decide_eq_false c] at a2 b2 b4 c2 d2 d4 g2 k2 k4
    rw [if_neg c] at hfail ⊢
    have hO1 : OKc S1 tp P r := a2
    have b4 : ∀ tl w tl2, (Except.ok r : Except Nat (List TK)) = .ok tl → sNew tp.length P.2.1 tl = .ok (w, tl2) → nm0 = wC w := b4
    have k2 : ST S6 tp P (((((((sNew tp.length P.2.1 r).map (fun y => y.2)).bind (sW tp.length 11)).bind (fun tl => (sP tp.length P.2.1 tl).map (fun _ => tl.tail))).bind (sW tp.length 8)).bind (sD tp.length 0)).map (fun y => y.2)) := k2
    have k4 : ∀ a tl2, (((((sNew tp.length P.2.1 r).map (fun y => y.2)).bind (sW tp.length 11)).bind (fun tl => (sP tp.length P.2.1 tl).map (fun _ => tl.tail))).bind (sW tp.length 8)).bind (sD tp.length 0) = .ok (a, tl2) → v2 = nI a := k4
    have d4 : ∀ tl p, ((sNew tp.length P.2.1 r).map (fun y => y.2)).bind (sW tp.length 11) = .ok tl → sP tp.length P.2.1 tl = .ok p → v1 = nI p := d4
    have hfail : ∀ e, FL S6 tp e → (sNew tp.length P.2.1 r).bind (fun x => (sW tp.length 11 x.2).bind (fun t1 => (sP tp.length P.2.1 t1).bind (fun p => ((sW tp.length 8 t1.tail).bind (sD tp.length 0)).map (fun y => ((addS P.1 p y.1, P.2.1 ++ [(x.1, 12 + ts P.1)], P.2.2), y.2))))) = .error e → ∃ S2, f_X9_readSecret 1 S = some ((), S2) ∧ SC S2 tp ((sNew tp.length P.2.1 r).bind (fun x => (sW tp.length 11 x.2).bind (fun t1 => (sP tp.length P.2.1 t1).bind (fun p => ((sW tp.length 8 t1.tail).bind (sD tp.length 0)).map (fun y => ((addS P.1 p y.1, P.2.1 ++ [(x.1, 12 + ts P.1)], P.2.2), y.2)))))) ∧ FR S S2 := hfail
    show ∃ S2, _ ∧ SC S2 tp ((sNew tp.length P.2.1 r).bind _) ∧ _
    cases hs1 : sNew tp.length P.2.1 r with
    | error e =>
      rw [hs1] at k2 hfail
      exact hfail e k2 rfl
    | ok z =>
      obtain ⟨w, t1⟩ := z
      have hnm := b4 r w t1 rfl hs1
      obtain ⟨hl, hw1, -, hw2⟩ := sNew_ok hs1
      have hw : okW w := by rw [hw1]; exact okW_hd hO1 hw2
      rw [hs1] at k2 k4 d4 hfail
      have k2 : ST S6 tp P (((((sW tp.length 11 t1).bind (fun tl => (sP tp.length P.2.1 tl).map (fun _ => tl.tail))).bind (sW tp.length 8)).bind (sD tp.length 0)).map (fun y => y.2)) := k2
      have k4 : ∀ a tl2, (((sW tp.length 11 t1).bind (fun tl => (sP tp.length P.2.1 tl).map (fun _ => tl.tail))).bind (sW tp.length 8)).bind (sD tp.length 0) = .ok (a, tl2) → v2 = nI a := k4
      have d4 : ∀ tl p, sW tp.length 11 t1 = .ok tl → sP tp.length P.2.1 tl = .ok p → v1 = nI p := d4
      have hfail : ∀ e, FL S6 tp e → (sW tp.length 11 t1).bind (fun t1 => (sP tp.length P.2.1 t1).bind (fun p => ((sW tp.length 8 t1.tail).bind (sD tp.length 0)).map (fun y => ((addS P.1 p y.1, P.2.1 ++ [(w, 12 + ts P.1)], P.2.2), y.2)))) = .error e → ∃ S2, f_X9_readSecret 1 S = some ((), S2) ∧ SC S2 tp ((sW tp.length 11 t1).bind (fun t1 => (sP tp.length P.2.1 t1).bind (fun p => ((sW tp.length 8 t1.tail).bind (sD tp.length 0)).map (fun y => ((addS P.1 p y.1, P.2.1 ++ [(w, 12 + ts P.1)], P.2.2), y.2))))) ∧ FR S S2 := hfail
      show ∃ S2, _ ∧ SC S2 tp ((sW tp.length 11 t1).bind _) ∧ _
      cases hs2 : sW tp.length 11 t1 with
      | error e =>
        rw [hs2] at k2 hfail
        exact hfail e k2 rfl
      | ok t2 =>
        rw [hs2] at k2 k4 d4 hfail
        have k2 : ST S6 tp P (((((sP tp.length P.2.1 t2).map (fun _ => t2.tail)).bind (sW tp.length 8)).bind (sD tp.length 0)).map (fun y => y.2)) := k2
        have k4 : ∀ a tl2, (((sP tp.length P.2.1 t2).map (fun _ => t2.tail)).bind (sW tp.length 8)).bind (sD tp.length 0) = .ok (a, tl2) → v2 = nI a := k4
        have hfail : ∀ e, FL S6 tp e → (sP tp.length P.2.1 t2).bind (fun p => ((sW tp.length 8 t2.tail).bind (sD tp.length 0)).map (fun y => ((addS P.1 p y.1, P.2.1 ++ [(w, 12 + ts P.1)], P.2.2), y.2))) = .error e → ∃ S2, f_X9_readSecret 1 S = some ((), S2) ∧ SC S2 tp ((sP tp.length P.2.1 t2).bind (fun p => ((sW tp.length 8 t2.tail).bind (sD tp.length 0)).map (fun y => ((addS P.1 p y.1, P.2.1 ++ [(w, 12 + ts P.1)], P.2.2), y.2)))) ∧ FR S S2 := hfail
        show ∃ S2, _ ∧ SC S2 tp ((sP tp.length P.2.1 t2).bind _) ∧ _
        cases hs3 : sP tp.length P.2.1 t2 with
        | error e =>
          rw [hs3] at k2 hfail
          exact hfail e k2 rfl
        | ok p =>
          have hv1 := d4 t2 p rfl hs3
          rw [hs3] at k2 k4 hfail
          have k2 : ST S6 tp P (((sW tp.length 8 t2.tail).bind (sD tp.length 0)).map (fun y => y.2)) := k2
          have k4 : ∀ a tl2, (sW tp.length 8 t2.tail).bind (sD tp.length 0) = .ok (a, tl2) → v2 = nI a := k4
          have hfail : ∀ e, FL S6 tp e → ((sW tp.length 8 t2.tail).bind (sD tp.length 0)).map (fun y => ((addS P.1 p y.1, P.2.1 ++ [(w, 12 + ts P.1)], P.2.2), y.2)) = .error e → ∃ S2, f_X9_readSecret 1 S = some ((), S2) ∧ SC S2 tp (((sW tp.length 8 t2.tail).bind (sD tp.length 0)).map (fun y => ((addS P.1 p y.1, P.2.1 ++ [(w, 12 + ts P.1)], P.2.2), y.2))) ∧ FR S S2 := hfail
          show ∃ S2, _ ∧ SC S2 tp (((sW tp.length 8 t2.tail).bind (sD tp.length 0)).map _) ∧ _
          cases hs4 : (sW tp.length 8 t2.tail).bind (sD tp.length 0) with
          | error e =>
            rw [hs4] at k2 hfail
            exact hfail e k2 rfl
          | ok z =>
            obtain ⟨x, t5⟩ := z
            rw [hs4] at k2
            have k2 : OKc S6 tp P t5 := k2
            have hv2 := k4 x t5 hs4
            have hx : x < 4392 := by
              cases hs5 : sW tp.length 8 t2.tail with
              | error e => rw [hs5] at hs4; cases hs4
              | ok q => rw [hs5] at hs4; exact (sD_le hs4).1
            have hW := k2.2.2.2.2.2.2.2.2
            have hp := sP_lt hW hs3
            obtain ⟨S7, hS7⟩ : ∃ S7, S7 = sd_L S6 16 (ts P.1) nm0 := ⟨_, rfl⟩
            have hS71 : S7.1 = S6.1 := by rw [hS7]; rfl
            obtain ⟨S8, m1, m2, m3, m5, m6⟩ := m_addSecret (S := S7) (n := ts P.1) (by omega) (by rw [hS71]; exact k2.2.2.2.2.1.2.2.2.2.1) v1 v2
            refine ⟨S8, pre _ ?_, ?_, FR_trans fr6 (FR_trans ?_ (frm_mono m6 (fun a h => by omega)))⟩
            · rw [k2.2.1, if_pos rfl, k2.2.2.2.2.1.2.2.2.2.1, sd_stl_ok (by rw [al16]; omega) (sd_al_lt _), ← hS7, sd_cl_ok m1]
            · show OKc S8 tp (addS P.1 p x, P.2.1 ++ [(w, 12 + ts P.1)], P.2.2) t5
              obtain ⟨x1, x2, x3, x4, x5, x6, x7, x8, x9⟩ := k2
              have o : ∀ a, ¬ (a = 2 ∨ a = 11 ∨ a = 12) → S8.1 a = S6.1 a := fun a ha => by rw [m6.1 a ha, hS71]
              refine ⟨TPs_fr x1 (by rw [o 13 (by omega)]) (o 14 (by omega)), by rw [o 1 (by omega)]; exact x2, ?_, x4, ?_, ?_, ?_, by rw [o 1 (by omega)]; exact x8, PW_addS x9 (by omega) hp hx hw hl⟩
              · unfold CUR at x3 ⊢
                rw [o 13 (by omega), m6.2 13 (by omega), hS7, rL_cell (by decide)]; exact x3
              · obtain ⟨u1, u2, u3, u4, u5, u6, u7, u8⟩ := x5
                have q0 : tn (addS P.1 p x) = tn P.1 := by show addS P.1 p x 0 0 = _; rw [addS_o (by omega)]
                refine ⟨by rw [m5, if_neg (by decide), hS71, q0]; exact u1, fun q hq => ?_, ?_, fun i hi => ?_, by rw [m5, if_pos rfl, addS_n], fun s hs => ?_, ?_, ?_⟩
                · rw [q0] at hq
                  rw [o (2 + 1) (by omega), o (2 + 2) (by omega), o (2 + 3) (by omega), o (2 + 4) (by omega)]
                  show _ = nI (addS P.1 p x 1 q) - 1 ∧ _ = nI (addS P.1 p x 2 q) - 1 ∧ _ = nI (addS P.1 p x 3 q) ∧ _ = nI (addS P.1 p x 4 q)
                  rw [addS_o (i := 1) (by omega), addS_o (i := 2) (by omega), addS_o (i := 3) (by omega), addS_o (i := 4) (by omega)]
                  exact u2 q hq
                · rw [m5, if_neg (by decide), hS71]; show _ = nI (addS P.1 p x 5 0); rw [addS_o (by omega)]; exact u3
                · have hi : i < addS P.1 p x 5 0 := hi
                  rw [addS_o (by omega)] at hi
                  rw [o (2 + 6) (by omega), o (2 + 7) (by omega), o (2 + 8) (by omega)]
                  show _ = nI (addS P.1 p x 6 i) ∧ _ = nI (addS P.1 p x 7 i) ∧ _ = nI (addS P.1 p x 8 i)
                  rw [addS_o (i := 6) (by omega), addS_o (i := 7) (by omega), addS_o (i := 8) (by omega)]
                  exact u4 i hi
                · rw [addS_n] at hs
                  obtain ⟨z1, z2⟩ := addS_r P.1 p x s
                  show S8.1 11 s = _ ∧ S8.1 12 s = _
                  rw [z1, z2, m2, m3, hS71]
                  by_cases ci : s = ts P.1
                  · rw [if_pos ci, if_pos ci, if_pos ci, if_pos ci]
                    exact ⟨hv1, hv2⟩
                  · rw [if_neg ci, if_neg ci, if_neg ci, if_neg ci]
                    exact u6 s (by omega)
                · rw [m5, if_neg (by decide), hS71]; show _ = nI (addS P.1 p x 12 0); rw [addS_o (by omega)]; exact u7
                · rw [m5, if_neg (by decide), hS71]; show _ = nI (addS P.1 p x 13 0); rw [addS_o (by omega)]; exact u8
              · refine ⟨fun q hq z => ?_, ?_⟩
                · have hq : q < addS P.1 p x 0 0 := hq
                  rw [addS_o (by omega)] at hq
                  show hb (S8.1 7 q) z = (decide (z < addS P.1 p x 0 0) && (addS P.1 p x 4 z).testBit q)
                  rw [addS_o (i := 0) (by omega), addS_o (i := 4) (by omega), o 7 (by omega)]
                  exact x6.1 q hq z
                · rw [m5, if_neg (by decide), hS71]
                  show _ = nI (pcs (addS P.1 p x))
                  rw [pcs_rows (T := P.1) (addS_o (by omega)) (addS_o (by omega))]
                  exact x6.2
              · intro u q hm
                have e15 : S8.2 15 = S6.2 15 := by rw [m6.2 15 (by omega), hS7, rL_cell (by decide)]
                have e16 : S8.2 16 = (sd_L S6 16 (ts P.1) nm0).2 16 := by rw [m6.2 16 (by omega), hS7]
                rw [e15, e16]
                rcases List.mem_append.mp hm with z | z
                · obtain ⟨z1, z2⟩ := x7 u q z
                  refine ⟨z1, fun hq => ?_⟩
                  have : q - 12 ≠ ts P.1 := by
                    have := (x9.2.2.1.1 u q z).2
                    have h12 := x9.1.1
                    omega
                  rw [rL_oth this]; exact z2 hq
                · have z := List.mem_singleton.mp z
                  cases z
                  exact ⟨fun y => by omega, fun _ => by rw [show 12 + ts P.1 - 12 = ts P.1 by omega, rL_same]; exact hnm⟩
            · rw [hS7]; exact frm_L (by omega)
