/-! THE READERS OF THE CLASS: persons, calls, away, secrets -/
theorem sNew_ok {L : Nat} {RN : NL} {tl tl2 : List TK} {w : List Nat} (h : sNew L RN tl = .ok (w, tl2)) : lk RN w = none ∧ w = hdw tl ∧ tl2 = tl.tail ∧ isNm tl = true := by
  unfold sNew at h
  by_cases c1 : isNm tl = true
  · rw [if_pos c1] at h
    by_cases c2 : (lk RN (hdw tl)).isSome = true
    · rw [if_pos c2] at h; cases h
    · rw [if_neg c2] at h
      cases h
      refine ⟨?_, rfl, rfl, c1⟩
      cases hl : lk RN (hdw tl) with
      | none => rfl
      | some v => rw [hl] at c2; exact absurd rfl c2
  · rw [if_neg c1] at h; cases h
theorem okW_hd {S : sd_St} {tp : List Nat} {P : Pst} {tl : List TK} (h : OKc S tp P tl) (hn : isNm tl = true) : okW (hdw tl) := by
  obtain ⟨t, r, rfl, ht⟩ := isNm_cons hn
  exact okW_of (h.2.2.2.1 t List.mem_cons_self).1 ht
theorem m_first {S : sd_St} {tp : List Nat} {P : Pst} {t : TK} {r : List TK} (h : OKc S tp P (t :: r)) (b : Bool) {k : Nat} (hk0 : 0 < k) (hk : k < 16) : ∃ S2, (∀ R : sd_St → Option (Unit × sd_St), sd_cl (f_X9_failIf 1 (bI b) (nI k) S) (fun _ S_1 => sd_cl (f_X7_step 13 S_1) (fun _ S_3 => R S_3)) = R S2) ∧ ST S2 tp P (if b then .error (flt k tp.length (t :: r)) else .ok r) ∧ FR S S2 := by
  cases b with
  | true =>
    obtain ⟨S1, a1, a2, a3⟩ := m_fail_yes h (k := k) (x := bI true) (y := nI k) hk0 hk (by decide) rfl
    obtain ⟨S2, b1, b2, b3⟩ := m_stepF a2
    exact ⟨S2, fun R => by rw [sd_cl_ok a1, sd_cl_ok b1], b2, FR_trans a3 b3⟩
  | false =>
    obtain ⟨S2, b1, b2, b3⟩ := m_stepO h
    exact ⟨S2, fun R => by rw [show bI false = 0 from rfl, sd_cl_ok m_fail_no, sd_cl_ok b1], b2, b3⟩
theorem m_rPerson {S : sd_St} {tp : List Nat} {P : Pst} {t : TK} {r : List TK} (h : OKc S tp P (t :: r)) : ∃ S2, f_X9_readPerson 1 S = some ((), S2) ∧ SC S2 tp (rPerson tp.length P (t :: r)) ∧ FR S S2 := by
  have e2 : sd_no 2 = (1651470958 : Int64) := by decide
  have h12 := h.2.2.2.2.2.2.2.2.1.1
  obtain ⟨S1, a1, a2, a3⟩ := m_first h (decide (tn P.1 = 12)) (k := 5) (by decide) (by decide)
  obtain ⟨nm0, S2, b1, b2, b3, b4⟩ := m_takeNew a2
  obtain ⟨S3, c1, c2, c3⟩ := m_takeW b2 (i := 2) (by decide)
  obtain ⟨v, S4, d1, d2, d3, d4⟩ := m_takeN c2 (m := 365) (by decide)
  have fr4 : FR S S4 := FR_trans a3 (FR_trans b3 (FR_trans c3 d3))
  have pre : ∀ R, (if (S4.1 1 5) = 0 then sd_stl S4 15 (S4.1 2 0) nm0 (fun S_12 => sd_cl (f_X8_addPerson 2 v S_12) (fun _ S_13 => sd_cl (f_X9_readExtras 1 ((S_13.1 2 0) - (1 : Int32)) S_13) (fun _ S_15 => (some ((), S_15))))) else (some ((), S4))) = R → f_X9_readPerson 1 S = R := by
    intro R hR
    have a1 := a1 (fun S_3 => sd_cl (f_X9_takeNewName 1 S_3) (fun r_6 S_5 => sd_cl (f_X9_takeWord 1 (1651470958 : Int64) S_5) (fun _ S_7 => sd_cl (f_X9_takeNumber 1 (365 : Int32) S_7) (fun r_10 S_9 => (if (S_9.1 1 5) = 0 then sd_stl S_9 15 (S_9.1 2 0) r_6 (fun S_12 => sd_cl (f_X8_addPerson 2 r_10 S_12) (fun _ S_13 => sd_cl (f_X9_readExtras 1 ((S_13.1 2 0) - (1 : Int32)) S_13) (fun _ S_15 => (some ((), S_15))))) else (some ((), S_9)))))))
    unfold f_X9_readPerson f_X9_readPerson_b18
    simp only [Nat.reduceAdd]
    rw [h.2.2.2.2.1.1]
    have key : sd_cl (f_X9_takeNewName 1 S1) (fun r_6 S_5 => sd_cl (f_X9_takeWord 1 (1651470958 : Int64) S_5) (fun _ S_7 => sd_cl (f_X9_takeNumber 1 (365 : Int32) S_7) (fun r_10 S_9 => (if (S_9.1 1 5) = 0 then sd_stl S_9 15 (S_9.1 2 0) r_6 (fun S_12 => sd_cl (f_X8_addPerson 2 r_10 S_12) (fun _ S_13 => sd_cl (f_X9_readExtras 1 ((S_13.1 2 0) - (1 : Int32)) S_13) (fun _ S_15 => (some ((), S_15))))) else (some ((), S_9)))))) = R := by
      rw [sd_cl_ok b1, ← e2, sd_cl_ok c1, sd_cl_ok (show f_X9_takeNumber 1 (365 : Int32) S3 = _ from d1)]
      exact hR
    by_cases c : tn P.1 = 12
    · rw [decide_eq_true c] at a1
      rw [if_pos (by rw [c]; rfl)]
      exact a1.trans key
    · rw [decide_eq_false c] at a1
      rw [if_neg (show ¬ nI (tn P.1) = (12 : Int32) from fun z => c (nI_inj (b := 12) (by omega) (by decide) z))]
      exact a1.trans key
  have hfail : ∀ e, FL S4 tp e → rPerson tp.length P (t :: r) = .error e → ∃ S2, f_X9_readPerson 1 S = some ((), S2) ∧ SC S2 tp (rPerson tp.length P (t :: r)) ∧ FR S S2 := by
    intro e hF he
    refine ⟨S4, pre _ ?_, by rw [he]; exact hF, fr4⟩
    rw [hF.2.2.2.2.2.2.1, if_neg (nI_ne0 hF.2.2.2.2.2.2.2.1 (by have := hF.2.2.2.2.2.2.2.2; omega))]
  unfold rPerson at hfail ⊢
  by_cases c : tn P.1 = 12
  · rw [decide_eq_true c] at d2
    rw [if_pos c] at hfail ⊢
    exact hfail _ d2 rfl
  · rw [decide_eq_false c] at a2 b2 b4 c2 d2 d4
    rw [if_neg c] at hfail ⊢
    have b4 : ∀ tl w tl2, (Except.ok r : Except Nat (List TK)) = .ok tl → sNew tp.length P.2.1 tl = .ok (w, tl2) → nm0 = wC w := b4
    have hO1 : OKc S1 tp P r := a2
    show ∃ S2, _ ∧ SC S2 tp ((sNew tp.length P.2.1 r).bind _) ∧ _
    have hfail : ∀ e, FL S4 tp e → (sNew tp.length P.2.1 r).bind (fun x => ((sW tp.length 2 x.2).bind (sN tp.length 365)).bind (fun y => rExt tp.length 3 false false (tn P.1) (addP P.1 y.1, P.2.1 ++ [(x.1, tn P.1)], P.2.2) y.2)) = .error e → ∃ S2, f_X9_readPerson 1 S = some ((), S2) ∧ SC S2 tp ((sNew tp.length P.2.1 r).bind (fun x => ((sW tp.length 2 x.2).bind (sN tp.length 365)).bind (fun y => rExt tp.length 3 false false (tn P.1) (addP P.1 y.1, P.2.1 ++ [(x.1, tn P.1)], P.2.2) y.2))) ∧ FR S S2 := hfail
    have d2 : ST S4 tp P (((((sNew tp.length P.2.1 r).map (fun y => y.2)).bind (sW tp.length 2)).bind (sN tp.length 365)).map (fun y => y.2)) := d2
    have d4 : ∀ a tl2, (((sNew tp.length P.2.1 r).map (fun y => y.2)).bind (sW tp.length 2)).bind (sN tp.length 365) = .ok (a, tl2) → v = nI a := d4
    cases hs1 : sNew tp.length P.2.1 r with
    | error e =>
      rw [hs1] at d2 hfail
      exact hfail e d2 rfl
    | ok z =>
      obtain ⟨w, t1⟩ := z
      rw [hs1] at d2 d4 hfail
      have d2 : ST S4 tp P (((sW tp.length 2 t1).bind (sN tp.length 365)).map (fun y => y.2)) := d2
      have d4 : ∀ a tl2, (sW tp.length 2 t1).bind (sN tp.length 365) = .ok (a, tl2) → v = nI a := d4
      show ∃ S2, _ ∧ SC S2 tp (((sW tp.length 2 t1).bind (sN tp.length 365)).bind _) ∧ _
      have hfail : ∀ e, FL S4 tp e → ((sW tp.length 2 t1).bind (sN tp.length 365)).bind (fun y => rExt tp.length 3 false false (tn P.1) (addP P.1 y.1, P.2.1 ++ [(w, tn P.1)], P.2.2) y.2) = .error e → ∃ S2, f_X9_readPerson 1 S = some ((), S2) ∧ SC S2 tp (((sW tp.length 2 t1).bind (sN tp.length 365)).bind (fun y => rExt tp.length 3 false false (tn P.1) (addP P.1 y.1, P.2.1 ++ [(w, tn P.1)], P.2.2) y.2)) ∧ FR S S2 := hfail
      have hnm := b4 r w t1 rfl hs1
      obtain ⟨hl, hw1, -, hw2⟩ := sNew_ok hs1
      have hw : okW w := by rw [hw1]; exact okW_hd hO1 hw2
      cases hs2 : (sW tp.length 2 t1).bind (sN tp.length 365) with
      | error e =>
        rw [hs2] at d2 hfail
        exact hfail e d2 rfl
      | ok z =>
        obtain ⟨d, t3⟩ := z
        rw [hs2] at d2
        have d2 : OKc S4 tp P t3 := d2
        have hv := d4 d t3 hs2
        have hd : d ≤ 365 := by
          cases hs3 : sW tp.length 2 t1 with
          | error e => rw [hs3] at hs2; cases hs2
          | ok t2 => rw [hs3] at hs2; exact sN_le hs2
        show ∃ S2, _ ∧ SC S2 tp (rExt tp.length 3 false false (tn P.1) (addP P.1 d, P.2.1 ++ [(w, tn P.1)], P.2.2) t3) ∧ _
        obtain ⟨S5, hS5⟩ : ∃ S5, S5 = sd_L S4 15 (tn P.1) nm0 := ⟨_, rfl⟩
        have e20 : S5.1 2 0 = nI (tn P.1) := by rw [hS5]; exact d2.2.2.2.2.1.1
        obtain ⟨S6, g1, g2, g3, g4, g5, g6, g7, g8⟩ := m_addPerson (k := 2) (by decide) (n := tn P.1) (by omega) e20 v
        have hS51 : S5.1 = S4.1 := by rw [hS5]; rfl
        have hO6 : OKc S6 tp (addP P.1 d, P.2.1 ++ [(w, tn P.1)], P.2.2) t3 := by
          have hd2 := d2
          obtain ⟨x1, x2, x3, x4, x5, x6, x7, x8, x9⟩ := d2
          have o : ∀ a, ¬ (2 ≤ a ∧ a ≤ 7) → S6.1 a = S4.1 a := fun a ha => by rw [g8.1 a (by omega), hS51]
          have o2 : ∀ a, a ≠ 15 → S6.2 a = S4.2 a ∨ (2 ≤ a ∧ a ≤ 7) := fun a ha => by
            by_cases c : 2 ≤ a ∧ a ≤ 7
            · exact Or.inr c
            · left; rw [g8.2 a (by omega), hS5, rL_cell ha]
          refine ⟨TPs_fr x1 (by rw [o 13 (by omega)]) (o 14 (by omega)), by rw [o 1 (by omega)]; exact x2, ?_, x4, ?_, ?_, ?_, by rw [o 1 (by omega)]; exact x8, PW_addP x9 (by omega) hd hw hl⟩
          · unfold CUR at x3 ⊢
            rw [o 13 (by omega), (o2 13 (by decide)).resolve_right (by omega)]; exact x3
          · obtain ⟨u1, u2, u3, u4, u5, u6, u7, u8⟩ := x5
            have hi : ∀ i, 5 ≤ i → addP P.1 d i = P.1 i := fun i hi => addP_hi hi
            refine ⟨by rw [g7, if_pos rfl, addP_n], fun q hq => ?_, ?_, fun i hi2 => ?_, ?_, fun s hs => ?_, ?_, ?_⟩
            · rw [addP_n] at hq
              rw [g2, g3, g4, g5, hS51]
              by_cases c : q = tn P.1
              · rw [if_pos c, if_pos c, if_pos c, if_pos c]
                have q1 : tb (addP P.1 d) q = d + 1 := by rw [c]; exact addP_b _ _
                have q2 : tm (addP P.1 d) q = 0 := by rw [c]; exact addP_0 (Or.inl rfl)
                have q3 : ti (addP P.1 d) q = 0 := by rw [c]; exact addP_0 (Or.inr (Or.inl rfl))
                have q4 : tc (addP P.1 d) q = 0 := by rw [c]; exact addP_0 (Or.inr (Or.inr rfl))
                rw [q1, q2, q3, q4, nI_pred]
                exact ⟨hv, by decide, rfl, rfl⟩
              · rw [if_neg c, if_neg c, if_neg c, if_neg c]
                have q1 : tb (addP P.1 d) q = tb P.1 q := addP_old (by omega) c
                have q2 : tm (addP P.1 d) q = tm P.1 q := addP_old (by omega) c
                have q3 : ti (addP P.1 d) q = ti P.1 q := addP_old (by omega) c
                have q4 : tc (addP P.1 d) q = tc P.1 q := addP_old (by omega) c
                rw [q1, q2, q3, q4]
                exact u2 q (by omega)
            · rw [g7, if_neg (by decide), hS51]; show _ = nI (addP P.1 d 5 0); rw [hi 5 (by omega)]; exact u3
            · have hi2 : i < addP P.1 d 5 0 := hi2
              rw [hi 5 (by omega)] at hi2
              rw [o (2 + 6) (by omega), o (2 + 7) (by omega), o (2 + 8) (by omega)]
              show _ = nI (addP P.1 d 6 i) ∧ _ = nI (addP P.1 d 7 i) ∧ _ = nI (addP P.1 d 8 i)
              rw [hi 6 (by omega), hi 7 (by omega), hi 8 (by omega)]
              exact u4 i hi2
            · rw [g7, if_neg (by decide), hS51]; show _ = nI (addP P.1 d 9 0); rw [hi 9 (by omega)]; exact u5
            · have hs : s < addP P.1 d 9 0 := hs
              rw [hi 9 (by omega)] at hs
              rw [o (2 + 9) (by omega), o (2 + 10) (by omega)]
              show _ = nI (addP P.1 d 10 s) ∧ _ = nI (addP P.1 d 11 s)
              rw [hi 10 (by omega), hi 11 (by omega)]
              exact u6 s hs
            · rw [g7, if_neg (by decide), hS51]; show _ = nI (addP P.1 d 12 0); rw [hi 12 (by omega)]; exact u7
            · rw [g7, if_neg (by decide), hS51]; show _ = nI (addP P.1 d 13 0); rw [hi 13 (by omega)]; exact u8
          · refine ⟨fun q hq z => ?_, ?_⟩
            · have hq : q < tn (addP P.1 d) := hq
              rw [addP_n] at hq
              show hb (S6.1 7 q) z = (decide (z < tn (addP P.1 d)) && (tc (addP P.1 d) z).testBit q)
              rw [addP_n, show (7 : Nat) = 2 + 5 from rfl, g6, hS51]
              by_cases cz : z = tn P.1
              · have q4 : tc (addP P.1 d) z = 0 := by rw [cz]; exact addP_0 (Or.inr (Or.inr rfl))
                rw [q4, Nat.zero_testBit, Bool.and_false]
                by_cases c : q = tn P.1
                · rw [if_pos c, hb_0]
                · rw [if_neg c]
                  have := x6.1 q (by omega) z
                  rw [show (2 + 5) = 7 from rfl, this, cz]
                  simp
              · have q4 : tc (addP P.1 d) z = tc P.1 z := addP_old (by omega) cz
                rw [q4]
                by_cases c : q = tn P.1
                · rw [if_pos c, hb_0]
                  by_cases cz2 : z < tn P.1
                  · have := (x9.1.2.1 z cz2).2.2.2.1
                    rw [c, Nat.testBit_lt_two_pow this, Bool.and_false]
                  · have : ¬ z < tn P.1 + 1 := by omega
                    simp [this]
                · rw [if_neg c]
                  have := x6.1 q (by omega) z
                  rw [show (2 + 5) = 7 from rfl, this]
                  have : (z < tn P.1 + 1) = (z < tn P.1) := by simp; omega
                  simp [this]
            · rw [g7, if_neg (by decide), hS51]
              show _ = nI (pcs (addP P.1 d))
              rw [pcs_addP]
              exact x6.2
          · intro u p hm
            have e15 : S6.2 15 = (sd_L S4 15 (tn P.1) nm0).2 15 := by rw [g8.2 15 (by omega), hS5]
            have e16 : S6.2 16 = S4.2 16 := (o2 16 (by decide)).resolve_right (by omega)
            rw [e15, e16]
            rcases List.mem_append.mp hm with q | q
            · obtain ⟨z1, z2⟩ := x7 u p q
              refine ⟨fun hp => ?_, z2⟩
              have : p ≠ tn P.1 := by
                intro z
                have := (x9.2.2.1.1 u p q).2
                omega
              rw [rL_oth this]; exact z1 hp
            · have q := List.mem_singleton.mp q
              cases q
              exact ⟨fun _ => by rw [rL_same]; exact hnm, fun z => by omega⟩
        obtain ⟨S7, k1, k2, k3⟩ := m_rExt (tp := tp) (p := tn P.1) 3 sd_FU 0 false false S6 _ t3 (by omega) (by unfold sd_FU; omega) hO6 (by rw [addP_n]; omega)
        refine ⟨S7, pre _ ?_, k2, FR_trans fr4 (FR_trans ?_ (FR_trans (frm_mono g8 (fun a h => by omega)) k3))⟩
        · have e20' := g7 0
          rw [if_pos rfl] at e20'
          rw [d2.2.1, if_pos rfl, d2.2.2.2.2.1.1, sd_stl_ok (by rw [al15]; omega) (sd_al_lt _), ← hS5, sd_cl_ok g1, e20', nI_pred]
          unfold f_X9_readExtras
          rw [sd_cl_ok (show f_X9_readExtras_l7 1 sd_FU (nI (tn P.1)) (0 : Int32) (0 : Int32) (0 : Int32) S6 = _ from k1)]
        · rw [hS5]; exact frm_L (by omega)
