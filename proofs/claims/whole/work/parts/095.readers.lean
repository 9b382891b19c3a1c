/-! THE READERS OF THE CLASS -/
def SC (S : sd_St) (tp : List Nat) : Except Nat (Pst × List TK) → Prop
  | .ok x => OKc S tp x.1 x.2
  | .error e => FL S tp e
theorem FL_fr {S S2 : sd_St} {tp : List Nat} {e : Nat} (h : FL S tp e) (h13 : S2.1 13 = S.1 13) (h14 : S2.1 14 = S.1 14) (h20 : S2.1 2 0 = S.1 2 0) (h211 : S2.1 2 11 = S.1 2 11) (hb : S2.1 1 4 = S.1 1 4 ∨ S2.1 1 4 = 1) (hz : S2.1 2 15 = S.1 2 15 ∨ S2.1 2 15 = 1) (h15 : S2.1 1 5 = S.1 1 5) : FL S2 tp e := by
  obtain ⟨a1, a2, a3, a4, a5, a6, a7⟩ := h
  refine ⟨TPs_fr a1 (by rw [h13]) h14, by rw [h13]; exact a2, by rw [h20]; exact a3, by rw [h211]; exact a4, ?_, ?_, by rw [h15]; exact a7⟩
  · rcases hb with q | q
    · rw [q]; exact a5
    · exact Or.inr q
  · rcases hz with q | q
    · rw [q]; exact a6
    · exact Or.inr q
theorem sN_le {L m : Nat} {tl tl2 : List TK} {a : Nat} (h : sN L m tl = .ok (a, tl2)) : a ≤ m := by
  unfold sN at h
  by_cases c1 : isN tl = true
  · rw [if_pos c1] at h
    by_cases c2 : hdn tl ≤ m
    · rw [if_pos c2] at h; cases h; exact c2
    · rw [if_neg c2] at h; cases h
  · rw [if_neg c1] at h; cases h
theorem m_rLeap {S : sd_St} {tp : List Nat} {P : Pst} {t : TK} {r : List TK} (h : OKc S tp P (t :: r)) : ∃ S2, f_X9_readLeap 1 S = some ((), S2) ∧ SC S2 tp (rLeap tp.length P (t :: r)) ∧ FR S S2 := by
  have hlt := h.2.2.2.2.2.2.2.1
  unfold f_X9_readLeap rLeap
  simp only [Nat.reduceAdd]
  rw [hlt]
  cases c : P.2.2 with
  | true =>
    obtain ⟨S1, a1, a2, a3⟩ := m_fail_yes h (k := 3) (x := bI true) (y := 3) (by decide) (by decide) (by decide) rfl
    obtain ⟨Sa, hSa⟩ : ∃ Sa, Sa = sd_I S1 1 4 (1 : Int32) := ⟨_, rfl⟩
    have fa : FR S1 Sa := by rw [hSa]; exact frm_I (by omega)
    have Fa : FL Sa tp (flt 3 tp.length (t :: r)) := by
      rw [hSa]
      exact FL_fr a2 (rI_cell (by decide)) (rI_cell (by decide)) (by rw [rI_cell (by decide)]) (by rw [rI_cell (by decide)]) (Or.inr rI_same) (Or.inl (by rw [rI_cell (by decide)])) (rI_oth (by decide))
    obtain ⟨Sb, b1, b2, b3⟩ := m_stepF Fa
    obtain ⟨v, Sc, c1, c2, c3, -⟩ := m_takeN (P := P) (x := .error _) b2 (m := 3) (by decide)
    have c2 : FL Sc tp (flt 3 tp.length (t :: r)) := c2
    refine ⟨sd_I Sc 2 14 v, ?_, FL_fr c2 (rI_cell (by decide)) (rI_cell (by decide)) (rI_oth (by decide)) (rI_oth (by decide)) (Or.inl (by rw [rI_cell (by decide)])) (Or.inl (rI_oth (by decide))) (by rw [rI_cell (by decide)]), FR_trans a3 (FR_trans fa (FR_trans b3 (FR_trans c3 (frm_I (by omega)))))⟩
    rw [sd_cl_ok a1, sd_nm_eq, ← hSa, sd_cl_ok b1, sd_cl_ok (show f_X9_takeNumber 1 (3 : Int32) Sb = _ from c1), sd_nm_eq]
  | false =>
    rw [show bI false = 0 from rfl, sd_cl_ok m_fail_no, sd_nm_eq]
    obtain ⟨Sa, hSa⟩ : ∃ Sa, Sa = sd_I S 1 4 (1 : Int32) := ⟨_, rfl⟩
    have fa : frm (fun a => a = 1) S Sa := by rw [hSa]; exact frm_I rfl
    have Oa : OKc Sa tp (P.1, P.2.1, true) (t :: r) := by
      obtain ⟨a1, a2, a3, a4, a5, a6, a7, a8, a9⟩ := h
      refine ⟨TPs_fr a1 (by rw [fa.1 13 (by decide)]) (fa.1 14 (by decide)), by rw [hSa, rI_oth (by decide)]; exact a2, ?_, a4, CT_fr a5 (fun a q1 q2 => fa.1 a (by omega)), ?_, ?_, by rw [hSa, rI_same]; rfl, ⟨a9.1, a9.2.1, a9.2.2.1, a9.2.2.2⟩⟩
      · unfold CUR at a3 ⊢
        rw [fa.1 13 (by decide), fa.2 13 (by decide)]; exact a3
      · rw [fa.1 7 (by decide), fa.1 2 (by decide)]; exact a6
      · rw [fa.2 15 (by decide), fa.2 16 (by decide)]; exact a7
    rw [← hSa]
    obtain ⟨Sb, b1, b2, b3⟩ := m_stepO Oa
    obtain ⟨v, Sc, c1, c2, c3, c4⟩ := m_takeN (P := (P.1, P.2.1, true)) (x := .ok r) b2 (m := 3) (by decide)
    have c2 : ST Sc tp (P.1, P.2.1, true) ((sN tp.length 3 r).map (fun y => y.2)) := c2
    have c4 : ∀ a tl2, sN tp.length 3 r = .ok (a, tl2) → v = nI a := c4
    have fr : FR S (sd_I Sc 2 14 v) := FR_trans (frm_mono fa (fun a h => by omega)) (FR_trans b3 (FR_trans c3 (frm_I (by omega))))
    refine ⟨sd_I Sc 2 14 v, ?_, ?_, fr⟩
    · rw [sd_cl_ok b1, sd_cl_ok (show f_X9_takeNumber 1 (3 : Int32) Sb = _ from c1), sd_nm_eq]
    · show SC _ tp (if false = true then _ else (sN tp.length 3 r).map _)
      rw [if_neg (by decide)]
      cases hs : sN tp.length 3 r with
      | error e =>
        rw [hs] at c2
        have c2 : FL Sc tp e := c2
        exact FL_fr c2 (rI_cell (by decide)) (rI_cell (by decide)) (rI_oth (by decide)) (rI_oth (by decide)) (Or.inl (by rw [rI_cell (by decide)])) (Or.inl (rI_oth (by decide))) (by rw [rI_cell (by decide)])
      | ok z =>
        obtain ⟨n, t1⟩ := z
        rw [hs] at c2
        have c2 : OKc Sc tp (P.1, P.2.1, true) t1 := c2
        have hv := c4 n t1 hs
        have hn := sN_le hs
        obtain ⟨a1, a2, a3, a4, a5, a6, a7, a8, a9⟩ := c2
        show OKc (sd_I Sc 2 14 v) tp (setL P.1 n, P.2.1, true) t1
        have o : ∀ a, a ≠ 2 → (sd_I Sc 2 14 v).1 a = Sc.1 a := fun a ha => rI_cell ha
        refine ⟨TPs_fr a1 (by rw [o 13 (by decide)]) (o 14 (by decide)), by rw [o 1 (by decide)]; exact a2, ?_, a4, ?_, ?_, a7, by rw [o 1 (by decide)]; exact a8, PW_setL (P := (P.1, P.2.1, true)) a9 hn⟩
        · unfold CUR at a3 ⊢
          rw [o 13 (by decide)]; exact a3
        · obtain ⟨u1, u2, u3, u4, u5, u6, u7, u8⟩ := a5
          refine ⟨by rw [rI_oth (by decide)]; exact u1, fun p hp => ?_, by rw [rI_oth (by decide)]; exact u3, fun i hi => ?_, by rw [rI_oth (by decide)]; exact u5, fun s hs => ?_, ?_, by rw [rI_oth (by decide)]; exact u8⟩
          · rw [o (2 + 1) (by decide), o (2 + 2) (by decide), o (2 + 3) (by decide), o (2 + 4) (by decide)]; exact u2 p hp
          · rw [o (2 + 6) (by decide), o (2 + 7) (by decide), o (2 + 8) (by decide)]; exact u4 i hi
          · rw [o (2 + 9) (by decide), o (2 + 10) (by decide)]; exact u6 s hs
          · rw [rI_same, hv]; rfl
        · rw [o 7 (by decide)]
          exact ⟨a6.1, by rw [rI_oth (by decide)]; exact a6.2⟩
theorem m_rLaw {S : sd_St} {tp : List Nat} {P : Pst} {t : TK} {r : List TK} (h : OKc S tp P (t :: r)) : ∃ S2, f_X9_readLaw 1 S = some ((), S2) ∧ SC S2 tp (rLaw tp.length P (t :: r)) ∧ FR S S2 := by
  have hz := h.2.2.2.2.1.2.2.2.2.2.2.2
  have hz1 := h.2.2.2.2.2.2.2.2.1.2.2.2.2.2.2.2
  have e13 : sd_no 13 = (474080961907 : Int64) := by decide
  unfold f_X9_readLaw rLaw
  simp only [Nat.reduceAdd]
  rw [hz]
  by_cases c : tz P.1 = 1
  · rw [if_pos c]
    obtain ⟨S1, a1, a2, a3⟩ := m_fail_yes h (k := 3) (x := nI (tz P.1)) (y := 3) (by decide) (by decide) (by rw [c]; decide) rfl
    obtain ⟨Sa, hSa⟩ : ∃ Sa, Sa = sd_I S1 2 15 (1 : Int32) := ⟨_, rfl⟩
    have fa : FR S1 Sa := by rw [hSa]; exact frm_I (by omega)
    have Fa : FL Sa tp (flt 3 tp.length (t :: r)) := by
      rw [hSa]
      exact FL_fr a2 (rI_cell (by decide)) (rI_cell (by decide)) (rI_oth (by decide)) (rI_oth (by decide)) (Or.inl (by rw [rI_cell (by decide)])) (Or.inr rI_same) (by rw [rI_cell (by decide)])
    obtain ⟨Sb, b1, b2, b3⟩ := m_stepF Fa
    obtain ⟨Sc, c1, c2, c3⟩ := m_takeW (P := P) (x := .error _) b2 (i := 13) (by decide)
    refine ⟨Sc, ?_, c2, FR_trans a3 (FR_trans fa (FR_trans b3 c3))⟩
    rw [sd_cl_ok a1, sd_nm_eq, ← hSa, sd_cl_ok b1, ← e13, sd_cl_ok c1]
  · rw [if_neg c, show tz P.1 = 0 by omega, show nI 0 = 0 from rfl, sd_cl_ok m_fail_no, sd_nm_eq]
    obtain ⟨Sa, hSa⟩ : ∃ Sa, Sa = sd_I S 2 15 (1 : Int32) := ⟨_, rfl⟩
    have fa : frm (fun a => a = 2) S Sa := by rw [hSa]; exact frm_I rfl
    have Oa : OKc Sa tp (setZ P.1 1, P.2.1, P.2.2) (t :: r) := by
      obtain ⟨a1, a2, a3, a4, a5, a6, a7, a8, a9⟩ := h
      have o : ∀ a, a ≠ 2 → Sa.1 a = S.1 a := fun a ha => fa.1 a ha
      have o2 : ∀ j, j ≠ 15 → Sa.1 2 j = S.1 2 j := fun j hj => by rw [hSa, rI_oth hj]
      refine ⟨TPs_fr a1 (by rw [o 13 (by decide)]) (o 14 (by decide)), by rw [o 1 (by decide)]; exact a2, ?_, a4, ?_, ?_, ?_, by rw [o 1 (by decide)]; exact a8, PW_setZ a9⟩
      · unfold CUR at a3 ⊢
        rw [o 13 (by decide), fa.2 13 (by decide)]; exact a3
      · obtain ⟨u1, u2, u3, u4, u5, u6, u7, u8⟩ := a5
        refine ⟨by rw [o2 0 (by decide)]; exact u1, fun p hp => ?_, by rw [o2 7 (by decide)]; exact u3, fun i hi => ?_, by rw [o2 11 (by decide)]; exact u5, fun s hs => ?_, by rw [o2 14 (by decide)]; exact u7, ?_⟩
        · rw [o (2 + 1) (by decide), o (2 + 2) (by decide), o (2 + 3) (by decide), o (2 + 4) (by decide)]; exact u2 p hp
        · rw [o (2 + 6) (by decide), o (2 + 7) (by decide), o (2 + 8) (by decide)]; exact u4 i hi
        · rw [o (2 + 9) (by decide), o (2 + 10) (by decide)]; exact u6 s hs
        · rw [hSa, rI_same]; rfl
      · rw [o 7 (by decide)]
        exact ⟨a6.1, by rw [o2 6 (by decide)]; exact a6.2⟩
      · rw [fa.2 15 (by decide), fa.2 16 (by decide)]; exact a7
    rw [← hSa]
    obtain ⟨Sb, b1, b2, b3⟩ := m_stepO Oa
    obtain ⟨Sc, c1, c2, c3⟩ := m_takeW (P := (setZ P.1 1, P.2.1, P.2.2)) (x := .ok r) b2 (i := 13) (by decide)
    have c2 : ST Sc tp (setZ P.1 1, P.2.1, P.2.2) (sW tp.length 13 r) := c2
    refine ⟨Sc, ?_, ?_, FR_trans (frm_mono fa (fun a h => by omega)) (FR_trans b3 c3)⟩
    · rw [sd_cl_ok b1, ← e13, sd_cl_ok c1]
    · show SC Sc tp ((sW tp.length 13 r).map _)
      cases hs : sW tp.length 13 r with
      | error e => rw [hs] at c2; exact c2
      | ok z => rw [hs] at c2; exact c2
/-- one of a person's numbers is set -/
theorem OK_row {S : sd_St} {tp : List Nat} {P : Pst} {tl : List TK} (h : OKc S tp P tl) {p k : Nat} {v : Int32} {T2 : TW} (hk : k = 4 ∨ k = 5) (hp : p < 12) (hCT : CT 2 (sd_I S k p v) T2) (hW : PW (T2, P.2.1, P.2.2)) (h0 : T2 0 = P.1 0) (h4 : T2 4 = P.1 4) : OKc (sd_I S k p v) tp (T2, P.2.1, P.2.2) tl := by
  obtain ⟨a1, a2, a3, a4, a5, a6, a7, a8, a9⟩ := h
  have o : ∀ a, a ≠ k → (sd_I S k p v).1 a = S.1 a := fun a ha => rI_cell ha
  refine ⟨TPs_fr a1 (by rw [o 13 (by omega)]) (o 14 (by omega)), by rw [o 1 (by omega)]; exact a2, ?_, a4, hCT, ?_, a7, by rw [o 1 (by omega)]; exact a8, hW⟩
  · unfold CUR at a3 ⊢
    rw [o 13 (by omega)]; exact a3
  · have e0 : tn T2 = tn P.1 := by show T2 0 0 = P.1 0 0; rw [h0]
    refine ⟨fun q hq r => ?_, by rw [o 2 (by omega), pcs_rows (T := P.1) h0 h4]; exact a6.2⟩
    show hb ((sd_I S k p v).1 7 q) r = (decide (r < tn T2) && (tc T2 r).testBit q)
    have hq : q < tn T2 := hq
    rw [o 7 (by omega), e0, show tc T2 r = tc P.1 r from by show T2 4 r = P.1 4 r; rw [h4]]
    exact a6.1 q (by omega) r
theorem isW_ne {i j : Nat} (hij : kw i ≠ kw j) {tl : List TK} (h : isW i tl = true) : isW j tl = false := by
  cases tl with
  | nil => rfl
  | cons t r =>
    have h : (t.1 == 1 && t.2.2 == kw i) = true := h
    show (t.1 == 1 && t.2.2 == kw j) = false
    rw [Bool.and_eq_true] at h
    have : t.2.2 = kw i := by simpa using h.2
    rw [this]
    have : (kw i == kw j) = false := by simpa using hij
    rw [this, Bool.and_false]
theorem m_rExt {tp : List Nat} {p : Nat} : ∀ (k n i : Nat) (a b : Bool) (S : sd_St) (P : Pst) (tl : List TK), i + k = 3 → k < n → OKc S tp P tl → p < tn P.1 → ∃ S2, f_X9_readExtras_l7 1 n (nI p) (bI a) (bI b) (nI i) S = some ((), S2) ∧ SC S2 tp (rExt tp.length k a b p P tl) ∧ FR S S2 := by
  have e3 : sd_no 3 = (1851878757 : Int64) := by decide
  have e4 : sd_no 4 = (6909036 : Int64) := by decide
  intro k
  induction k with
  | zero =>
    intro n i a b S P tl hi hn h hp
    obtain ⟨n, rfl⟩ : ∃ n', n = n' + 1 := ⟨n - 1, by omega⟩
    refine ⟨S, ?_, h, FR_rfl⟩
    unfold f_X9_readExtras_l7
    rw [if_pos (show (3 : Int32) ≤ nI i from nI_le (a := 3) (by omega) (by omega))]
  | succ k ih =>
    intro n i a b S P tl hi hn h hp
    obtain ⟨n, rfl⟩ : ∃ n', n = n' + 1 := ⟨n - 1, by omega⟩
    have h12 := h.2.2.2.2.2.2.2.2.1.1
    -- behind a fault the loop ends
    have hstop : ∀ (S : sd_St) (x y z : Int32) (e : Nat), FL S tp e → f_X9_readExtras_b110 (f_X9_readExtras_l7 1 n) 1 x y z (nI i) S = some ((), S) := by
      intro S x y z e hF
      obtain ⟨n, rfl⟩ : ∃ n', n = n' + 1 := ⟨n - 1, by omega⟩
      unfold f_X9_readExtras_b110 f_X9_readExtras_l7
      rw [nI_1, hF.2.2.2.2.2.2.1]
      by_cases c : i + 1 = 3
      · rw [if_pos (show (3 : Int32) ≤ nI (i + 1) from nI_le (a := 3) (by omega) (by omega))]
      · rw [if_neg (show ¬ (3 : Int32) ≤ nI (i + 1) from nI_ge (b := 3) (by omega) (by decide)), if_neg (nI_ne0 hF.2.2.2.2.2.2.2.1 (by have := hF.2.2.2.2.2.2.2.2; omega))]
    have hlong : ∀ (m c : Nat) (fl : Bool), (c = 4 ∧ m = 365) ∨ (c = 5 ∧ m = 99) → tl ≠ [] → ∃ S4 v, (∀ R : sd_St → Option (Unit × sd_St), sd_cl (f_X9_failIf 1 (bI fl) (3 : Int32) S) (fun _ S_16 => sd_cl (f_X7_step 13 S_16) (fun _ S_18 => sd_cl (f_X9_takeNumber 1 (nI m) S_18) (fun r_21 S_20 => sd_st S_20 c (nI p) r_21 (fun S_22 => R S_22)))) = R (sd_I S4 c p v)) ∧ FR S (sd_I S4 c p v) ∧ (if fl then FL (sd_I S4 c p v) tp (flt 3 tp.length tl) else match sN tp.length m tl.tail with
        | .error e => FL (sd_I S4 c p v) tp e
        | .ok z => OKc S4 tp P z.2 ∧ v = nI z.1) := by
      intro m c fl hcm htl
      have hal : sd_al c = 12 := by rcases hcm with q | q <;> rw [q.1] <;> decide
      have hm : m < 10000 := by omega
      have wr : ∀ (S4 : sd_St) (v : Int32) (e : Nat), FL S4 tp e → FL (sd_I S4 c p v) tp e := fun S4 v e hF => FL_fr hF (rI_cell (by omega)) (rI_cell (by omega)) (by rw [rI_cell (by omega)]) (by rw [rI_cell (by omega)]) (Or.inl (by rw [rI_cell (by omega)])) (Or.inl (by rw [rI_cell (by omega)])) (by rw [rI_cell (by omega)])
      cases fl with
      | true =>
        obtain ⟨S1, a1, a2, a3⟩ := m_fail_yes h (k := 3) (x := bI true) (y := 3) (by decide) (by decide) (by decide) rfl
        obtain ⟨S2, b1, b2, b3⟩ := m_stepF a2
        obtain ⟨v, S3, c1, c2, c3, -⟩ := m_takeN (P := P) (x := .error _) b2 hm
        refine ⟨S3, v, fun R => ?_, FR_trans a3 (FR_trans b3 (FR_trans c3 (frm_I (by omega)))), ?_⟩
        · rw [sd_cl_ok a1, sd_cl_ok b1, sd_cl_ok c1, sd_st_ok (by omega) (sd_al_lt _)]
        · rw [if_pos rfl]
          exact wr S3 v _ c2
      | false =>
        cases tl with
        | nil => exact absurd rfl htl
        | cons t r =>
          obtain ⟨S2, b1, b2, b3⟩ := m_stepO h
          obtain ⟨v, S3, c1, c2, c3, c4⟩ := m_takeN (P := P) (x := .ok r) b2 hm
          have c2 : ST S3 tp P ((sN tp.length m r).map (fun y => y.2)) := c2
          have c4 : ∀ a tl2, sN tp.length m r = .ok (a, tl2) → v = nI a := c4
          refine ⟨S3, v, fun R => ?_, FR_trans b3 (FR_trans c3 (frm_I (by omega))), ?_⟩
          · rw [show bI false = 0 from rfl, sd_cl_ok m_fail_no, sd_cl_ok b1, sd_cl_ok c1, sd_st_ok (by omega) (sd_al_lt _)]
          · rw [if_neg (by decide)]
            show match sN tp.length m r with
              | .error e => FL (sd_I S3 c p v) tp e
              | .ok z => OKc S3 tp P z.2 ∧ v = nI z.1
            cases hs : sN tp.length m r with
            | error e => rw [hs] at c2; exact wr S3 v e c2
            | ok z => rw [hs] at c2; exact ⟨c2, c4 z.1 z.2 hs⟩
    unfold f_X9_readExtras_l7
    simp only [Nat.reduceAdd]
    rw [if_neg (show ¬ (3 : Int32) ≤ nI i from nI_ge (b := 3) (by omega) (by decide)), h.2.1, if_pos rfl, ← e3, ← e4, sd_cl_ok (m_isAt h (by decide))]
    unfold rExt
    cases c3 : isW 3 tl with
    | true =>
      obtain ⟨t, r, rfl⟩ := isW_cons c3
      obtain ⟨S4, v, y1, y2, y3⟩ := hlong 365 4 a (Or.inl ⟨rfl, rfl⟩) (by simp)
      rw [if_neg (by decide), if_pos rfl]
      rw [show (365 : Int32) = nI 365 from rfl, y1 (fun S_22 => f_X9_readExtras_b110 (f_X9_readExtras_l7 1 n) 1 (nI p) (1 : Int32) (bI b) (nI i) S_22)]
      cases a with
      | true =>
        rw [if_pos rfl] at y3
        exact ⟨_, hstop _ _ _ _ _ y3, y3, y2⟩
      | false =>
        rw [if_neg (by decide)] at y3
        rw [if_neg (by decide)]
        have y3 : match sN tp.length 365 r with
          | .error e => FL (sd_I S4 4 p v) tp e
          | .ok z => OKc S4 tp P z.2 ∧ v = nI z.1 := y3
        show ∃ S2, _ ∧ SC S2 tp ((sN tp.length 365 r).bind _) ∧ _
        cases hs : sN tp.length 365 r with
        | error e =>
          rw [hs] at y3
          exact ⟨_, hstop _ _ _ _ _ y3, y3, y2⟩
        | ok z =>
          obtain ⟨d, t1⟩ := z
          rw [hs] at y3
          obtain ⟨y3, y4⟩ := y3
          have hd := sN_le hs
          have hO : OKc (sd_I S4 4 p v) tp (setM P.1 p (d + 1), P.2.1, P.2.2) t1 := by
            refine OK_row y3 (Or.inl rfl) (by omega) ?_ (PW_setM y3.2.2.2.2.2.2.2.2 (by omega)) rfl rfl
            have hT := y3.2.2.2.2.1
            obtain ⟨u1, u2, u3, u4, u5, u6, u7, u8⟩ := hT
            have o : ∀ a, a ≠ 4 → (sd_I S4 4 p v).1 a = S4.1 a := fun a ha => rI_cell ha
            refine ⟨by rw [o 2 (by decide)]; exact u1, fun q hq => ?_, by rw [o 2 (by decide)]; exact u3, fun i hi => ?_, by rw [o 2 (by decide)]; exact u5, fun s hs => ?_, by rw [o 2 (by decide)]; exact u7, by rw [o 2 (by decide)]; exact u8⟩
            · obtain ⟨w1, w2, w3, w4⟩ := u2 q hq
              refine ⟨by rw [o (2 + 1) (by decide)]; exact w1, ?_, by rw [o (2 + 3) (by decide)]; exact w3, by rw [o (2 + 4) (by decide)]; exact w4⟩
              show (sd_I S4 4 p v).1 4 q = nI (if 2 = 2 ∧ q = p then d + 1 else P.1 2 q) - 1
              by_cases c : q = p
              · rw [if_pos ⟨rfl, c⟩, c, rI_same, y4, nI_pred]
              · rw [if_neg (fun z => c z.2), rI_oth c]; exact w2
            · rw [o (2 + 6) (by decide), o (2 + 7) (by decide), o (2 + 8) (by decide)]; exact u4 i hi
            · rw [o (2 + 9) (by decide), o (2 + 10) (by decide)]; exact u6 s hs
          obtain ⟨S5, q1, q2, q3⟩ := ih n (i + 1) true b _ _ t1 (by omega) (by omega) hO hp
          refine ⟨S5, ?_, q2, FR_trans y2 q3⟩
          unfold f_X9_readExtras_b110
          rw [nI_1]
          exact q1
    | false =>
      rw [if_pos (by decide), if_neg (by decide), sd_cl_ok (m_isAt h (by decide))]
      cases c4 : isW 4 tl with
      | true =>
        obtain ⟨t, r, rfl⟩ := isW_cons c4
        obtain ⟨S4, v, y1, y2, y3⟩ := hlong 99 5 b (Or.inr ⟨rfl, rfl⟩) (by simp)
        rw [if_neg (by decide), if_pos rfl]
        rw [show (99 : Int32) = nI 99 from rfl, y1 (fun S_22 => f_X9_readExtras_b110 (f_X9_readExtras_l7 1 n) 1 (nI p) (bI a) (1 : Int32) (nI i) S_22)]
        cases b with
        | true =>
          rw [if_pos rfl] at y3
          exact ⟨_, hstop _ _ _ _ _ y3, y3, y2⟩
        | false =>
          rw [if_neg (by decide)] at y3
          rw [if_neg (by decide)]
          have y3 : match sN tp.length 99 r with
            | .error e => FL (sd_I S4 5 p v) tp e
            | .ok z => OKc S4 tp P z.2 ∧ v = nI z.1 := y3
          show ∃ S2, _ ∧ SC S2 tp ((sN tp.length 99 r).bind _) ∧ _
          cases hs : sN tp.length 99 r with
          | error e =>
            rw [hs] at y3
            exact ⟨_, hstop _ _ _ _ _ y3, y3, y2⟩
          | ok z =>
            obtain ⟨d, t1⟩ := z
            rw [hs] at y3
            obtain ⟨y3, y4⟩ := y3
            have hd := sN_le hs
            have hO : OKc (sd_I S4 5 p v) tp (setI P.1 p d, P.2.1, P.2.2) t1 := by
              refine OK_row y3 (Or.inr rfl) (by omega) ?_ (PW_setI y3.2.2.2.2.2.2.2.2 hd) rfl rfl
              have hT := y3.2.2.2.2.1
              obtain ⟨u1, u2, u3, u4, u5, u6, u7, u8⟩ := hT
              have o : ∀ a, a ≠ 5 → (sd_I S4 5 p v).1 a = S4.1 a := fun a ha => rI_cell ha
              refine ⟨by rw [o 2 (by decide)]; exact u1, fun q hq => ?_, by rw [o 2 (by decide)]; exact u3, fun i hi => ?_, by rw [o 2 (by decide)]; exact u5, fun s hs => ?_, by rw [o 2 (by decide)]; exact u7, by rw [o 2 (by decide)]; exact u8⟩
              · obtain ⟨w1, w2, w3, w4⟩ := u2 q hq
                refine ⟨by rw [o (2 + 1) (by decide)]; exact w1, by rw [o (2 + 2) (by decide)]; exact w2, ?_, by rw [o (2 + 4) (by decide)]; exact w4⟩
                show (sd_I S4 5 p v).1 5 q = nI (if 3 = 3 ∧ q = p then d else P.1 3 q)
                by_cases c : q = p
                · rw [if_pos ⟨rfl, c⟩, c, rI_same, y4]
                · rw [if_neg (fun z => c z.2), rI_oth c]; exact w3
              · rw [o (2 + 6) (by decide), o (2 + 7) (by decide), o (2 + 8) (by decide)]; exact u4 i hi
              · rw [o (2 + 9) (by decide), o (2 + 10) (by decide)]; exact u6 s hs
            obtain ⟨S5, q1, q2, q3⟩ := ih n (i + 1) a true _ _ t1 (by omega) (by omega) hO hp
            refine ⟨S5, ?_, q2, FR_trans y2 q3⟩
            unfold f_X9_readExtras_b110
            rw [nI_1]
            exact q1
      | false =>
        rw [if_pos (by decide), if_neg (by decide)]
        obtain ⟨S5, q1, q2, q3⟩ := ih n (i + 1) a b S P tl (by omega) (by omega) h hp
        refine ⟨S5, ?_, ?_, q3⟩
        · unfold f_X9_readExtras_b110
          rw [nI_1]
          exact q1
        · have e : rExt tp.length k a b p P tl = .ok (P, tl) := by
            cases k with
            | zero => rfl
            | succ k =>
              unfold rExt
              rw [c3, c4, if_neg (by decide), if_neg (by decide)]
          rw [e] at q2
          exact q2
