/-! THE WHOLE TAPE READ BY THE CLASS -/
theorem bind_ok {α β : Type} {x : Except Nat α} {f : α → Except Nat β} {b : β} (h : x.bind f = .ok b) : ∃ a, x = .ok a ∧ f a = .ok b := by
  cases x with
  | error e => cases h
  | ok a => exact ⟨a, rfl, h⟩
theorem map_ok {α β : Type} {x : Except Nat α} {f : α → β} {b : β} (h : x.map f = .ok b) : ∃ a, x = .ok a ∧ f a = b := by
  cases x with
  | error e => cases h
  | ok a => exact ⟨a, rfl, by cases h; rfl⟩
theorem sN_len {L m : Nat} {tl tl2 : List TK} {a : Nat} (h : sN L m tl = .ok (a, tl2)) : tl2.length ≤ tl.length := by
  unfold sN at h
  by_cases c1 : isN tl = true
  · rw [if_pos c1] at h
    by_cases c2 : hdn tl ≤ m
    · rw [if_pos c2] at h; cases h; rw [List.length_tail]; omega
    · rw [if_neg c2] at h; cases h
  · rw [if_neg c1] at h; cases h
theorem sW_len {L i : Nat} {tl tl2 : List TK} (h : sW L i tl = .ok tl2) : tl2.length ≤ tl.length := by
  unfold sW at h
  by_cases c1 : isW i tl = true
  · rw [if_pos c1] at h; cases h; rw [List.length_tail]; omega
  · rw [if_neg c1] at h; cases h
theorem sD_len {L m : Nat} {tl tl2 : List TK} {a : Nat} (h : sD L m tl = .ok (a, tl2)) : tl2.length ≤ tl.length := by
  unfold sD at h
  obtain ⟨⟨y, t1⟩, h1, h2⟩ := bind_ok h
  have l1 := sN_len h1
  unfold sD2 at h2
  by_cases c : (isN t1 && decide (366 * y + hdn t1 < m)) = true
  · rw [if_pos c] at h2; cases h2
  · rw [if_neg c] at h2
    obtain ⟨⟨d, t2⟩, h3, h4⟩ := map_ok h2
    have l2 := sN_len h3
    cases h4
    exact Nat.le_trans l2 l1
theorem tail_le (tl : List TK) : tl.tail.length ≤ tl.length := by rw [List.length_tail]; omega
theorem rExt_len {L p : Nat} : ∀ (n : Nat) (a b : Bool) (P P2 : Pst) (tl tl2 : List TK), rExt L n a b p P tl = .ok (P2, tl2) → tl2.length ≤ tl.length := by
  intro n
  induction n with
  | zero => intro a b P P2 tl tl2 h; cases h; exact Nat.le_refl _
  | succ n ih =>
    intro a b P P2 tl tl2 h
    unfold rExt at h
    by_cases c3 : isW 3 tl = true
    · rw [if_pos c3] at h
      by_cases ca : a = true
      · rw [if_pos ca] at h; cases h
      · rw [if_neg ca] at h
        obtain ⟨⟨d, t1⟩, h1, h2⟩ := bind_ok h
        have l1 := sN_len h1
        have l2 := ih _ _ _ _ _ _ h2
        have l3 := tail_le tl
        dsimp only at l2
        omega
    · rw [if_neg c3] at h
      by_cases c4 : isW 4 tl = true
      · rw [if_pos c4] at h
        by_cases cb : b = true
        · rw [if_pos cb] at h; cases h
        · rw [if_neg cb] at h
          obtain ⟨⟨d, t1⟩, h1, h2⟩ := bind_ok h
          have l1 := sN_len h1
          have l2 := ih _ _ _ _ _ _ h2
          have l3 := tail_le tl
          dsimp only at l2
          omega
      · rw [if_neg c4] at h; cases h; exact Nat.le_refl _
theorem oneH_len {L p : Nat} {P P2 : Pst} {tl tl2 : List TK} (h : oneH L p P tl = .ok (P2, tl2)) : tl2.length ≤ tl.length := by
  unfold oneH at h
  obtain ⟨q, h1, h2⟩ := bind_ok h
  by_cases c : q = p ∨ (tc P.1 q).testBit p = true
  · rw [if_pos c] at h2; cases h2
  · rw [if_neg c] at h2
    by_cases c2 : 6 ≤ pcB (tc P.1 q)
    · rw [if_pos c2] at h2; cases h2
    · rw [if_neg c2] at h2; cases h2; exact tail_le tl
theorem rHost_len {L p : Nat} : ∀ (n : Nat) (P P2 : Pst) (tl tl2 : List TK), rHost L n p P tl = .ok (P2, tl2) → tl2.length ≤ tl.length := by
  intro n
  induction n with
  | zero => intro P P2 tl tl2 h; cases h; exact Nat.le_refl _
  | succ n ih =>
    intro P P2 tl tl2 h
    rw [rHost_s] at h
    obtain ⟨⟨P3, t3⟩, h1, h2⟩ := bind_ok h
    have l1 := oneH_len h1
    have h2 : (if isS t3 then Except.ok (P3, t3) else rHost L n p P3 t3) = (Except.ok (P2, tl2) : Except Nat (Pst × List TK)) := h2
    by_cases c : isS t3 = true
    · rw [if_pos c] at h2; cases h2; exact l1
    · rw [if_neg c] at h2
      have := ih _ _ _ _ h2
      omega
theorem sNew_len {L : Nat} {RN : NL} {tl tl2 : List TK} {w : List Nat} (h : sNew L RN tl = .ok (w, tl2)) : tl2.length ≤ tl.length := by
  rw [(sNew_ok h).2.2.1]; exact tail_le tl
theorem rLine_len {L : Nat} {P P2 : Pst} {t : TK} {r tl2 : List TK} (h : rLine L P (t :: r) = .ok (P2, tl2)) : tl2.length ≤ r.length := by
  unfold rLine at h
  by_cases c0 : isW 0 (t :: r) = true
  · rw [if_pos c0] at h
    unfold rLeap at h
    by_cases c : P.2.2 = true
    · rw [if_pos c] at h; cases h
    · rw [if_neg c] at h
      obtain ⟨⟨n, t1⟩, h1, h2⟩ := map_ok h
      have := sN_len h1
      cases h2
      exact this
  · rw [if_neg c0] at h
    by_cases c1 : isW 1 (t :: r) = true
    · rw [if_pos c1] at h
      unfold rPerson at h
      by_cases c : tn P.1 = 12
      · rw [if_pos c] at h; cases h
      · rw [if_neg c] at h
        obtain ⟨⟨w, t1⟩, h1, h2⟩ := bind_ok h
        obtain ⟨⟨d, t2⟩, h3, h4⟩ := bind_ok h2
        obtain ⟨t3, h5, h6⟩ := bind_ok h3
        have l1 := sNew_len h1
        have l2 := sW_len h5
        have l3 := sN_len h6
        have l4 := rExt_len _ _ _ _ _ _ _ h4
        have e : (t :: r).tail.length = r.length := rfl
        dsimp only at l2 l4
        omega
    · rw [if_neg c1] at h
      by_cases c5 : isW 5 (t :: r) = true
      · rw [if_pos c5] at h
        unfold rCalls at h
        obtain ⟨p, h1, h2⟩ := bind_ok h
        obtain ⟨t2, h3, h4⟩ := bind_ok h2
        have l2 := sW_len h3
        have l4 := rHost_len _ _ _ _ _ h4
        have l5 := tail_le r
        have e : (t :: r).tail.tail.length = r.tail.length := rfl
        omega
      · rw [if_neg c5] at h
        by_cases c7 : isW 7 (t :: r) = true
        · rw [if_pos c7] at h
          unfold rAway at h
          by_cases c : ta P.1 = 12
          · rw [if_pos c] at h; cases h
          · rw [if_neg c] at h
            obtain ⟨p, h1, h2⟩ := bind_ok h
            obtain ⟨⟨f, t2⟩, h3, h4⟩ := bind_ok h2
            obtain ⟨t3, h5, h6⟩ := bind_ok h3
            obtain ⟨⟨u, t4⟩, h7, h8⟩ := map_ok h4
            obtain ⟨t5, h9, h10⟩ := bind_ok h7
            have l1 := sW_len h5
            have l2 := sD_len h6
            have l3 := sW_len h9
            have l4 := sD_len h10
            have l5 := tail_le r
            have e : (t :: r).tail.tail.length = r.tail.length := rfl
            cases h8
            dsimp only at l3 l4
            show t4.length ≤ r.length
            omega
        · rw [if_neg c7] at h
          by_cases c10 : isW 10 (t :: r) = true
          · rw [if_pos c10] at h
            unfold rSecret at h
            by_cases c : ts P.1 = 4
            · rw [if_pos c] at h; cases h
            · rw [if_neg c] at h
              obtain ⟨⟨w, t1⟩, h1, h2⟩ := bind_ok h
              obtain ⟨t2, h3, h4⟩ := bind_ok h2
              obtain ⟨p, h5, h6⟩ := bind_ok h4
              obtain ⟨⟨x, t3⟩, h7, h8⟩ := map_ok h6
              obtain ⟨t4, h9, h10⟩ := bind_ok h7
              have l1 := sNew_len h1
              have l2 := sW_len h3
              have l3 := sW_len h9
              have l4 := sD_len h10
              have l5 := tail_le t2
              have e : (t :: r).tail.length = r.length := rfl
              cases h8
              dsimp only at l2
              show t3.length ≤ r.length
              omega
          · rw [if_neg c10] at h
            by_cases c12 : isW 12 (t :: r) = true
            · rw [if_pos c12] at h
              unfold rLaw at h
              by_cases c : tz P.1 = 1
              · rw [if_pos c] at h; cases h
              · rw [if_neg c] at h
                obtain ⟨t1, h1, h2⟩ := map_ok h
                have := sW_len h1
                cases h2
                exact this
            · rw [if_neg c12] at h; cases h
/-- behind the reading: the draft is what was told -/
def DRF (S : sd_St) (P : Pst) : Prop := CT 2 S P.1 ∧ (∀ p, p < tn P.1 → ∀ q, hb (S.1 7 p) q = (decide (q < tn P.1) && (tc P.1 q).testBit p)) ∧ S.1 2 6 = nI (pcs P.1) ∧ PW P
def eI : Except Nat Pst → Int32
  | .ok _ => 0
  | .error e => nI e
def TW0 : TW := fun _ _ => 0
theorem m_rLine {S : sd_St} {tp : List Nat} {P : Pst} {t : TK} {r : List TK} (h : OKc S tp P (t :: r)) (q26 : Int32 → sd_St → Option (Int32 × sd_St)) (x : Int32) : ∃ S2, (∀ R, f_X9_readTape_b176 q26 1 x S2 = R → (sd_cl (f_X7_isAt 13 (1818583408 : Int64) S) (fun r_12 S_11 => (if r_12 = 0 then sd_cl (f_X7_isAt 13 (123581014175598 : Int64) S_11) (fun r_15 S_14 => (if r_15 = 0 then sd_cl (f_X7_isAt 13 (426836257907 : Int64) S_14) (fun r_18 S_17 => (if r_18 = 0 then sd_cl (f_X7_isAt 13 (1635213689 : Int64) S_17) (fun r_21 S_20 => (if r_21 = 0 then sd_cl (f_X7_isAt 13 (126879297332596 : Int64) S_20) (fun r_24 S_23 => (if r_24 = 0 then sd_cl (f_X7_isAt 13 (7102839 : Int64) S_23) (fun r_27 S_26 => (if r_27 = 0 then sd_cl (f_X9_failIf 1 (1 : Int32) (1 : Int32) S_26) (fun _ S_29 => f_X9_readTape_b176 q26 1 x S_29) else sd_cl (f_X9_readLaw 1 S_26) (fun _ S_31 => f_X9_readTape_b176 q26 1 x S_31))) else sd_cl (f_X9_readSecret 1 S_23) (fun _ S_33 => f_X9_readTape_b176 q26 1 x S_33))) else sd_cl (f_X9_readAway 1 S_20) (fun _ S_35 => f_X9_readTape_b176 q26 1 x S_35))) else sd_cl (f_X9_readCalls 1 S_17) (fun _ S_37 => f_X9_readTape_b176 q26 1 x S_37))) else sd_cl (f_X9_readPerson 1 S_14) (fun _ S_39 => f_X9_readTape_b176 q26 1 x S_39))) else sd_cl (f_X9_readLeap 1 S_11) (fun _ S_41 => f_X9_readTape_b176 q26 1 x S_41)))) = R) ∧ SC S2 tp (rLine tp.length P (t :: r)) ∧ FR S S2 := by
  have e0 : sd_no 0 = (1818583408 : Int64) := by decide
  have e1 : sd_no 1 = (123581014175598 : Int64) := by decide
  have e5 : sd_no 5 = (426836257907 : Int64) := by decide
  have e7 : sd_no 7 = (1635213689 : Int64) := by decide
  have e10 : sd_no 10 = (126879297332596 : Int64) := by decide
  have e12 : sd_no 12 = (7102839 : Int64) := by decide
  rw [← e0, ← e1, ← e5, ← e7, ← e10, ← e12]
  unfold rLine
  rw [sd_cl_ok (m_isAt h (by decide))]
  cases c0 : isW 0 (t :: r) with
  | true =>
    obtain ⟨S2, a1, a2, a3⟩ := m_rLeap h
    refine ⟨S2, fun R hR => ?_, a2, a3⟩
    rw [if_neg (by decide), sd_cl_ok a1]; exact hR
  | false =>
    rw [if_pos (by decide), sd_cl_ok (m_isAt h (by decide)), if_neg (show ¬ (false = true) by decide)]
    cases c1 : isW 1 (t :: r) with
    | true =>
      obtain ⟨S2, a1, a2, a3⟩ := m_rPerson h
      refine ⟨S2, fun R hR => ?_, a2, a3⟩
      rw [if_neg (by decide), sd_cl_ok a1]; exact hR
    | false =>
      rw [if_pos (by decide), sd_cl_ok (m_isAt h (by decide)), if_neg (show ¬ (false = true) by decide)]
      cases c5 : isW 5 (t :: r) with
      | true =>
        obtain ⟨S2, a1, a2, a3⟩ := m_rCalls h
        refine ⟨S2, fun R hR => ?_, a2, a3⟩
        rw [if_neg (by decide), sd_cl_ok a1]; exact hR
      | false =>
        rw [if_pos (by decide), sd_cl_ok (m_isAt h (by decide)), if_neg (show ¬ (false = true) by decide)]
        cases c7 : isW 7 (t :: r) with
        | true =>
          obtain ⟨S2, a1, a2, a3⟩ := m_rAway h
          refine ⟨S2, fun R hR => ?_, a2, a3⟩
          rw [if_neg (by decide), sd_cl_ok a1]; exact hR
        | false =>
          rw [if_pos (by decide), sd_cl_ok (m_isAt h (by decide)), if_neg (show ¬ (false = true) by decide)]
          cases c10 : isW 10 (t :: r) with
          | true =>
            obtain ⟨S2, a1, a2, a3⟩ := m_rSecret h
            refine ⟨S2, fun R hR => ?_, a2, a3⟩
            rw [if_neg (by decide), sd_cl_ok a1]; exact hR
          | false =>
            rw [if_pos (by decide), sd_cl_ok (m_isAt h (by decide)), if_neg (show ¬ (false = true) by decide)]
            cases c12 : isW 12 (t :: r) with
            | true =>
              obtain ⟨S2, a1, a2, a3⟩ := m_rLaw h
              refine ⟨S2, fun R hR => ?_, a2, a3⟩
              rw [if_neg (by decide), sd_cl_ok a1]; exact hR
            | false =>
              obtain ⟨S2, a1, a2, a3⟩ := m_fail_yes h (k := 1) (x := 1) (y := 1) (by decide) (by decide) (by decide) rfl
              refine ⟨S2, fun R hR => ?_, a2, a3⟩
              rw [if_pos (by decide), sd_cl_ok a1]; exact hR
theorem m_rTape_l {tp : List Nat} : ∀ (m n i : Nat) (S : sd_St) (P : Pst) (tl : List TK), tl.length ≤ m → m < n → i + tl.length ≤ 1000 → OKc S tp P tl → ∃ S2, f_X9_readTape_l26 1 n (nI i) S = some (eI (rAll tp.length (m + 1) P tl), S2) ∧ S2.1 13 1 = 0 ∧ (∀ P2, rAll tp.length (m + 1) P tl = .ok P2 → DRF S2 P2) ∧ (∀ e, rAll tp.length (m + 1) P tl = .error e → 0 < e ∧ e < 2 ^ 30) ∧ FR S S2 := by
  have hwipe : ∀ (S : sd_St), f_X9_readTape_b210 1 S = some (S.1 1 5, sd_I S 13 1 0) := by
    intro S
    unfold f_X9_readTape_b210 f_X7_wipe
    simp only [Nat.reduceAdd]
    rw [sd_nm_eq, sd_cl_ok rfl, rI_cell (by decide)]
  have hfin : ∀ (S : sd_St) (e : Nat) (n j : Nat), 0 < n → j < 2 ^ 31 → FL S tp e → f_X9_readTape_l26 1 n (nI j) S = some (nI e, sd_I S 13 1 0) := by
    intro S e n j hn hj hF
    obtain ⟨n, rfl⟩ : ∃ n', n = n' + 1 := ⟨n - 1, by omega⟩
    unfold f_X9_readTape_l26
    rw [hwipe, if_neg (FL_n0 hF), hF.2.2.2.2.2.2.1]
    simp
  intro m
  induction m with
  | zero =>
    intro n i S P tl hl hn hi h
    obtain ⟨n, rfl⟩ : ∃ n', n = n' + 1 := ⟨n - 1, by omega⟩
    have : tl = [] := List.length_eq_zero_iff.mp (by omega)
    subst this
    refine ⟨sd_I S 13 1 0, ?_, rI_same, fun P2 hP2 => ?_, fun e he => (by cases he), frm_I (by omega)⟩
    · unfold f_X9_readTape_l26
      simp only [Nat.reduceAdd]
      rw [hwipe, h.2.1, cur_0 h.2.2.1]
      by_cases c : (1000 : Int32) ≤ nI i
      · rw [if_pos c]; rfl
      · rw [if_neg c, if_pos rfl, if_pos rfl]; rfl
    · cases hP2
      have o : ∀ a, a ≠ 13 → (sd_I S 13 1 0).1 a = S.1 a := fun a ha => rI_cell ha
      exact ⟨CT_fr h.2.2.2.2.1 (fun a g1 g2 => o a (by omega)), by rw [o 7 (by decide)]; exact h.2.2.2.2.2.1.1, by rw [o 2 (by decide)]; exact h.2.2.2.2.2.1.2, h.2.2.2.2.2.2.2.2⟩
  | succ m ih =>
    intro n i S P tl hl hn hi h
    obtain ⟨n, rfl⟩ : ∃ n', n = n' + 1 := ⟨n - 1, by omega⟩
    cases tl with
    | nil =>
      refine ⟨sd_I S 13 1 0, ?_, rI_same, fun P2 hP2 => ?_, fun e he => (by cases he), frm_I (by omega)⟩
      · unfold f_X9_readTape_l26
        simp only [Nat.reduceAdd]
        rw [hwipe, h.2.1, cur_0 h.2.2.1]
        by_cases c : (1000 : Int32) ≤ nI i
        · rw [if_pos c]; rfl
        · rw [if_neg c, if_pos rfl, if_pos rfl]; rfl
      · cases hP2
        have o : ∀ a, a ≠ 13 → (sd_I S 13 1 0).1 a = S.1 a := fun a ha => rI_cell ha
        exact ⟨CT_fr h.2.2.2.2.1 (fun a g1 g2 => o a (by omega)), by rw [o 7 (by decide)]; exact h.2.2.2.2.2.1.1, by rw [o 2 (by decide)]; exact h.2.2.2.2.2.1.2, h.2.2.2.2.2.2.2.2⟩
    | cons t r =>
      rw [List.length_cons] at hl hi
      have hk := okT_lt (h.2.2.2.1 t List.mem_cons_self).1
      have k1 := (cur_k h.2.2.1).1
      obtain ⟨S1, a1, a2, a3⟩ := m_rLine h (f_X9_readTape_l26 1 n) (nI i)
      have pre : ∀ R, f_X9_readTape_b176 (f_X9_readTape_l26 1 n) 1 (nI i) S1 = R → f_X9_readTape_l26 1 (n + 1) (nI i) S = R := by
        intro R hR
        unfold f_X9_readTape_l26
        simp only [Nat.reduceAdd]
        rw [if_neg (show ¬ (1000 : Int32) ≤ nI i from nI_ge (b := 1000) (by omega) (by decide)), h.2.1, if_pos rfl, k1, if_neg (nI_ne0 hk.1 (by omega))]
        exact a1 R hR
      show ∃ S2, _ = some (eI ((rLine tp.length P (t :: r)).bind (fun x => (sS tp.length x.2).bind (fun y => rAll tp.length (m + 1) x.1 y))), S2) ∧ _
      have hFx : ∀ e, FL S1 tp e → ∃ S2, f_X9_readTape_l26 1 (n + 1) (nI i) S = some (nI e, S2) ∧ S2.1 13 1 = 0 ∧ FR S S2 := by
        intro e hF
        obtain ⟨S2, b1, b2, b3⟩ := m_stepF hF
        refine ⟨sd_I S2 13 1 0, pre _ ?_, rI_same, FR_trans a3 (FR_trans b3 (frm_I (by omega)))⟩
        have := hfin S2 e n (i + 1) (by omega) (by omega) b2
        unfold f_X9_readTape_b176 f_X9_readTape_b193
        simp only [Nat.reduceAdd]
        rw [m_fail_FL hF, m_fail_FL hF, sd_cl_ok rfl, sd_cl_ok b1, nI_1, this]
        simp
      have hrA : rAll tp.length (m + 1 + 1) P (t :: r) = (rLine tp.length P (t :: r)).bind (fun x => (sS tp.length x.2).bind (fun y => rAll tp.length (m + 1) x.1 y)) := rfl
      rw [hrA]
      cases hs : rLine tp.length P (t :: r) with
      | error e =>
        rw [hs] at a2
        have a2 : FL S1 tp e := a2
        obtain ⟨S2, b1, b2, b3⟩ := hFx e a2
        exact ⟨S2, b1, b2, fun P2 z => (by cases z), fun e' z => (by cases z; exact ⟨a2.2.2.2.2.2.2.2.1, a2.2.2.2.2.2.2.2.2⟩), b3⟩
      | ok z =>
        obtain ⟨P2, t1⟩ := z
        have hlen := rLine_len hs
        rw [hs] at a2
        have a2 : OKc S1 tp P2 t1 := a2
        show ∃ S2, _ = some (eI ((sS tp.length t1).bind (fun y => rAll tp.length (m + 1) P2 y)), S2) ∧ _ ∧ (∀ P3, (sS tp.length t1).bind (fun y => rAll tp.length (m + 1) P2 y) = .ok P3 → _) ∧ (∀ e, (sS tp.length t1).bind (fun y => rAll tp.length (m + 1) P2 y) = .error e → _) ∧ _
        unfold sS
        cases cs : isS t1 with
        | true =>
          cases t1 with
          | nil => cases cs
          | cons u q =>
            obtain ⟨S2, b1, b2, b3⟩ := m_stepO a2
            rw [List.length_cons] at hlen
            obtain ⟨S3, y1, y2, y3, y4, y5⟩ := ih n (i + 1) S2 P2 q (by omega) (by omega) (by omega) b2
            refine ⟨S3, pre _ ?_, y2, y3, y4, FR_trans a3 (FR_trans b3 y5)⟩
            unfold f_X9_readTape_b176 f_X9_readTape_b193
            simp only [Nat.reduceAdd]
            rw [if_pos ((cur_S a2).mpr cs), sd_cl_ok m_fail_no, sd_cl_ok b1, nI_1]
            exact y1
        | false =>
          obtain ⟨S2, b1, b2, b3⟩ := m_fail_yes a2 (k := 1) (x := 1) (y := 1) (by decide) (by decide) (by decide) rfl
          obtain ⟨S3, c1, c2, c3⟩ := m_stepF b2
          refine ⟨sd_I S3 13 1 0, pre _ ?_, rI_same, fun P3 z => (by cases z), fun e' z => (by cases z; exact ⟨b2.2.2.2.2.2.2.2.1, b2.2.2.2.2.2.2.2.2⟩), FR_trans a3 (FR_trans b3 (FR_trans c3 (frm_I (by omega))))⟩
          have := hfin S3 _ n (i + 1) (by omega) (by omega) c2
          unfold f_X9_readTape_b176 f_X9_readTape_b193
          simp only [Nat.reduceAdd]
          rw [if_neg (fun z => by rw [(cur_S a2).mp z] at cs; cases cs), sd_cl_ok b1, sd_cl_ok c1, nI_1, this]
          rfl
theorem PW_0 : PW (TW0, [], false) := by
  refine ⟨⟨Nat.zero_le _, fun p hp => absurd hp (Nat.not_lt_zero p), Nat.zero_le _, fun p hp => absurd hp (Nat.not_lt_zero p), Nat.zero_le _, fun p hp => absurd hp (Nat.not_lt_zero p), Nat.zero_le _, Nat.zero_le _⟩, fun p hp => absurd hp (Nat.not_lt_zero p), ⟨fun w v h => (by cases h), List.Pairwise.nil, fun p hp => absurd hp (Nat.not_lt_zero p), fun p hp => absurd hp (Nat.not_lt_zero p), rfl, List.Pairwise.nil⟩, fun p hp => absurd hp (Nat.not_lt_zero p)⟩
def told (tp : List Nat) : Except Nat Pst := rAll tp.length (1000 + 1) (TW0, [], false) (tks tp 0)
theorem m_readTape {S : sd_St} {tp : List Nat} (hT : TPs S tp) : ∃ S2, f_X9_readTape 1 S = some (eI (told tp), S2) ∧ S2.1 13 1 = 0 ∧ (∀ P2, told tp = .ok P2 → DRF S2 P2) ∧ (∀ e, told tp = .error e → 0 < e ∧ e < 2 ^ 30) ∧ FR S S2 := by
  obtain ⟨A1, hA1⟩ : ∃ A, A = sd_I S 2 0 0 := ⟨_, rfl⟩
  obtain ⟨A2, hA2⟩ : ∃ A, A = sd_I A1 2 6 0 := ⟨_, rfl⟩
  obtain ⟨A3, hA3⟩ : ∃ A, A = sd_I A2 2 7 0 := ⟨_, rfl⟩
  obtain ⟨A4, hA4⟩ : ∃ A, A = sd_I A3 2 11 0 := ⟨_, rfl⟩
  obtain ⟨A5, hA5⟩ : ∃ A, A = sd_I A4 2 14 0 := ⟨_, rfl⟩
  obtain ⟨A6, hA6⟩ : ∃ A, A = sd_I A5 2 15 0 := ⟨_, rfl⟩
  obtain ⟨A7, hA7⟩ : ∃ A, A = sd_I A6 1 4 0 := ⟨_, rfl⟩
  obtain ⟨A8, hA8⟩ : ∃ A, A = sd_I A7 1 5 0 := ⟨_, rfl⟩
  obtain ⟨A9, hA9⟩ : ∃ A, A = sd_I A8 13 2 0 := ⟨_, rfl⟩
  have h2 : ∀ j, A9.1 2 j = if j = 15 then 0 else if j = 14 then 0 else if j = 11 then 0 else if j = 7 then 0 else if j = 6 then 0 else if j = 0 then 0 else S.1 2 j := by
    intro j
    rw [hA9, rI_cell (by decide), hA8, rI_cell (by decide), hA7, rI_cell (by decide), hA6, rI, hA5, rI, hA4, rI, hA3, rI, hA2, rI, hA1, rI]
    simp
  have fr : FR S A9 := by
    have e : ∀ (B : sd_St) (a j : Nat) (v : Int32), 1 ≤ a ∧ a ≤ 16 → FR B (sd_I B a j v) := fun B a j v h => frm_I h
    rw [hA9, hA8, hA7, hA6, hA5, hA4, hA3, hA2, hA1]
    exact FR_trans (FR_trans (FR_trans (FR_trans (FR_trans (FR_trans (FR_trans (FR_trans (e _ _ _ _ (by omega)) (e _ _ _ _ (by omega))) (e _ _ _ _ (by omega))) (e _ _ _ _ (by omega))) (e _ _ _ _ (by omega))) (e _ _ _ _ (by omega))) (e _ _ _ _ (by omega))) (e _ _ _ _ (by omega))) (e _ _ _ _ (by omega))
  have h13 : A9.1 13 1 = S.1 13 1 := by
    rw [hA9, rI_oth (by decide), hA8, rI_cell (by decide), hA7, rI_cell (by decide), hA6, rI_cell (by decide), hA5, rI_cell (by decide), hA4, rI_cell (by decide), hA3, rI_cell (by decide), hA2, rI_cell (by decide), hA1, rI_cell (by decide)]
  have h14 : A9.1 14 = S.1 14 := by
    rw [hA9, rI_cell (by decide), hA8, rI_cell (by decide), hA7, rI_cell (by decide), hA6, rI_cell (by decide), hA5, rI_cell (by decide), hA4, rI_cell (by decide), hA3, rI_cell (by decide), hA2, rI_cell (by decide), hA1, rI_cell (by decide)]
  have h15 : A9.1 1 5 = 0 := by rw [hA9, rI_cell (by decide), hA8, rI_same]
  have h14b : A9.1 1 4 = 0 := by rw [hA9, rI_cell (by decide), hA8, rI_oth (by decide), hA7, rI_same]
  have hT9 : TPs A9 tp := TPs_fr hT h13 h14
  obtain ⟨B, b1, b2, b3⟩ := m_step (i := 0) (Nat.zero_le _) hT9 (by rw [hA9, rI_same]; rfl)
  have o : ∀ a, a ≠ 13 → B.1 a = A9.1 a := fun a ha => b2.1.1 a ha
  have htk := tks_ok (tp := tp) tp.length 0 (by omega)
  have hO : OKc B tp (TW0, [], false) (tks tp 0) := by
    refine ⟨TPs_T hT9 b2, by rw [o 1 (by decide)]; exact h15, b3, fun t ht => ⟨(htk.1 t ht).1, (htk.1 t ht).2.1⟩, ⟨?_, fun p hp => absurd hp (Nat.not_lt_zero p), ?_, fun p hp => absurd hp (Nat.not_lt_zero p), ?_, fun p hp => absurd hp (Nat.not_lt_zero p), ?_, ?_⟩, ⟨fun p hp => absurd hp (Nat.not_lt_zero p), ?_⟩, fun w v h => (by cases h), by rw [o 1 (by decide)]; exact h14b, PW_0⟩
    · rw [o 2 (by decide), h2]; rfl
    · rw [o 2 (by decide), h2]; rfl
    · rw [o 2 (by decide), h2]; rfl
    · rw [o 2 (by decide), h2]; rfl
    · rw [o 2 (by decide), h2]; rfl
    · rw [o 2 (by decide), h2]; rfl
  have h1000 := hT.2.1
  obtain ⟨S2, y1, y2, y3, y4, y5⟩ := m_rTape_l (tp := tp) 1000 sd_FU 0 B _ _ (by omega) (by unfold sd_FU; omega) (by omega) hO
  refine ⟨S2, ?_, y2, y3, y4, FR_trans fr (FR_trans (frT_FR b2) y5)⟩
  unfold f_X9_readTape f_X8_empty f_X7_rewind
  simp only [Nat.reduceAdd]
  rw [sd_nm_eq, ← hA1, sd_nm_eq, ← hA2, sd_nm_eq, ← hA3, sd_nm_eq, ← hA4, sd_nm_eq, ← hA5, sd_nm_eq, ← hA6, sd_cl_ok rfl, sd_nm_eq, ← hA7, sd_nm_eq, ← hA8, sd_nm_eq, ← hA9, sd_cl_ok b1, sd_cl_ok rfl]
  exact y1
