/-! THE READERS OF THE CLASS: calls, away, secrets -/
theorem m_bitCount {b : Nat} (hb : b < 4096) (S : sd_St) : f_J6_bitCount_0f7a4 (nI b) S = some (nI (pcB b), S) := by
  have h : ∀ (i j : Fin 64), (f_J6_bitCount_0f7a4 (nI (64 * i.val + j.val)) (fun _ _ => 0, fun _ _ => 0)).map (fun x => x.1) = some (nI (pcB (64 * i.val + j.val))) := by decide +kernel
  have h := h ⟨b / 64, by omega⟩ ⟨b % 64, by omega⟩
  dsimp only at h
  rw [show 64 * (b / 64) + b % 64 = b by omega] at h
  have e : ∀ (x : Int32) (S S2 : sd_St), (f_J6_bitCount_0f7a4 x S2).map (fun y => y.1) = (f_J6_bitCount_0f7a4 x S).map (fun y => y.1) ∧ ∃ v, f_J6_bitCount_0f7a4 x S = some (v, S) := fun x S S2 => ⟨rfl, _, rfl⟩
  obtain ⟨e1, v, e2⟩ := e (nI b) S (fun _ _ => 0, fun _ _ => 0)
  rw [e1, e2] at h
  rw [e2]
  have : v = nI (pcB b) := by simpa using h
  rw [this]
def oneH (L p : Nat) (P : Pst) (tl : List TK) : Except Nat (Pst × List TK) := (sP L P.2.1 tl).bind (fun h => if h = p ∨ (tc P.1 h).testBit p = true then .error (flt 3 L tl) else if 6 ≤ pcB (tc P.1 h) then .error (flt 5 L tl) else .ok ((addC P.1 p h, P.2.1, P.2.2), tl.tail))
theorem rHost_s (L n p : Nat) (P : Pst) (tl : List TK) : rHost L (n + 1) p P tl = (oneH L p P tl).bind (fun x => if isS x.2 then .ok x else rHost L n p x.1 x.2) := by
  show (sP L P.2.1 tl).bind _ = _
  unfold oneH
  cases sP L P.2.1 tl with
  | error e => rfl
  | ok h =>
    show (if h = p ∨ (tc P.1 h).testBit p = true then _ else _) = Except.bind (if h = p ∨ (tc P.1 h).testBit p = true then _ else _) _
    by_cases c : h = p ∨ (tc P.1 h).testBit p = true
    · rw [if_pos c, if_pos c]; rfl
    · rw [if_neg c, if_neg c]
      by_cases c2 : 6 ≤ pcB (tc P.1 h)
      · rw [if_pos c2, if_pos c2]; rfl
      · rw [if_neg c2, if_neg c2]; rfl
theorem sP_mem {L : Nat} {RN : NL} {tl : List TK} {p : Nat} (h : sP L RN tl = .ok p) : p < 12 ∧ ∃ w, (w, p) ∈ RN := by
  unfold sP at h
  by_cases c1 : isNm tl = true
  · rw [if_pos c1] at h
    cases hl : lk RN (hdw tl) with
    | none => rw [hl] at h; cases h
    | some v =>
      rw [hl] at h
      have h : (if v < 12 then Except.ok v else Except.error (flt 2 L tl)) = (Except.ok p : Except Nat Nat) := h
      by_cases c2 : v < 12
      · rw [if_pos c2] at h; cases h; exact ⟨c2, _, lk_some hl⟩
      · rw [if_neg c2] at h; cases h
  · rw [if_neg c1] at h; cases h
theorem sP_lt {L : Nat} {P : Pst} (hW : PW P) {tl : List TK} {p : Nat} (h : sP L P.2.1 tl = .ok p) : p < tn P.1 := by
  obtain ⟨h1, w, h2⟩ := sP_mem h
  have := (hW.2.2.1.1 w p h2).2
  omega
theorem m_rOne {S : sd_St} {tp : List Nat} {P : Pst} {tl : List TK} (h : OKc S tp P tl) {p : Nat} (hp : p < tn P.1) : ∃ S2, f_X9_readHost 1 (nI p) S = some ((), S2) ∧ SC S2 tp (oneH tp.length p P tl) ∧ FR S S2 := by
  have h12 := h.2.2.2.2.2.2.2.2.1.1
  obtain ⟨v, S1, e1, e2, e3, e4⟩ := m_findP (P := P) (x := .ok tl) h
  have e2 : ST S1 tp P ((sP tp.length P.2.1 tl).map (fun _ => tl)) := e2
  have e4 : ∀ tl' q, (Except.ok tl : Except Nat (List TK)) = .ok tl' → sP tp.length P.2.1 tl' = .ok q → v = nI q := e4
  unfold f_X9_readHost oneH
  rw [sd_cl_ok e1]
  cases hs : sP tp.length P.2.1 tl with
  | error e =>
    rw [hs] at e2
    have e2 : FL S1 tp e := e2
    refine ⟨S1, ?_, e2, e3⟩
    rw [e2.2.2.2.2.2.2.1, if_neg (nI_ne0 e2.2.2.2.2.2.2.2.1 (by have := e2.2.2.2.2.2.2.2.2; omega))]
  | ok q =>
    rw [hs] at e2
    have e2 : OKc S1 tp P tl := e2
    have hv := e4 tl q rfl hs
    subst hv
    have hW := e2.2.2.2.2.2.2.2.2
    have hq := sP_lt hW hs
    obtain ⟨t, r, rfl⟩ := sP_cons hs
    have hT := e2.2.2.2.2.1
    have hc := (hT.2.1 q hq).2.2.2
    have hcl := (hW.1.2.1 q hq).2.2.2.1
    have hcl2 : tc P.1 q < 4096 := Nat.lt_of_lt_of_le hcl (p2_le h12)
    have hho := e2.2.2.2.2.2.1.1 p hp q
    rw [show decide (q < tn P.1) = true from decide_eq_true hq, Bool.true_and] at hho
    have hbad : (q = p ∨ (tc P.1 q).testBit p = true) → ∃ S2, f_X9_readHost_b35 1 (nI p) (nI q) S1 = some ((), S2) ∧ FL S2 tp (flt 3 tp.length (t :: r)) ∧ FR S S2 := by
      intro _
      obtain ⟨S2, a1, a2, a3⟩ := m_fail_yes e2 (k := 3) (x := 1) (y := 3) (by decide) (by decide) (by decide) rfl
      obtain ⟨w, hw⟩ : ∃ w, f_J6_bitCount_0f7a4 (S2.1 6 q) S2 = some (w, S2) := ⟨_, rfl⟩
      refine ⟨S2, ?_, a2, FR_trans e3 a3⟩
      unfold f_X9_readHost_b35 f_X9_readHost_b40 f_X9_readHost_b67
      simp only [Nat.reduceAdd]
      rw [sd_cl_ok a1, sd_ld_ok (show q < sd_al 6 by rw [show sd_al 6 = 12 from by decide]; omega) (sd_al_lt _), sd_cl_ok hw, m_fail_FL a2, m_fail_FL a2, sd_cl_ok rfl, a2.2.2.2.2.2.2.1, if_neg (nI_ne0 a2.2.2.2.2.2.2.2.1 (by have := a2.2.2.2.2.2.2.2.2; omega))]
      simp
    show ∃ S2, _ ∧ SC S2 tp (if q = p ∨ (tc P.1 q).testBit p = true then _ else _) ∧ _
    rw [e2.2.1, if_pos rfl]
    by_cases c1 : q = p
    · rw [if_pos (by rw [c1]), if_pos (Or.inl c1)]
      exact hbad (Or.inl c1)
    · simp only [Nat.reduceAdd]
      rw [if_neg (fun z => c1 (nI_inj (by omega) (by omega) z)), sd_ld_ok (show p < sd_al 7 by rw [show sd_al 7 = 12 from by decide]; omega) (sd_al_lt _), sd_cl_ok (m_has _ (by omega) S1), hho]
      by_cases c2 : (tc P.1 q).testBit p = true
      · rw [c2]
        rw [if_neg (by decide), if_pos (Or.inr rfl)]
        exact hbad (Or.inr c2)
      · have c2' : (tc P.1 q).testBit p = false := by simpa using c2
        rw [c2']
        rw [if_pos (by decide), if_neg (fun z => z.elim c1 (fun y => by cases y))]
        unfold f_X9_readHost_b40 f_X9_readHost_b67
        simp only [Nat.reduceAdd]
        have hc : S1.1 6 q = nI (tc P.1 q) := hc
        rw [sd_cl_ok m_fail_no, sd_ld_ok (show q < sd_al 6 by rw [show sd_al 6 = 12 from by decide]; omega) (sd_al_lt _), hc, sd_cl_ok (m_bitCount hcl2 S1)]
        have hpc : pcB (tc P.1 q) ≤ 12 := by
          unfold pcB
          have := List.length_filter_le (fun p => (tc P.1 q).testBit p) (List.range 12)
          rw [List.length_range] at this
          exact this
        by_cases c3 : 6 ≤ pcB (tc P.1 q)
        · rw [if_neg (show ¬ nI (pcB (tc P.1 q)) < (6 : Int32) from nI_nlt (b := 6) c3 (by omega)), if_pos c3]
          obtain ⟨S2, a1, a2, a3⟩ := m_fail_yes e2 (k := 5) (x := 1) (y := 5) (by decide) (by decide) (by decide) rfl
          refine ⟨S2, ?_, a2, FR_trans e3 a3⟩
          rw [sd_cl_ok a1, a2.2.2.2.2.2.2.1, if_neg (nI_ne0 a2.2.2.2.2.2.2.2.1 (by have := a2.2.2.2.2.2.2.2.2; omega))]
        · rw [if_pos (show nI (pcB (tc P.1 q)) < (6 : Int32) from nI_lt (b := 6) (by omega) (by decide)), if_neg c3, sd_cl_ok m_fail_no, e2.2.1, if_pos rfl]
          obtain ⟨S2, a1, a2, a3, a4, a5⟩ := m_addCall (k := 2) (by decide) (S := S1) (c := p) (h := q) (by omega) (by omega)
          have hO2 : OKc S2 tp (addC P.1 p q, P.2.1, P.2.2) (t :: r) := by
            obtain ⟨x1, x2, x3, x4, x5, x6, x7, x8, x9⟩ := e2
            have o : ∀ a, a ≠ 2 → a ≠ 6 → a ≠ 7 → S2.1 a = S1.1 a := fun a h1 h2 h3 => a5.1 a (by omega)
            have oL : S2.2 = S1.2 ∨ True := Or.inr trivial
            refine ⟨TPs_fr x1 (by rw [o 13 (by decide) (by decide) (by decide)]) (o 14 (by decide) (by decide) (by decide)), by rw [o 1 (by decide) (by decide) (by decide)]; exact x2, ?_, x4, ?_, ?_, ?_, by rw [o 1 (by decide) (by decide) (by decide)]; exact x8, PW_addC x9 hp hq c1 c2' (by omega)⟩
            · unfold CUR at x3 ⊢
              rw [o 13 (by decide) (by decide) (by decide), a5.2 13 (by omega)]; exact x3
            · refine CT_4 x5 (fun i hi => ?_) (fun z hz => ?_) (fun j hj => by rw [a4, if_neg hj]) (fun a g1 g2 g3 g4 => a5.1 a (by omega))
              · funext j
                show (if i = 4 ∧ j = q then _ else P.1 i j) = _
                rw [if_neg (fun z => hi z.1)]
              · rw [a2 z, addC_c]
                by_cases cz : z = q
                · rw [if_pos cz, if_pos cz]
                  have : S1.1 (2 + 4) q = nI (tc P.1 q) := hc
                  rw [this, nI_or]
                · rw [if_neg cz, if_neg cz]
                  exact (x5.2.1 z hz).2.2.2
            · refine ⟨fun z hz y => ?_, ?_⟩
              · have hz : z < tn P.1 := hz
                show hb (S2.1 7 z) y = (decide (y < tn P.1) && (tc (addC P.1 p q) y).testBit z)
                have a3 := a3 z
                rw [show (2 + 5) = 7 from rfl] at a3
                rw [a3, addC_c]
                by_cases cz : z = p
                · rw [if_pos cz, hb_or, x6.1 p hp y]
                  by_cases cy : y = q
                  · rw [if_pos cy, cy, Nat.testBit_or, Nat.testBit_two_pow, hb_nI (by omega), Nat.testBit_two_pow, cz]
                    simp [hq]
                  · rw [if_neg cy, cz]
                    have : hb (nI (2 ^ q)) y = false := by
                      by_cases c32 : y < 32
                      · rw [hb_nI c32, Nat.testBit_two_pow]
                        simp
                        omega
                      · exact hb_ge _ (by omega)
                    rw [this, Bool.or_false]
                · rw [if_neg cz, x6.1 z hz y]
                  by_cases cy : y = q
                  · rw [if_pos cy, cy, Nat.testBit_or, Nat.testBit_two_pow]
                    have : (decide (p = z)) = false := by simp; omega
                    rw [this, Bool.or_false]
                  · rw [if_neg cy]
              · rw [a4, if_pos rfl]
                show S1.1 2 6 + 1 = nI (pcs (addC P.1 p q))
                rw [x6.2, nI_1, pcs_addC x9.1 hp hq c2']
            · rw [a5.2 15 (by omega), a5.2 16 (by omega)]; exact x7
          obtain ⟨S3, b1, b2, b3⟩ := m_stepO hO2
          refine ⟨S3, ?_, b2, FR_trans e3 (FR_trans (frm_mono a5 (fun a h => by omega)) b3)⟩
          rw [sd_cl_ok a1, sd_cl_ok b1]
def cH (T : TW) (p : Nat) : Nat := (List.range (tn T)).countP (fun q => (tc T q).testBit p)
theorem cH_lt {T : TW} (hw : wfT T) {p : Nat} (hp : p < tn T) : cH T p < 12 := by
  have h12 := hw.1
  have := cnt_lt (P := fun q => (tc T q).testBit p) (Q := fun _ => true) (List.range (tn T)) (fun _ _ _ => rfl) ⟨p, List.mem_range.mpr hp, (hw.2.1 p hp).2.2.2.2, rfl⟩
  have h2 := List.countP_le_length (p := fun _ => true) (l := List.range (tn T))
  rw [List.length_range] at h2
  unfold cH
  omega
theorem cH_add {T : TW} {p h : Nat} (hh : h < tn T) (hb : (tc T h).testBit p = false) : cH T p < cH (addC T p h) p := by
  unfold cH
  rw [show tn (addC T p h) = tn T from rfl]
  refine cnt_lt _ (fun x _ hx => ?_) ⟨h, List.mem_range.mpr hh, hb, ?_⟩
  · rw [addC_c]
    by_cases c : x = h
    · rw [if_pos c, Nat.testBit_or, Nat.testBit_two_pow]; simp
    · rw [if_neg c]; exact hx
  · rw [addC_c, if_pos rfl, Nat.testBit_or, Nat.testBit_two_pow]; simp
theorem oneH_ok {L p : Nat} {P P2 : Pst} {tl tl2 : List TK} (hW : PW P) (h : oneH L p P tl = .ok (P2, tl2)) : ∃ q, q < tn P.1 ∧ (tc P.1 q).testBit p = false ∧ P2 = (addC P.1 p q, P.2.1, P.2.2) ∧ tl2 = tl.tail ∧ q ≠ p := by
  unfold oneH at h
  cases hs : sP L P.2.1 tl with
  | error e => rw [hs] at h; cases h
  | ok q =>
    rw [hs] at h
    have h : (if q = p ∨ (tc P.1 q).testBit p = true then .error (flt 3 L tl) else if 6 ≤ pcB (tc P.1 q) then .error (flt 5 L tl) else .ok ((addC P.1 p q, P.2.1, P.2.2), tl.tail)) = (Except.ok (P2, tl2) : Except Nat (Pst × List TK)) := h
    by_cases c : q = p ∨ (tc P.1 q).testBit p = true
    · rw [if_pos c] at h; cases h
    · rw [if_neg c] at h
      by_cases c2 : 6 ≤ pcB (tc P.1 q)
      · rw [if_pos c2] at h; cases h
      · rw [if_neg c2] at h
        cases h
        refine ⟨q, sP_lt hW hs, ?_, rfl, rfl, fun z => c (Or.inl z)⟩
        cases hb : (tc P.1 q).testBit p with
        | false => rfl
        | true => exact absurd (Or.inr hb) c
theorem cur_S {S : sd_St} {tp : List Nat} {P : Pst} {tl : List TK} (h : OKc S tp P tl) : S.1 13 3 = (3 : Int32) ↔ isS tl = true := by
  cases tl with
  | nil => rw [cur_0 h.2.2.1]; constructor <;> intro z <;> cases z
  | cons t r =>
    obtain ⟨k1, -, -⟩ := cur_k h.2.2.1
    have hl := okT_lt (h.2.2.2.1 t List.mem_cons_self).1
    rw [k1, show isS (t :: r) = (t.1 == 3) from rfl]
    constructor
    · intro z
      have : t.1 = 3 := nI_inj (b := 3) (by omega) (by decide) z
      rw [this]; rfl
    · intro z
      have : t.1 = 3 := by simpa using z
      rw [this]; rfl
theorem m_rHosts {tp : List Nat} {p : Nat} : ∀ (k n i : Nat) (S : sd_St) (P : Pst) (tl : List TK), i + k = 12 → k < n → OKc S tp P tl → p < tn P.1 → i ≤ cH P.1 p → ∃ S2, f_X9_readCalls_l23 1 n (nI p) (1 : Int32) (nI i) S = some ((), S2) ∧ SC S2 tp (rHost tp.length k p P tl) ∧ FR S S2 := by
  intro k
  induction k with
  | zero =>
    intro n i S P tl hi hn h hp hc
    exfalso
    have := cH_lt h.2.2.2.2.2.2.2.2.1 hp
    omega
  | succ k ih =>
    intro n i S P tl hi hn h hp hc
    obtain ⟨n, rfl⟩ : ∃ n', n = n' + 1 := ⟨n - 1, by omega⟩
    obtain ⟨S1, e1, e2, e3⟩ := m_rOne h hp
    rw [rHost_s]
    have hend : ∀ (S : sd_St) (w : Int32) (n : Nat), 0 < n → ((∃ e, FL S tp e) ∨ ((∃ P tl, OKc S tp P tl) ∧ w = 0)) → f_X9_readCalls_b61 (f_X9_readCalls_l23 1 n) 1 (nI p) (nI i) w S = some ((), S) := by
      intro S w n h0 hF
      obtain ⟨n, rfl⟩ : ∃ n', n = n' + 1 := ⟨n - 1, by omega⟩
      unfold f_X9_readCalls_b61 f_X9_readCalls_l23
      rw [nI_1]
      by_cases c : i + 1 = 12
      · rw [if_pos (show (12 : Int32) ≤ nI (i + 1) from nI_le (a := 12) (by omega) (by omega))]
      · rw [if_neg (show ¬ (12 : Int32) ≤ nI (i + 1) from nI_ge (b := 12) (by omega) (by decide))]
        rcases hF with ⟨e, hF⟩ | ⟨⟨P, tl, hO⟩, hw⟩
        · rw [hF.2.2.2.2.2.2.1, if_neg (nI_ne0 hF.2.2.2.2.2.2.2.1 (by have := hF.2.2.2.2.2.2.2.2; omega))]
        · rw [hO.2.1, if_pos rfl, if_pos hw]
    unfold f_X9_readCalls_l23
    simp only [Nat.reduceAdd]
    rw [if_neg (show ¬ (12 : Int32) ≤ nI i from nI_ge (b := 12) (by omega) (by decide)), h.2.1, if_pos rfl, if_neg (by decide), sd_cl_ok e1]
    cases hs : oneH tp.length p P tl with
    | error e =>
      rw [hs] at e2
      have e2 : FL S1 tp e := e2
      refine ⟨S1, ?_, e2, e3⟩
      rw [hend S1 0 n (by omega) (Or.inl ⟨e, e2⟩), hend S1 1 n (by omega) (Or.inl ⟨e, e2⟩)]
      simp
    | ok z =>
      obtain ⟨P2, tl2⟩ := z
      rw [hs] at e2
      have e2 : OKc S1 tp P2 tl2 := e2
      show ∃ S2, _ ∧ SC S2 tp (if isS tl2 then .ok (P2, tl2) else rHost tp.length k p P2 tl2) ∧ _
      by_cases c : isS tl2 = true
      · rw [if_pos ((cur_S e2).mpr c), if_pos c]
        exact ⟨S1, hend S1 0 n (by omega) (Or.inr ⟨⟨P2, tl2, e2⟩, rfl⟩), e2, e3⟩
      · rw [if_neg (fun z => c ((cur_S e2).mp z)), if_neg c]
        obtain ⟨q, q1, q2, q3, -, -⟩ := oneH_ok h.2.2.2.2.2.2.2.2 hs
        have hc2 : i + 1 ≤ cH P2.1 p := by
          rw [q3]
          have := cH_add (p := p) q1 q2
          show i + 1 ≤ cH (addC P.1 p q) p
          omega
        have hp2 : p < tn P2.1 := by rw [q3]; exact hp
        obtain ⟨S2, y1, y2, y3⟩ := ih n (i + 1) S1 P2 tl2 (by omega) (by omega) e2 hp2 hc2
        refine ⟨S2, ?_, y2, FR_trans e3 y3⟩
        unfold f_X9_readCalls_b61
        rw [nI_1]
        exact y1
theorem m_rCalls {S : sd_St} {tp : List Nat} {P : Pst} {t : TK} {r : List TK} (h : OKc S tp P (t :: r)) : ∃ S2, f_X9_readCalls 1 S = some ((), S2) ∧ SC S2 tp (rCalls tp.length P (t :: r)) ∧ FR S S2 := by
  have e6 : sd_no 6 = (28526 : Int64) := by decide
  obtain ⟨S1, a1, a2, a3⟩ := m_stepO h
  obtain ⟨v, S2, b1, b2, b3, b4⟩ := m_takeP (P := P) (x := .ok r) a2
  obtain ⟨S3, c1, c2, c3⟩ := m_takeW b2 (i := 6) (by decide)
  have fr3 : FR S S3 := FR_trans a3 (FR_trans b3 c3)
  have b4 : ∀ tl p, (Except.ok r : Except Nat (List TK)) = .ok tl → sP tp.length P.2.1 tl = .ok p → v = nI p := b4
  have c2 : ST S3 tp P (((sP tp.length P.2.1 r).map (fun _ => r.tail)).bind (sW tp.length 6)) := c2
  have pre : ∀ R, f_X9_readCalls_l23 1 sd_FU v (1 : Int32) (0 : Int32) S3 = R → f_X9_readCalls 1 S = R := by
    intro R hR
    unfold f_X9_readCalls
    simp only [Nat.reduceAdd]
    rw [sd_cl_ok a1, sd_cl_ok b1, ← e6, sd_cl_ok c1]
    exact hR
  have hfail : ∀ e, FL S3 tp e → f_X9_readCalls_l23 1 sd_FU v (1 : Int32) (0 : Int32) S3 = some ((), S3) := by
    intro e hF
    show f_X9_readCalls_l23 1 (19999 + 1) _ _ _ _ = _
    unfold f_X9_readCalls_l23
    rw [if_neg (by decide), hF.2.2.2.2.2.2.1, if_neg (nI_ne0 hF.2.2.2.2.2.2.2.1 (by have := hF.2.2.2.2.2.2.2.2; omega))]
  show ∃ S2, _ ∧ SC S2 tp ((sP tp.length P.2.1 r).bind (fun p => (sW tp.length 6 r.tail).bind (fun x => rHost tp.length 12 p P x))) ∧ _
  cases hs : sP tp.length P.2.1 r with
  | error e =>
    rw [hs] at c2
    exact ⟨S3, pre _ (hfail e c2), c2, fr3⟩
  | ok p =>
    rw [hs] at c2
    have c2 : ST S3 tp P (sW tp.length 6 r.tail) := c2
    have hv := b4 r p rfl hs
    show ∃ S2, _ ∧ SC S2 tp ((sW tp.length 6 r.tail).bind (fun x => rHost tp.length 12 p P x)) ∧ _
    cases hs2 : sW tp.length 6 r.tail with
    | error e =>
      rw [hs2] at c2
      exact ⟨S3, pre _ (hfail e c2), c2, fr3⟩
    | ok x =>
      rw [hs2] at c2
      have c2 : OKc S3 tp P x := c2
      have hp := sP_lt c2.2.2.2.2.2.2.2.2 hs
      obtain ⟨S4, y1, y2, y3⟩ := m_rHosts (tp := tp) (p := p) 12 sd_FU 0 S3 P x (by omega) (by unfold sd_FU; omega) c2 hp (Nat.zero_le _)
      rw [hv] at pre
      exact ⟨S4, pre _ y1, y2, FR_trans fr3 y3⟩
