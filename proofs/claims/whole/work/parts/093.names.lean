/-! NAMES AND DATES, by the class -/
theorem lk_some {RN : NL} {w : List Nat} {v : Nat} (h : lk RN w = some v) : (w, v) ∈ RN := by
  unfold lk at h
  cases hf : RN.find? (fun x => x.1 == w) with
  | none => rw [hf] at h; cases h
  | some x =>
    rw [hf] at h
    have h1 := List.mem_of_find?_eq_some hf
    have h2 := List.find?_some hf
    have h3 : x.1 = w := by simpa using h2
    have h4 : x.2 = v := by simpa using h
    rw [← h3, ← h4]
    exact h1
theorem lk_none {RN : NL} {w : List Nat} (h : lk RN w = none) (v : Nat) : ¬ (w, v) ∈ RN := by
  unfold lk at h
  cases hf : RN.find? (fun x => x.1 == w) with
  | some x => rw [hf] at h; cases h
  | none =>
    intro hm
    have := List.find?_eq_none.mp hf (w, v) hm
    simp at this
theorem nl_uniq : ∀ {RN : NL}, RN.Pairwise (fun a b => a.1 ≠ b.1) → ∀ {w : List Nat} {u v : Nat}, (w, u) ∈ RN → (w, v) ∈ RN → u = v := by
  intro RN
  induction RN with
  | nil => intro _ w u v h; cases h
  | cons a RN ih =>
    intro hp w u v h1 h2
    obtain ⟨p1, p2⟩ := List.pairwise_cons.mp hp
    rcases List.mem_cons.mp h1 with e1 | e1
    · rcases List.mem_cons.mp h2 with e2 | e2
      · rw [← e1] at e2; cases e2; rfl
      · exfalso; exact p1 _ e2 (by rw [← e1])
    · rcases List.mem_cons.mp h2 with e2 | e2
      · exfalso; exact p1 _ e1 (by rw [← e2])
      · exact ih p2 e1 e2
theorem lk_of {RN : NL} (hp : RN.Pairwise (fun a b => a.1 ≠ b.1)) {w : List Nat} {v : Nat} (h : (w, v) ∈ RN) : lk RN w = some v := by
  cases hl : lk RN w with
  | none => exact absurd h (lk_none hl v)
  | some u => rw [nl_uniq hp (lk_some hl) h]
theorem m_plS {x : Int64} {S : sd_St} : ∀ (m n i : Nat), i + m = 14 → m < n → (∀ j, j < i → sd_no j ≠ x) → ∃ v, f_X9_placeOf_s_l3 n x (14 : Int32) (nI i) S = some (v, S) ∧ (v = -1 ↔ ∀ j, j < 14 → sd_no j ≠ x) := by
  intro m
  induction m with
  | zero =>
    intro n i hi hn hno
    obtain ⟨n, rfl⟩ : ∃ n', n = n' + 1 := ⟨n - 1, by omega⟩
    refine ⟨-1, ?_, ⟨fun _ j hj => hno j (by omega), fun _ => rfl⟩⟩
    unfold f_X9_placeOf_s_l3
    rw [if_pos (show (14 : Int32) ≤ nI i from nI_le (a := 14) (by omega) (by omega))]
  | succ m ih =>
    intro n i hi hn hno
    obtain ⟨n, rfl⟩ : ∃ n', n = n' + 1 := ⟨n - 1, by omega⟩
    unfold f_X9_placeOf_s_l3
    rw [if_neg (show ¬ (14 : Int32) ≤ nI i from nI_ge (b := 14) (by omega) (by decide)), if_neg (show ¬ (14 : Int32) ≤ nI i from nI_ge (b := 14) (by omega) (by decide)), sd_ld0_ok (by omega)]
    by_cases c : sd_no i = x
    · rw [if_pos ((cm0 _ _).mpr c)]
      exact ⟨nI i, rfl, ⟨fun z => absurd z (nI_neg1 (by omega)), fun z => absurd c (z i (by omega))⟩⟩
    · rw [if_neg (fun z => c ((cm0 _ _).mp z)), nI_1]
      exact ih n (i + 1) (by omega) (by omega) (fun j hj => by
        by_cases cj : j = i
        · rw [cj]; exact c
        · exact hno j (by omega))
theorem kws_any (w : List Nat) : kws.any (fun u => u == w) = true ↔ ∃ i, i < 14 ∧ kw i = w := by
  have hl : kws.length = 14 := by decide
  rw [List.any_eq_true]
  constructor
  · rintro ⟨u, hu, h⟩
    obtain ⟨i, hi, e⟩ := List.getElem_of_mem hu
    refine ⟨i, by omega, ?_⟩
    have h : u = w := by simpa using h
    unfold kw
    rw [List.getD_eq_getElem?_getD, List.getElem?_eq_getElem hi, e, h]
    rfl
  · rintro ⟨i, hi, h⟩
    refine ⟨w, ?_, by simp⟩
    rw [← h]
    unfold kw
    rw [List.getD_eq_getElem?_getD, List.getElem?_eq_getElem (by omega)]
    exact List.getElem_mem _
theorem okW_of {t : TK} (h : okT t) (h1 : t.1 = 1) : okW t.2.2 := by
  unfold okT at h
  rcases h with o | o | o | o
  · exact o.2
  · omega
  · omega
  · omega
theorem m_isAtName {S : sd_St} {tp : List Nat} {P : Pst} {tl : List TK} (h : OKc S tp P tl) : f_X9_isAtName 1 S = some (bI (isNm tl), S) := by
  unfold f_X9_isAtName
  simp only [Nat.reduceAdd]
  cases tl with
  | nil =>
    rw [cur_0 h.2.2.1, if_neg (by decide)]
    rfl
  | cons t tl =>
    obtain ⟨k1, k2, -⟩ := cur_k h.2.2.1
    obtain ⟨o1, o2⟩ := h.2.2.2.1 t List.mem_cons_self
    have hk := okT_lt o1
    rw [k1, show isNm (t :: tl) = (t.1 == 1 && !(kws.any (fun w => w == t.2.2))) from rfl]
    by_cases c : t.1 = 1
    · have hw := okW_of o1 c
      rw [if_pos (by rw [c]; rfl), k2 c, c]
      obtain ⟨v, e1, e2⟩ := m_plS (x := wC t.2.2) (S := S) 14 sd_FU 0 (by omega) (by unfold sd_FU; omega) (fun j hj => absurd hj (Nat.not_lt_zero j))
      rw [sd_cl_ok (show f_X9_placeOf_s (wC t.2.2) (14 : Int32) S = _ from e1)]
      by_cases c2 : kws.any (fun w => w == t.2.2) = true
      · obtain ⟨i, hi, e⟩ := (kws_any t.2.2).mp c2
        rw [if_neg (fun z => e2.mp z i hi (by rw [kw_C i hi, e])), c2]
        rfl
      · have c3 : kws.any (fun w => w == t.2.2) = false := Bool.eq_false_iff.mpr c2
        rw [if_pos (e2.mpr (fun i hi z => by
          rw [kw_C i hi] at z
          exact c2 ((kws_any t.2.2).mpr ⟨i, hi, (wC_inj (kw_ok i hi) hw).mp z⟩))), c3]
        rfl
    · rw [if_neg (show ¬ nI t.1 = (1 : Int32) from fun z => c (nI_inj (b := 1) (by omega) (by decide) z))]
      have : (t.1 == 1) = false := by simpa using c
      rw [this]
      rfl
theorem m_isAtName_F (S : sd_St) : ∃ b, f_X9_isAtName 1 S = some (b, S) := by
  unfold f_X9_isAtName
  simp only [Nat.reduceAdd]
  by_cases c : S.1 13 3 = 1
  · rw [if_pos c]
    obtain ⟨v, e1, e2⟩ := m_plS (x := S.2 13 5) (S := S) 14 sd_FU 0 (by omega) (by unfold sd_FU; omega) (fun j hj => absurd hj (Nat.not_lt_zero j))
    rw [sd_cl_ok (show f_X9_placeOf_s (S.2 13 5) (14 : Int32) S = _ from e1)]
    by_cases c2 : v = -1
    · rw [if_pos c2]; exact ⟨_, rfl⟩
    · rw [if_neg c2]; exact ⟨_, rfl⟩
  · rw [if_neg c]; exact ⟨_, rfl⟩
theorem m_pl {k N : Nat} (hN : N ≤ sd_al k) {x : Int64} {S : sd_St} (h16 : sd_al k ≤ 16) : ∀ (m n i : Nat), i + m = N → m < n → (∀ j, j < i → S.2 k j ≠ x) → ∃ v, f_X9_placeOf_l3 k n x (nI N) (nI i) S = some (v, S) ∧ ((v = -1 ∧ ∀ j, j < N → S.2 k j ≠ x) ∨ ∃ j, j < N ∧ v = nI j ∧ S.2 k j = x) := by
  intro m
  induction m with
  | zero =>
    intro n i hi hn hno
    obtain ⟨n, rfl⟩ : ∃ n', n = n' + 1 := ⟨n - 1, by omega⟩
    refine ⟨-1, ?_, Or.inl ⟨rfl, fun j hj => hno j (by omega)⟩⟩
    unfold f_X9_placeOf_l3
    rw [if_pos (nI_le (by omega) (by omega))]
  | succ m ih =>
    intro n i hi hn hno
    obtain ⟨n, rfl⟩ : ∃ n', n = n' + 1 := ⟨n - 1, by omega⟩
    unfold f_X9_placeOf_l3
    rw [if_neg (nI_ge (by omega) (by omega)), if_neg (show ¬ Int32.ofNat (sd_al k) ≤ nI i from nI_ge (show i < sd_al k by omega) (by omega)), sd_ldl_ok (by omega) (sd_al_lt _)]
    by_cases c : S.2 k i = x
    · rw [if_pos ((cm0 _ _).mpr c)]
      exact ⟨nI i, rfl, Or.inr ⟨i, by omega, rfl, c⟩⟩
    · rw [if_neg (fun z => c ((cm0 _ _).mp z)), nI_1]
      exact ih n (i + 1) (by omega) (by omega) (fun j hj => by
        by_cases cj : j = i
        · rw [cj]; exact c
        · exact hno j (by omega))
theorem al15 : sd_al 15 = 12 := by decide
theorem al16 : sd_al 16 = 4 := by decide
theorem m_pl15 {n : Nat} (hn : n ≤ 12) (x : Int64) (S : sd_St) : ∃ v, f_X9_placeOf 15 x (nI n) S = some (v, S) ∧ ((v = -1 ∧ ∀ j, j < n → S.2 15 j ≠ x) ∨ ∃ j, j < n ∧ v = nI j ∧ S.2 15 j = x) := by
  unfold f_X9_placeOf
  exact m_pl (by rw [al15]; omega) (by rw [al15]; omega) n sd_FU 0 (by omega) (by unfold sd_FU; omega) (fun j hj => absurd hj (Nat.not_lt_zero j))
theorem m_pl16 {n : Nat} (hn : n ≤ 4) (x : Int64) (S : sd_St) : ∃ v, f_X9_placeOf 16 x (nI n) S = some (v, S) ∧ ((v = -1 ∧ ∀ j, j < n → S.2 16 j ≠ x) ∨ ∃ j, j < n ∧ v = nI j ∧ S.2 16 j = x) := by
  unfold f_X9_placeOf
  exact m_pl (by rw [al16]; omega) (by rw [al16]; omega) n sd_FU 0 (by omega) (by unfold sd_FU; omega) (fun j hj => absurd hj (Nat.not_lt_zero j))
/-- persons' and secrets' names as the class holds them -/
theorem pn_at {S : sd_St} {tp : List Nat} {P : Pst} {tl : List TK} (h : OKc S tp P tl) {p : Nat} (hp : p < tn P.1) {w : List Nat} (hw : okW w) : S.2 15 p = wC w ↔ (w, p) ∈ P.2.1 := by
  obtain ⟨-, -, -, -, -, -, a7, -, w1, -, n1, -⟩ := h
  have h12 := w1.1
  constructor
  · intro e
    obtain ⟨u, hu⟩ := n1.2.2.1 p hp
    rw [(a7 u p hu).1 (by omega)] at e
    rw [← (wC_inj (n1.1 u p hu).1 hw).mp e]
    exact hu
  · intro e
    exact (a7 w p e).1 (by omega)
theorem sn_at {S : sd_St} {tp : List Nat} {P : Pst} {tl : List TK} (h : OKc S tp P tl) {s : Nat} (hs : s < ts P.1) {w : List Nat} (hw : okW w) : S.2 16 s = wC w ↔ (w, 12 + s) ∈ P.2.1 := by
  obtain ⟨-, -, -, -, -, -, a7, -, w1, -, n1, -⟩ := h
  constructor
  · intro e
    obtain ⟨u, hu⟩ := n1.2.2.2.1 s hs
    have := (a7 u (12 + s) hu).2 (by omega)
    rw [show 12 + s - 12 = s by omega] at this
    rw [this] at e
    rw [← (wC_inj (n1.1 u _ hu).1 hw).mp e]
    exact hu
  · intro e
    have := (a7 w (12 + s) e).2 (by omega)
    rw [show 12 + s - 12 = s by omega] at this
    exact this
theorem isNm_cons {tl : List TK} (h : isNm tl = true) : ∃ t r, tl = t :: r ∧ t.1 = 1 := by
  cases tl with
  | nil => cases h
  | cons t r =>
    refine ⟨t, r, rfl, ?_⟩
    have h : (t.1 == 1 && !(kws.any (fun w => w == t.2.2))) = true := h
    rw [Bool.and_eq_true] at h
    simpa using h.1
theorem m_findP {S : sd_St} {tp : List Nat} {P : Pst} {x : Except Nat (List TK)} (h : ST S tp P x) : ∃ v S2, f_X9_findPerson 1 S = some (v, S2) ∧ ST S2 tp P (x.bind (fun tl => (sP tp.length P.2.1 tl).map (fun _ => tl))) ∧ FR S S2 ∧ ∀ tl p, x = .ok tl → sP tp.length P.2.1 tl = .ok p → v = nI p := by
  have hFL : ∀ (S : sd_St) (e : Nat) (w : Int32), FL S tp e → ∃ v, f_X9_findPerson_b13 1 w S = some (v, S) := by
    intro S e w h
    obtain ⟨n, hn1, hn2⟩ := h.2.2.1
    obtain ⟨v, e1, -⟩ := m_pl15 hn2 (S.2 13 5) S
    refine ⟨v, ?_⟩
    unfold f_X9_findPerson_b13 f_X9_findPerson_b50
    simp only [Nat.reduceAdd]
    rw [m_fail_FL h, sd_cl_ok rfl, hn1, sd_cl_ok e1, m_fail_FL h, m_fail_FL h, sd_cl_ok rfl]
    simp
  cases x with
  | error e =>
    have h : FL S tp e := h
    obtain ⟨b, hb⟩ := m_isAtName_F S
    unfold f_X9_findPerson
    rw [sd_cl_ok hb]
    by_cases c : b = 0
    · rw [if_pos c]
      obtain ⟨v, e1⟩ := hFL S e 1 h
      exact ⟨v, S, e1, h, FR_rfl, fun tl p z => by cases z⟩
    · rw [if_neg c]
      obtain ⟨v, e1⟩ := hFL S e 0 h
      exact ⟨v, S, e1, h, FR_rfl, fun tl p z => by cases z⟩
  | ok tl =>
    have h : OKc S tp P tl := h
    show ∃ v S2, _ ∧ ST S2 tp P ((sP tp.length P.2.1 tl).map (fun _ => tl)) ∧ _ ∧ _
    have h12 := h.2.2.2.2.2.2.2.2.1.1
    have hNW := h.2.2.2.2.2.2.2.2.2.2.1
    unfold f_X9_findPerson
    rw [sd_cl_ok (m_isAtName h)]
    have hval : ∀ (q : Except Nat Nat), sP tp.length P.2.1 tl = q → ∀ (v : Int32), (∀ p, q = .ok p → v = nI p) → ∀ tl' p, (Except.ok tl : Except Nat (List TK)) = .ok tl' → sP tp.length P.2.1 tl' = .ok p → v = nI p := by
      intro q hq v hv tl' p z1 z2
      cases z1
      rw [hq] at z2
      exact hv p z2
    cases c : isNm tl with
    | false =>
      rw [if_pos (by decide)]
      obtain ⟨S1, a1, a2, a3⟩ := m_fail_yes h (k := 1) (x := 1) (y := 1) (by decide) (by decide) (by decide) rfl
      have e : sP tp.length P.2.1 tl = .error (flt 1 tp.length tl) := by unfold sP; rw [c]; rfl
      obtain ⟨n, hn1, hn2⟩ := a2.2.2.1
      obtain ⟨v, e1, -⟩ := m_pl15 hn2 (S1.2 13 5) S1
      refine ⟨v, S1, ?_, by rw [e]; exact a2, a3, hval _ e v (fun p z => by cases z)⟩
      unfold f_X9_findPerson_b13 f_X9_findPerson_b50
      simp only [Nat.reduceAdd]
      rw [sd_cl_ok a1, hn1, sd_cl_ok e1, m_fail_FL a2, m_fail_FL a2, sd_cl_ok rfl]
      simp
    | true =>
      rw [if_neg (by decide)]
      obtain ⟨t, r, rfl, ht⟩ := isNm_cons c
      obtain ⟨k1, k2, -⟩ := cur_k h.2.2.1
      have hw := okW_of (h.2.2.2.1 t List.mem_cons_self).1 ht
      obtain ⟨v, e1, e2⟩ := m_pl15 h12 (wC t.2.2) S
      unfold f_X9_findPerson_b13 f_X9_findPerson_b50
      simp only [Nat.reduceAdd]
      rw [sd_cl_ok m_fail_no, k2 ht, h.2.2.2.2.1.1, sd_cl_ok e1]
      rcases e2 with ⟨e2, e3⟩ | ⟨j, j1, j2, j3⟩
      · rw [if_pos e2]
        have hno : ∀ p, p < 12 → ¬ lk P.2.1 t.2.2 = some p := by
          intro p hp hl
          have hm := lk_some hl
          rcases (hNW.1 _ _ hm).2 with q | q
          · exact e3 p q ((pn_at h q hw).mpr hm)
          · omega
        have e : sP tp.length P.2.1 (t :: r) = .error (flt 2 tp.length (t :: r)) := by
          unfold sP
          rw [c, if_pos rfl]
          show (match lk P.2.1 t.2.2 with
            | none => Except.error (flt 2 tp.length (t :: r))
            | some v => if v < 12 then Except.ok v else Except.error (flt 2 tp.length (t :: r))) = _
          cases hl : lk P.2.1 t.2.2 with
          | none => rfl
          | some p =>
            have : ¬ p < 12 := fun z => hno p z hl
            simp [this]
        obtain ⟨S1, a1, a2, a3⟩ := m_fail_yes h (k := 2) (x := 1) (y := 2) (by decide) (by decide) (by decide) rfl
        refine ⟨v, S1, ?_, by rw [e]; exact a2, a3, hval _ e v (fun p z => by cases z)⟩
        rw [sd_cl_ok a1]
      · rw [if_neg (by rw [j2]; exact nI_neg1 (by omega)), sd_cl_ok m_fail_no]
        have hm := (pn_at h j1 hw).mp j3
        have hl := lk_of hNW.2.1 hm
        have e : sP tp.length P.2.1 (t :: r) = .ok j := by
          unfold sP
          rw [c, if_pos rfl]
          show (match lk P.2.1 t.2.2 with
            | none => Except.error (flt 2 tp.length (t :: r))
            | some v => if v < 12 then Except.ok v else Except.error (flt 2 tp.length (t :: r))) = _
          rw [hl]
          simp
          omega
        refine ⟨v, S, rfl, by rw [e]; exact h, FR_rfl, hval _ e v (fun p z => by cases z; exact j2)⟩
theorem sP_cons {L : Nat} {RN : NL} {tl : List TK} {p : Nat} (h : sP L RN tl = .ok p) : ∃ t r, tl = t :: r := by
  unfold sP at h
  cases c : isNm tl with
  | false => rw [c] at h; cases h
  | true => obtain ⟨t, r, e, -⟩ := isNm_cons c; exact ⟨t, r, e⟩
theorem m_takeP {S : sd_St} {tp : List Nat} {P : Pst} {x : Except Nat (List TK)} (h : ST S tp P x) : ∃ v S2, f_X9_takePerson 1 S = some (v, S2) ∧ ST S2 tp P (x.bind (fun tl => (sP tp.length P.2.1 tl).map (fun _ => tl.tail))) ∧ FR S S2 ∧ ∀ tl p, x = .ok tl → sP tp.length P.2.1 tl = .ok p → v = nI p := by
  obtain ⟨v, S1, e1, e2, e3, e4⟩ := m_findP h
  unfold f_X9_takePerson
  simp only [Nat.reduceAdd]
  rw [sd_cl_ok e1]
  have hF : ∀ e, FL S1 tp e → ∃ S2, sd_cl (f_X7_step 13 S1) (fun _ S_3 => some (v, S_3)) = some (v, S2) ∧ FL S2 tp e ∧ FR S S2 := by
    intro e he
    obtain ⟨S2, y1, y2, y3⟩ := m_stepF he
    exact ⟨S2, by rw [sd_cl_ok y1], y2, FR_trans e3 y3⟩
  cases x with
  | error e =>
    obtain ⟨S2, y1, y2, y3⟩ := hF e e2
    exact ⟨v, S2, y1, y2, y3, e4⟩
  | ok tl =>
    have e2 : ST S1 tp P ((sP tp.length P.2.1 tl).map (fun _ => tl)) := e2
    show ∃ v' S2, _ ∧ ST S2 tp P ((sP tp.length P.2.1 tl).map (fun _ => tl.tail)) ∧ _ ∧ _
    cases hs : sP tp.length P.2.1 tl with
    | error e =>
      rw [hs] at e2
      obtain ⟨S2, y1, y2, y3⟩ := hF e e2
      exact ⟨v, S2, y1, y2, y3, e4⟩
    | ok p =>
      rw [hs] at e2
      have e2 : OKc S1 tp P tl := e2
      obtain ⟨t, r, rfl⟩ := sP_cons hs
      obtain ⟨S2, y1, y2, y3⟩ := m_stepO e2
      exact ⟨v, S2, by rw [sd_cl_ok y1], y2, FR_trans e3 y3, e4⟩
theorem m_takeNew {S : sd_St} {tp : List Nat} {P : Pst} {x : Except Nat (List TK)} (h : ST S tp P x) : ∃ v S2, f_X9_takeNewName 1 S = some (v, S2) ∧ ST S2 tp P (x.bind (fun tl => (sNew tp.length P.2.1 tl).map (fun y => y.2))) ∧ FR S S2 ∧ ∀ tl w tl2, x = .ok tl → sNew tp.length P.2.1 tl = .ok (w, tl2) → v = wC w := by
  have hF91 : ∀ (S : sd_St) (e : Nat) (y : Int64) (w : Int32), FL S tp e → ∃ S2, f_X9_takeNewName_b91 1 y w S = some (y, S2) ∧ FL S2 tp e ∧ FR S S2 := by
    intro S e y w h
    obtain ⟨S2, y1, y2, y3⟩ := m_stepF h
    refine ⟨S2, ?_, y2, y3⟩
    unfold f_X9_takeNewName_b91
    simp only [Nat.reduceAdd]
    rw [m_fail_FL h, sd_cl_ok rfl, sd_cl_ok y1]
  have hF74 : ∀ (S : sd_St) (e : Nat) (y : Int64) (u w : Int32), FL S tp e → ∃ S2, f_X9_takeNewName_b74 1 y u w S = some (y, S2) ∧ FL S2 tp e ∧ FR S S2 := by
    intro S e y u w h
    unfold f_X9_takeNewName_b74 f_X9_takeNewName_b86
    by_cases c1 : u = 0
    · rw [if_pos c1]
      by_cases c2 : w = 0
      · rw [if_pos c2]; exact hF91 S e y 0 h
      · rw [if_neg c2]; exact hF91 S e y 1 h
    · rw [if_neg c1]; exact hF91 S e y 1 h
  have hF49 : ∀ (S : sd_St) (e : Nat) (y : Int64) (u : Int32), FL S tp e → ∃ S2, f_X9_takeNewName_b49 1 y u S = some (y, S2) ∧ FL S2 tp e ∧ FR S S2 := by
    intro S e y u h
    obtain ⟨n, hn1, hn2⟩ := h.2.2.2.1
    obtain ⟨v, e1, -⟩ := m_pl16 hn2 y S
    unfold f_X9_takeNewName_b49
    simp only [Nat.reduceAdd]
    rw [hn1, sd_cl_ok e1]
    by_cases c : v = -1
    · rw [if_pos c]; exact hF74 S e y u 0 h
    · rw [if_neg c]; exact hF74 S e y u 1 h
  have hFx : ∀ (S : sd_St) (e : Nat), FL S tp e → ∃ v S2, sd_nm (S.2 13 5) (fun v_12 => sd_cl (f_X9_placeOf 15 v_12 (S.1 2 0) S) (fun r_14 S_13 => (if r_14 = (-1 : Int32) then f_X9_takeNewName_b49 1 v_12 (0 : Int32) S_13 else f_X9_takeNewName_b49 1 v_12 (1 : Int32) S_13))) = some (v, S2) ∧ FL S2 tp e ∧ FR S S2 := by
    intro S e h
    obtain ⟨n, hn1, hn2⟩ := h.2.2.1
    obtain ⟨v, e1, -⟩ := m_pl15 hn2 (S.2 13 5) S
    rw [sd_nm_eq, hn1, sd_cl_ok e1]
    by_cases c : v = -1
    · rw [if_pos c]
      obtain ⟨S2, y⟩ := hF49 S e _ 0 h
      exact ⟨_, S2, y⟩
    · rw [if_neg c]
      obtain ⟨S2, y⟩ := hF49 S e _ 1 h
      exact ⟨_, S2, y⟩
  cases x with
  | error e =>
    have h : FL S tp e := h
    obtain ⟨b, hb⟩ := m_isAtName_F S
    obtain ⟨v, S2, y1, y2, y3⟩ := hFx S e h
    refine ⟨v, S2, ?_, y2, y3, fun tl w tl2 z => by cases z⟩
    unfold f_X9_takeNewName f_X9_takeNewName_b13
    simp only [Nat.reduceAdd]
    rw [sd_cl_ok hb, m_fail_FL h, m_fail_FL h, sd_cl_ok rfl]
    rw [y1]
    simp
  | ok tl =>
    have h : OKc S tp P tl := h
    show ∃ v S2, _ ∧ ST S2 tp P ((sNew tp.length P.2.1 tl).map (fun y => y.2)) ∧ _ ∧ _
    have h12 := h.2.2.2.2.2.2.2.2.1.1
    have h4 := h.2.2.2.2.2.2.2.2.1.2.2.2.2.1
    have hNW := h.2.2.2.2.2.2.2.2.2.2.1
    have hval : ∀ (q : Except Nat (List Nat × List TK)), sNew tp.length P.2.1 tl = q → ∀ (v : Int64), (∀ w tl2, q = .ok (w, tl2) → v = wC w) → ∀ tl' w tl2, (Except.ok tl : Except Nat (List TK)) = .ok tl' → sNew tp.length P.2.1 tl' = .ok (w, tl2) → v = wC w := by
      intro q hq v hv tl' w tl2 z1 z2
      cases z1
      rw [hq] at z2
      exact hv w tl2 z2
    unfold f_X9_takeNewName f_X9_takeNewName_b13
    simp only [Nat.reduceAdd]
    rw [sd_cl_ok (m_isAtName h)]
    cases c : isNm tl with
    | false =>
      obtain ⟨S1, a1, a2, a3⟩ := m_fail_yes h (k := 1) (x := 1) (y := 1) (by decide) (by decide) (by decide) rfl
      have e : sNew tp.length P.2.1 tl = .error (flt 1 tp.length tl) := by unfold sNew; rw [c]; rfl
      obtain ⟨v, S2, y1, y2, y3⟩ := hFx S1 _ a2
      refine ⟨v, S2, ?_, by rw [e]; exact y2, FR_trans a3 y3, hval _ e v (fun p tl2 z => by cases z)⟩
      rw [if_pos (by decide), sd_cl_ok a1]
      exact y1
    | true =>
      obtain ⟨t, r, rfl, ht⟩ := isNm_cons c
      obtain ⟨k1, k2, -⟩ := cur_k h.2.2.1
      have hw := okW_of (h.2.2.2.1 t List.mem_cons_self).1 ht
      obtain ⟨v, e1, e2⟩ := m_pl15 h12 (wC t.2.2) S
      obtain ⟨u, g1, g2⟩ := m_pl16 h4 (wC t.2.2) S
      rw [if_neg (by decide), sd_cl_ok m_fail_no, k2 ht, sd_nm_eq, h.2.2.2.2.1.1, sd_cl_ok e1]
      have hbad : (∃ v, lk P.2.1 t.2.2 = some v) → ∃ S2, f_X9_takeNewName_b91 1 (wC t.2.2) (1 : Int32) S = some (wC t.2.2, S2) ∧ ST S2 tp P ((sNew tp.length P.2.1 (t :: r)).map (fun y => y.2)) ∧ FR S S2 ∧ ∀ tl w tl2, (Except.ok (t :: r) : Except Nat (List TK)) = .ok tl → sNew tp.length P.2.1 tl = .ok (w, tl2) → wC t.2.2 = wC w := by
        rintro ⟨v, hl⟩
        have e : sNew tp.length P.2.1 (t :: r) = .error (flt 3 tp.length (t :: r)) := by
          unfold sNew
          rw [c, if_pos rfl, show hdw (t :: r) = t.2.2 from rfl, hl]
          rfl
        obtain ⟨S1, a1, a2, a3⟩ := m_fail_yes h (k := 3) (x := 1) (y := 3) (by decide) (by decide) (by decide) rfl
        obtain ⟨S2, y1, y2, y3⟩ := m_stepF a2
        refine ⟨S2, ?_, by rw [e]; exact y2, FR_trans a3 y3, hval _ e _ (fun p tl2 z => by cases z)⟩
        unfold f_X9_takeNewName_b91
        simp only [Nat.reduceAdd]
        rw [sd_cl_ok a1, sd_cl_ok y1]
      unfold f_X9_takeNewName_b49
      simp only [Nat.reduceAdd]
      rw [h.2.2.2.2.1.2.2.2.2.1, sd_cl_ok g1]
      unfold f_X9_takeNewName_b74 f_X9_takeNewName_b86
      rcases e2 with ⟨e2, e3⟩ | ⟨j, j1, j2, j3⟩
      · rw [if_pos e2, if_pos rfl]
        rcases g2 with ⟨g2, g3⟩ | ⟨s, s1, s2, s3⟩
        · rw [if_pos g2, if_pos rfl]
          have hl : lk P.2.1 t.2.2 = none := by
            cases hl : lk P.2.1 t.2.2 with
            | none => rfl
            | some v =>
              exfalso
              have hm := lk_some hl
              rcases (hNW.1 _ _ hm).2 with q | ⟨q, q2⟩
              · exact e3 v q ((pn_at h q hw).mpr hm)
              · exact g3 (v - 12) (by omega) ((sn_at h (by omega) hw).mpr (by rw [show 12 + (v - 12) = v by omega]; exact hm))
          have e : sNew tp.length P.2.1 (t :: r) = .ok (t.2.2, r) := by
            unfold sNew
            rw [c, if_pos rfl, show hdw (t :: r) = t.2.2 from rfl, hl]
            rfl
          obtain ⟨S2, y1, y2, y3⟩ := m_stepO h
          refine ⟨wC t.2.2, S2, ?_, by rw [e]; exact y2, y3, hval _ e _ (fun p tl2 z => by cases z; rfl)⟩
          unfold f_X9_takeNewName_b91
          simp only [Nat.reduceAdd]
          rw [sd_cl_ok m_fail_no, sd_cl_ok y1]
        · rw [if_neg (show ¬ u = -1 by rw [s2]; exact nI_neg1 (by omega)), if_neg (show ¬ (1 : Int32) = 0 by decide)]
          obtain ⟨S2, y⟩ := hbad ⟨12 + s, lk_of hNW.2.1 ((sn_at h s1 hw).mp s3)⟩
          exact ⟨_, S2, y⟩
      · rw [if_neg (by rw [j2]; exact nI_neg1 (by omega))]
        obtain ⟨S2, y⟩ := hbad ⟨j, lk_of hNW.2.1 ((pn_at h j1 hw).mp j3)⟩
        refine ⟨_, S2, ?_, y.2⟩
        rw [sd_cl_ok g1, if_neg (show ¬ (1 : Int32) = 0 by decide), if_neg (show ¬ (1 : Int32) = 0 by decide), y.1]
        simp
theorem m_takeD {S : sd_St} {tp : List Nat} {P : Pst} {x : Except Nat (List TK)} (h : ST S tp P x) {v0 : Int32} {least : Nat} (hl : least < 4392) (hv0 : ∀ tl, x = .ok tl → v0 = nI least) : ∃ v S2, f_X9_takeDate 1 v0 S = some (v, S2) ∧ ST S2 tp P ((x.bind (sD tp.length least)).map (fun y => y.2)) ∧ FR S S2 ∧ ∀ a tl2, x.bind (sD tp.length least) = .ok (a, tl2) → v = nI a := by
  obtain ⟨r, S1, e1, e2, e3, e4⟩ := m_takeN h (m := 11) (by decide)
  have hb40 : ∀ (S1 : sd_St) (u w : Int32) (e : Nat), FL S1 tp e → ∃ v S2, f_X9_takeDate_b40 1 u w S1 = some (v, S2) ∧ FL S2 tp e ∧ FR S1 S2 := by
    intro S1 u w e he
    obtain ⟨v, S2, y1, y2, y3, -⟩ := m_takeN (P := P) (x := .error e) he (m := 365) (by decide)
    refine ⟨u + v, S2, ?_, y2, y3⟩
    unfold f_X9_takeDate_b40
    rw [m_fail_FL he, sd_cl_ok rfl, sd_cl_ok (show f_X9_takeNumber 1 (365 : Int32) S1 = _ from y1)]
  have hFx : ∀ (e : Nat), FL S1 tp e → ∃ v S2, f_X9_takeDate 1 v0 S = some (v, S2) ∧ FL S2 tp e ∧ FR S S2 := by
    intro e he
    unfold f_X9_takeDate f_X9_takeDate_b39
    simp only [Nat.reduceAdd]
    rw [sd_cl_ok (show f_X9_takeNumber 1 (11 : Int32) S = _ from e1), sd_nm_eq]
    by_cases c1 : S1.1 13 3 = (2 : Int32)
    · rw [if_pos c1]
      by_cases c2 : v0 ≤ r * (366 : Int32) + S1.1 13 6
      · rw [if_pos c2]
        obtain ⟨v, S2, y1, y2, y3⟩ := hb40 S1 (r * 366) 0 e he
        exact ⟨v, S2, y1, y2, FR_trans e3 y3⟩
      · rw [if_neg c2]
        obtain ⟨v, S2, y1, y2, y3⟩ := hb40 S1 (r * 366) 1 e he
        exact ⟨v, S2, y1, y2, FR_trans e3 y3⟩
    · rw [if_neg c1]
      obtain ⟨v, S2, y1, y2, y3⟩ := hb40 S1 (r * 366) 0 e he
      exact ⟨v, S2, y1, y2, FR_trans e3 y3⟩
  cases x with
  | error e =>
    obtain ⟨v, S2, y1, y2, y3⟩ := hFx e e2
    exact ⟨v, S2, y1, y2, y3, fun a tl2 z => by cases z⟩
  | ok tl =>
    have hv0 := hv0 tl rfl
    have e2 : ST S1 tp P ((sN tp.length 11 tl).map (fun y => y.2)) := e2
    have e4 : ∀ a tl2, sN tp.length 11 tl = .ok (a, tl2) → r = nI a := e4
    show ∃ v S2, _ ∧ ST S2 tp P (((sN tp.length 11 tl).bind (fun x => sD2 tp.length least x.1 x.2)).map (fun y => y.2)) ∧ _ ∧ ∀ a tl2, (sN tp.length 11 tl).bind (fun x => sD2 tp.length least x.1 x.2) = .ok (a, tl2) → v = nI a
    cases hs : sN tp.length 11 tl with
    | error e =>
      rw [hs] at e2
      obtain ⟨v, S2, y1, y2, y3⟩ := hFx e e2
      exact ⟨v, S2, y1, y2, y3, fun a tl2 z => by cases z⟩
    | ok z =>
      obtain ⟨y, t1⟩ := z
      rw [hs] at e2
      have e2 : OKc S1 tp P t1 := e2
      have hr := e4 y t1 hs
      have hy : y ≤ 11 := by
        unfold sN at hs
        by_cases c1 : isN tl = true
        · rw [if_pos c1] at hs
          by_cases c2 : hdn tl ≤ 11
          · rw [if_pos c2] at hs; cases hs; exact c2
          · rw [if_neg c2] at hs; cases hs
        · rw [if_neg c1] at hs; cases hs
      show ∃ v S2, _ ∧ ST S2 tp P ((sD2 tp.length least y t1).map (fun y => y.2)) ∧ _ ∧ ∀ a tl2, sD2 tp.length least y t1 = .ok (a, tl2) → v = nI a
      unfold f_X9_takeDate f_X9_takeDate_b39
      simp only [Nat.reduceAdd]
      rw [sd_cl_ok (show f_X9_takeNumber 1 (11 : Int32) S = _ from e1), sd_nm_eq, hr, show (366 : Int32) = nI 366 from rfl, nI_mul]
      have hgood : (isN t1 && decide (366 * y + hdn t1 < least)) = false → ∃ v S2, f_X9_takeDate_b40 1 (nI (y * 366)) (0 : Int32) S1 = some (v, S2) ∧ ST S2 tp P ((sD2 tp.length least y t1).map (fun y => y.2)) ∧ FR S S2 ∧ ∀ a tl2, sD2 tp.length least y t1 = .ok (a, tl2) → v = nI a := by
        intro hc
        obtain ⟨v, S2, q1, q2, q3, q4⟩ := m_takeN (P := P) (x := .ok t1) e2 (m := 365) (by decide)
        have q2 : ST S2 tp P ((sN tp.length 365 t1).map (fun y => y.2)) := q2
        have q4 : ∀ a tl2, sN tp.length 365 t1 = .ok (a, tl2) → v = nI a := q4
        refine ⟨nI (y * 366) + v, S2, ?_, ?_, FR_trans e3 q3, ?_⟩
        · unfold f_X9_takeDate_b40
          rw [sd_cl_ok m_fail_no, sd_cl_ok (show f_X9_takeNumber 1 (365 : Int32) S1 = _ from q1)]
        · unfold sD2
          rw [hc, if_neg (by decide)]
          cases hs2 : sN tp.length 365 t1 with
          | error e => rw [hs2] at q2; exact q2
          | ok z => rw [hs2] at q2; exact q2
        · intro a tl2 hz
          unfold sD2 at hz
          rw [hc, if_neg (by decide)] at hz
          cases hs2 : sN tp.length 365 t1 with
          | error e => rw [hs2] at hz; cases hz
          | ok z =>
            obtain ⟨d, t2⟩ := z
            rw [hs2] at hz
            have hz : (Except.ok (366 * y + d, t2) : Except Nat (Nat × List TK)) = .ok (a, tl2) := hz
            have hq := q4 d t2 hs2
            cases hz
            rw [hq, nI_add]
            congr 1
            omega
      cases c : isN t1 with
      | true =>
        obtain ⟨t, q, rfl, ht⟩ := isN_cons c
        obtain ⟨k1, -, k3⟩ := cur_k e2.2.2.1
        obtain ⟨o1, -⟩ := e2.2.2.2.1 t List.mem_cons_self
        have hn : nm t.2.2 < 10000 := by
          unfold okT at o1
          rcases o1 with o | o | o | o
          · omega
          · exact o.2
          · omega
          · omega
        have hh : hdn (t :: q) = nm t.2.2 := rfl
        rw [k1, if_pos (by rw [ht]; rfl), k3 ht, nI_add, hv0]
        by_cases c2 : least ≤ y * 366 + nm t.2.2
        · rw [if_pos (nI_le c2 (by omega))]
          exact hgood (by rw [c, hh]; simp; omega)
        · rw [if_neg (nI_ge (by omega) (by omega))]
          have hc : (isN (t :: q) && decide (366 * y + hdn (t :: q) < least)) = true := by rw [c, hh]; simp; omega
          have e : sD2 tp.length least y (t :: q) = .error (flt 4 tp.length (t :: q)) := by
            unfold sD2
            rw [hc, if_pos rfl]
          obtain ⟨S3, a1, a2, a3⟩ := m_fail_yes e2 (k := 4) (x := 1) (y := 4) (by decide) (by decide) (by decide) rfl
          obtain ⟨v, S2, y1, y2, y3, -⟩ := m_takeN (P := P) (x := .error _) a2 (m := 365) (by decide)
          refine ⟨nI (y * 366) + v, S2, ?_, by rw [e]; exact y2, FR_trans e3 (FR_trans a3 y3), fun a tl2 z => by rw [e] at z; cases z⟩
          unfold f_X9_takeDate_b40
          rw [sd_cl_ok a1, sd_cl_ok (show f_X9_takeNumber 1 (365 : Int32) S3 = _ from y1)]
      | false =>
        have hk : ¬ S1.1 13 3 = (2 : Int32) := by
          cases t1 with
          | nil => rw [cur_0 e2.2.2.1]; decide
          | cons t r =>
            obtain ⟨k1, -, -⟩ := cur_k e2.2.2.1
            have hl := okT_lt (e2.2.2.2.1 t List.mem_cons_self).1
            have : ¬ t.1 = 2 := by simpa [isN] using c
            rw [k1]
            exact fun z => this (nI_inj (b := 2) (by omega) (by decide) z)
        rw [if_neg hk]
        exact hgood (by rw [c]; rfl)
