/-! THE REFERENCE'S DAYS -/
def DL (S : sd_St) (D : List Nat) : Prop := S.1 130 16 = nI D.length ∧ ∀ i d, D[i]? = some d → S.1 139 i = nI d
theorem n_adds_l2 {S : sd_St} {D : List Nat} (hD : DL S D) (hmx : ∀ d ∈ D, d < 366) (hl : D.length < 24) {x : Nat} (hx : x < 366) : ∀ (m n k : Nat), k + m = D.length → m < n → ∃ k2, k ≤ k2 ∧ k2 ≤ D.length ∧ f_X12_adds_l2 n (nI x) (nI k) S = f_X12_adds_b26 (nI x) (nI k2) S ∧ (∀ i d, D[i]? = some d → k ≤ i → i < k2 → d < x) ∧ ∀ d, D[k2]? = some d → x ≤ d := by
  intro m
  induction m with
  | zero =>
    intro n k hk hn
    obtain ⟨n, rfl⟩ : ∃ n', n = n' + 1 := ⟨n - 1, by omega⟩
    unfold f_X12_adds_l2
    rw [hD.1, if_pos (nI_le (by omega) (by omega))]
    refine ⟨k, Nat.le_refl _, by omega, rfl, fun i d _ h1 h2 => absurd h2 (by omega), fun d hd => ?_⟩
    have := (List.getElem?_eq_some_iff.mp hd).1
    omega
  | succ m ih =>
    intro n k hk hn
    obtain ⟨n, rfl⟩ : ∃ n', n = n' + 1 := ⟨n - 1, by omega⟩
    have hlt : k < D.length := by omega
    have hz : D[k]? = some D[k] := List.getElem?_eq_getElem hlt
    have hm := hmx _ (List.getElem_mem hlt)
    unfold f_X12_adds_l2
    rw [hD.1, if_neg (nI_ge hlt (by omega)), sd_ld_ok (by rw [al139]; omega) (sd_al_lt _), hD.2 k _ hz]
    by_cases c : x ≤ D[k]
    · rw [if_pos (nI_le c (by omega))]
      refine ⟨k, Nat.le_refl _, by omega, rfl, fun i d _ h1 h2 => absurd h2 (by omega), fun d hd => ?_⟩
      rw [hz] at hd
      cases hd
      exact c
    · rw [if_neg (nI_ge (by omega) (by omega)), nI_1]
      obtain ⟨k2, g1, g2, g3, g4, g5⟩ := ih n (k + 1) (by omega) (by omega)
      refine ⟨k2, by omega, g2, g3, fun i d hi h1 h2 => ?_, g5⟩
      by_cases ci : i = k
      · subst ci
        rw [hz] at hi
        cases hi
        omega
      · exact g4 i d hi (by omega) h2
theorem n_adds_l49 {x k : Nat} : ∀ (m n i : Nat) (S : sd_St), i = k + m → i < 24 → m < n → ∃ S2, f_X12_adds_l49 n (nI x) (nI k) (nI i) S = some ((), S2) ∧ (∀ j, j < k → S2.1 139 j = S.1 139 j) ∧ S2.1 139 k = nI x ∧ (∀ j, k < j → j ≤ i → S2.1 139 j = S.1 139 (j - 1)) ∧ (∀ j, i < j → S2.1 139 j = S.1 139 j) ∧ S2.1 130 16 = S.1 130 16 + 1 ∧ frm (fun a => a = 130 ∨ a = 139) S S2 ∧ ∀ j, j ≠ 16 → S2.1 130 j = S.1 130 j := by
  intro m
  induction m with
  | zero =>
    intro n i S hi hl hn
    obtain ⟨n, rfl⟩ : ∃ n', n = n' + 1 := ⟨n - 1, by omega⟩
    unfold f_X12_adds_l49
    rw [if_pos (nI_le (by omega) (by omega)), sd_st_ok (by rw [al139]; omega) (sd_al_lt _), sd_nm_eq]
    refine ⟨_, rfl, fun j hj => ?_, ?_, fun j h1 h2 => absurd h2 (by omega), fun j hj => ?_, ?_, ?_, fun j hj => ?_⟩
    · rw [rI_cell (by decide), rI_oth (by omega)]
    · rw [rI_cell (by decide), rI_same]
    · rw [rI_cell (by decide), rI_oth (by omega)]
    · rw [rI_same, rI_cell (by decide)]
    · exact frm_trans (frm_I (c := fun a => a = 130 ∨ a = 139) (Or.inr rfl)) (frm_I (c := fun a => a = 130 ∨ a = 139) (Or.inl rfl)) (fun _ h => h) (fun _ h => h)
    · rw [rI_oth hj, rI_cell (by decide)]
  | succ m ih =>
    intro n i S hi hl hn
    obtain ⟨n, rfl⟩ : ∃ n', n = n' + 1 := ⟨n - 1, by omega⟩
    unfold f_X12_adds_l49
    rw [if_neg (nI_ge (by omega) (by omega)), nI_s1 (by omega), sd_ld_ok (by rw [al139]; omega) (sd_al_lt _), sd_st_ok (by rw [al139]; omega) (sd_al_lt _), nI_m1 (by omega)]
    obtain ⟨S2, g1, g2, g3, g4, g8, g5, g6, g7⟩ := ih n (i - 1) (sd_I S 139 i (S.1 139 (i - 1))) (by omega) (by omega) (by omega)
    refine ⟨S2, g1, fun j hj => ?_, g3, fun j h1 h2 => ?_, fun j hj => ?_, ?_, ?_, fun j hj => ?_⟩
    · rw [g2 j hj, rI_oth (by omega)]
    · by_cases c : j = i
      · subst c
        rw [g8 j (by omega), rI_same]
      · rw [g4 j h1 (by omega), rI_oth (by omega)]
    · rw [g8 j (by omega), rI_oth (by omega)]
    · rw [g5, rI_cell (by decide)]
    · exact frm_trans (frm_I (c := fun a => a = 130 ∨ a = 139) (Or.inr rfl)) g6 (fun _ h => h) (fun _ h => h)
    · rw [g7 j hj, rI_cell (by decide)]
theorem n_adds {S : sd_St} {D : List Nat} (hD : DL S D) (hs : D.Pairwise (· < ·)) (hmx : ∀ d ∈ D, d < 366) (hl : D.length < 24) {x : Nat} (hx : x < 366) : ∃ S2 D2, f_X12_adds (nI x) S = some ((), S2) ∧ DL S2 D2 ∧ D2.Pairwise (· < ·) ∧ (∀ d, d ∈ D2 ↔ d ∈ D ∨ d = x) ∧ D2.length ≤ D.length + 1 ∧ frm (fun a => a = 130 ∨ a = 139) S S2 ∧ ∀ j, j ≠ 16 → S2.1 130 j = S.1 130 j := by
  unfold f_X12_adds
  obtain ⟨k, -, g2, g3, g4, g5⟩ := n_adds_l2 hD hmx hl hx D.length sd_FU 0 (by omega) (by unfold sd_FU; omega)
  rw [show (0 : Int32) = nI 0 from rfl, g3]
  have hup : ∀ i d, D[i]? = some d → k ≤ i → x ≤ d := by
    intro i d hi hk
    have hil := (List.getElem?_eq_some_iff.mp hi).1
    have hkl : k < D.length := by omega
    have h1 := g5 _ (List.getElem?_eq_getElem hkl)
    by_cases c : i = k
    · subst c
      exact g5 d hi
    · have h5 := List.pairwise_iff_getElem.mp hs k i hkl hil (by omega)
      rw [(List.getElem?_eq_some_iff.mp hi).2] at h5
      omega
  by_cases hin : x ∈ D
  · refine ⟨S, D, ?_, hD, hs, fun d => ⟨Or.inl, fun h => h.elim id (fun z => z ▸ hin)⟩, by omega, frm_rfl, fun _ _ => rfl⟩
    obtain ⟨i, hi⟩ := List.getElem?_of_mem hin
    have hil := (List.getElem?_eq_some_iff.mp hi).1
    have hki : k ≤ i := Nat.not_lt.mp fun z => absurd (g4 i x hi (Nat.zero_le _) z) (Nat.lt_irrefl _)
    have hkx : D[k]? = some x := by
      by_cases c : i = k
      · rw [← c]; exact hi
      · have hkl : k < D.length := by omega
        have h5 := List.pairwise_iff_getElem.mp hs k i hkl hil (by omega)
        rw [(List.getElem?_eq_some_iff.mp hi).2] at h5
        have := g5 _ (List.getElem?_eq_getElem hkl)
        omega
    unfold f_X12_adds_b26
    rw [hD.1, if_neg (fun z => by have := nI_inj (by omega) (by omega) z; omega), sd_ld_ok (by rw [al139]; omega) (sd_al_lt _), hD.2 k x hkx, if_pos rfl]
  · have hb : f_X12_adds_b26 (nI x) (nI k) S = f_X12_adds_b44 (nI x) (nI k) S := by
      unfold f_X12_adds_b26
      rw [hD.1]
      by_cases c : k = D.length
      · rw [if_pos (by rw [c])]
      · have hkl : k < D.length := by omega
        have hz : D[k]? = some D[k] := List.getElem?_eq_getElem hkl
        rw [if_neg (fun z => c (nI_inj (by omega) (by omega) z)), sd_ld_ok (by rw [al139]; omega) (sd_al_lt _), hD.2 k _ hz, if_neg (fun z => hin (by
          have := nI_inj (by have := hmx _ (List.getElem_mem hkl); omega) (by omega) z
          rw [← this]
          exact List.getElem_mem hkl))]
    rw [hb]
    unfold f_X12_adds_b44
    rw [sd_nm_eq, hD.1]
    obtain ⟨S2, e1, e2, e3, e4, e5, e6, e7, e8⟩ := n_adds_l49 (x := x) (k := k) (D.length - k) sd_FU D.length S (by omega) hl (by unfold sd_FU; omega)
    refine ⟨S2, D.take k ++ x :: D.drop k, e1, ⟨?_, ?_⟩, pw_ins hs (fun i y hi ha => g4 i y hi (Nat.zero_le _) ha) (fun i y hi ha => Nat.lt_of_le_of_ne (hup i y hi ha) (fun z => hin (z ▸ List.mem_of_getElem? hi))), fun d => ?_, ?_, e7, e8⟩
    · rw [e6, hD.1, nI_1]
      congr 1
      simp only [List.length_append, List.length_take, List.length_cons, List.length_drop]
      omega
    · intro i d hi
      by_cases c1 : i < k
      · rw [List.getElem?_append_left (by rw [List.length_take]; omega), List.getElem?_take_of_lt c1] at hi
        rw [e2 i c1]
        exact hD.2 i d hi
      · rw [List.getElem?_append_right (by rw [List.length_take]; omega), List.length_take, Nat.min_eq_left g2] at hi
        by_cases c2 : i = k
        · subst c2
          rw [Nat.sub_self] at hi
          cases hi
          exact e3
        · obtain ⟨j, hj⟩ : ∃ j, i - k = j + 1 := ⟨i - k - 1, by omega⟩
          rw [hj, List.getElem?_cons_succ, List.getElem?_drop] at hi
          have hil := (List.getElem?_eq_some_iff.mp hi).1
          rw [e4 i (by omega) (by omega), show i - 1 = k + j by omega]
          exact hD.2 _ d hi
    · rw [List.mem_append, List.mem_cons]
      constructor
      · rintro (h | h | h)
        · exact Or.inl (List.mem_of_mem_take h)
        · exact Or.inr h
        · exact Or.inl (List.mem_of_mem_drop h)
      · rintro (h | h)
        · rw [← List.take_append_drop k D, List.mem_append] at h
          rcases h with h | h
          · exact Or.inl h
          · exact Or.inr (Or.inr h)
        · exact Or.inr (Or.inl h)
    · simp only [List.length_append, List.length_take, List.length_cons, List.length_drop]
      omega
def dyP (T : TW) (p d : Nat) : Prop := ∃ q, q < p ∧ d < 366 ∧ feastB T q d = true
theorem n_findDays_l {T : TW} (hw : wfT T) (hfull : fullT T) : ∀ (m n p : Nat) (S : sd_St) (D : List Nat), p + m = tn T → m < n → RTg (S.1 136) T → DL S D → D.Pairwise (· < ·) → (∀ d, d ∈ D ↔ dyP T p d) → D.length ≤ 2 * p →
    ∃ S2 D2, f_X12_findDays_l7 n (nI p) S = some ((), S2) ∧ DL S2 D2 ∧ D2.Pairwise (· < ·) ∧ (∀ d, d ∈ D2 ↔ dyP T (tn T) d) ∧ D2.length ≤ 24 ∧ frm (fun a => a = 130 ∨ a = 139) S S2 ∧ ∀ j, j ≠ 16 → S2.1 130 j = S.1 130 j := by
  have h12 := hw.1
  intro m
  induction m with
  | zero =>
    intro n p S D hp hn hT hD hs hm hl
    obtain ⟨n, rfl⟩ : ∃ n', n = n' + 1 := ⟨n - 1, by omega⟩
    unfold f_X12_findDays_l7
    rw [sd_cl_ok (n_people hT), if_pos (nI_le (by omega) (by omega))]
    exact ⟨S, D, rfl, hD, hs, by rw [← show p = tn T by omega]; exact hm, by omega, frm_rfl, fun _ _ => rfl⟩
  | succ m ih =>
    intro n p S D hp hn hT hD hs hm hl
    obtain ⟨n, rfl⟩ : ∃ n', n = n' + 1 := ⟨n - 1, by omega⟩
    have hpn : p < tn T := by omega
    have hf := hfull p hpn
    obtain ⟨b1, b2, -⟩ := hw.2.1 p hpn
    have hmx : ∀ d ∈ D, d < 366 := fun d hd => by
      obtain ⟨_, _, h, _⟩ := (hm d).mp hd
      exact h
    unfold f_X12_findDays_l7
    rw [sd_cl_ok (n_people hT), if_neg (nI_ge hpn (by omega)), sd_cl_ok (n_bornOf hT hw hpn), nI_s1 hf]
    obtain ⟨S1, D1, e1, e2, e3, e4, e5, e6, e7⟩ := n_adds hD hs hmx (by omega) (x := tb T p - 1) (by omega)
    have hT1 : RTg (S1.1 136) T := by rw [e6.1 136 (by omega)]; exact hT
    rw [sd_cl_ok e1, show sd_ld S1 136 (1 : Int32) = sd_ld (β := Unit × sd_St) S1 136 (nI 1) from rfl, ldT (by decide), hT1.2.1]
    have hone : ∀ d, (d ∈ D1) ↔ (dyP T p d ∨ d = tb T p - 1) := fun d => by rw [e4 d, hm d]
    have hmx1 : ∀ d ∈ D1, d < 366 := fun d hd => by
      rcases (hone d).mp hd with ⟨_, _, h, _⟩ | h
      · exact h
      · omega
    unfold f_X12_findDays_b67
    simp only [nI_1]
    have hnext : ∀ (S3 : sd_St) (D3 : List Nat), RTg (S3.1 136) T → DL S3 D3 → D3.Pairwise (· < ·) → (∀ d, d ∈ D3 ↔ dyP T (p + 1) d) → D3.length ≤ D.length + 2 → frm (fun a => a = 130 ∨ a = 139) S S3 → (∀ j, j ≠ 16 → S3.1 130 j = S.1 130 j) → ∃ S2 D2, f_X12_findDays_l7 n (nI (p + 1)) S3 = some ((), S2) ∧ DL S2 D2 ∧ D2.Pairwise (· < ·) ∧ (∀ d, d ∈ D2 ↔ dyP T (tn T) d) ∧ D2.length ≤ 24 ∧ frm (fun a => a = 130 ∨ a = 139) S S2 ∧ ∀ j, j ≠ 16 → S2.1 130 j = S.1 130 j := by
      intro S3 D3 q1 q2 q3 q4 q5 q6 q7
      obtain ⟨S2, D2, k1, k2, k3, k4, k5, k6, k7⟩ := ih n (p + 1) S3 D3 (by omega) (by omega) q1 q2 q3 q4 (by omega)
      exact ⟨S2, D2, k1, k2, k3, k4, k5, frm_trans q6 k6 (fun _ h => h) (fun _ h => h), fun j hj => (k7 j hj).trans (q7 j hj)⟩
    have hdy : ∀ d, dyP T (p + 1) d ↔ dyP T p d ∨ (d < 366 ∧ feastB T p d = true) := by
      intro d
      unfold dyP
      constructor
      · rintro ⟨q, h1, h2, h3⟩
        by_cases c : q = p
        · subst c; exact Or.inr ⟨h2, h3⟩
        · exact Or.inl ⟨q, by omega, h2, h3⟩
      · rintro (⟨q, h1, h2, h3⟩ | ⟨h2, h3⟩)
        · exact ⟨q, by omega, h2, h3⟩
        · exact ⟨p, by omega, h2, h3⟩
    by_cases c : tz T = 1
    · rw [c, if_pos (by decide), ix4, nI_1, ldT (by omega), (hT1.2.2.2.1 p hpn).2.1]
      by_cases c2 : tm T p = 0
      · rw [if_pos (by rw [c2]; decide)]
        refine hnext S1 D1 hT1 e2 e3 (fun d => ?_) (by omega) e6 e7
        rw [hone d, hdy d, feast_iff]
        constructor
        · rintro (h | h)
          · exact Or.inl h
          · exact Or.inr ⟨by omega, Or.inl (by omega)⟩
        · rintro (h | ⟨h, h2 | h2⟩)
          · exact Or.inl h
          · exact Or.inr (by omega)
          · omega
      · rw [if_neg (nI_nle (by omega) (by omega)), ldT (by omega), (hT1.2.2.2.1 p hpn).2.1, nI_s1 (by omega)]
        obtain ⟨S3, D3, k1, k2, k3, k4, k5, k6, k7⟩ := n_adds e2 e3 hmx1 (by omega) (x := tm T p - 1) (by omega)
        rw [sd_cl_ok k1]
        refine hnext S3 D3 (by rw [k6.1 136 (by omega)]; exact hT1) k2 k3 (fun d => ?_) (by omega) (frm_trans e6 k6 (fun _ h => h) (fun _ h => h)) (fun j hj => (k7 j hj).trans (e7 j hj))
        rw [k4 d, hone d, hdy d, feast_iff]
        constructor
        · rintro ((h | h) | h)
          · exact Or.inl h
          · exact Or.inr ⟨by omega, Or.inl (by omega)⟩
          · exact Or.inr ⟨by omega, Or.inr ⟨c, by omega⟩⟩
        · rintro (h | ⟨h, h2 | h2⟩)
          · exact Or.inl (Or.inl h)
          · exact Or.inl (Or.inr (by omega))
          · exact Or.inr (by omega)
    · have hz := hw.2.2.2.2.2.2.2
      rw [if_neg (show ¬ nI (tz T) = (1 : Int32) from fun z => c (nI_inj (b := 1) (by omega) (by decide) z))]
      refine hnext S1 D1 hT1 e2 e3 (fun d => ?_) (by omega) e6 e7
      rw [hone d, hdy d, feast_iff]
      constructor
      · rintro (h | h)
        · exact Or.inl h
        · exact Or.inr ⟨by omega, Or.inl (by omega)⟩
      · rintro (h | ⟨h, h2 | h2⟩)
        · exact Or.inl h
        · exact Or.inr (by omega)
        · exact absurd h2.1 c
theorem n_findDays {T : TW} (hw : wfT T) (hfull : fullT T) {S : sd_St} (hT : RTg (S.1 136) T) : ∃ S2 D, f_X12_findDays S = some ((), S2) ∧ DL S2 D ∧ D.Pairwise (· < ·) ∧ (∀ d, d ∈ D ↔ dyP T (tn T) d) ∧ D.length ≤ 24 ∧ frm (fun a => a = 130 ∨ a = 139) S S2 ∧ ∀ j, j ≠ 16 → S2.1 130 j = S.1 130 j := by
  have h12 := hw.1
  unfold f_X12_findDays
  rw [sd_nm_eq]
  obtain ⟨S2, D, k1, k2, k3, k4, k5, k6, k7⟩ := n_findDays_l hw hfull (tn T) sd_FU 0 (sd_I S 130 16 0) [] (by omega) (by unfold sd_FU; omega) (by rw [rI_cell (by decide)]; exact hT) ⟨rI_same, fun i d h => by simp at h⟩ List.Pairwise.nil (fun d => by unfold dyP; simp) (by simp)
  exact ⟨S2, D, k1, k2, k3, k4, k5, frm_trans (frm_I (c := fun a => a = 130 ∨ a = 139) (Or.inl rfl)) k6 (fun _ h => h) (fun _ h => h), fun j hj => (k7 j hj).trans (rI_oth hj)⟩
/-! the reference's enumeration of all free days -/
def tk (D : List Nat) (k : Nat) : Nat := 366 * (k / D.length) + D.getD (k % D.length) 0
theorem tk_at {D : List Nat} {k : Nat} (h0 : 0 < D.length) : D[k % D.length]? = some (D.getD (k % D.length) 0) := by
  have := Nat.mod_lt k h0
  rw [List.getD_eq_getElem?_getD, List.getElem?_eq_getElem this]
  rfl
theorem tk_lt {D : List Nat} (hs : D.Pairwise (· < ·)) (hmx : ∀ d ∈ D, d < 366) {j k : Nat} (h0 : 0 < D.length) (hjk : j < k) : tk D j < tk D k := by
  unfold tk
  have hj := tk_at (k := j) h0
  have hk := tk_at (k := k) h0
  have mj := hmx _ (List.mem_of_getElem? hj)
  have mk := hmx _ (List.mem_of_getElem? hk)
  have dj := Nat.div_add_mod j D.length
  have dk := Nat.div_add_mod k D.length
  have lj := Nat.mod_lt j h0
  have lk := Nat.mod_lt k h0
  rcases Nat.lt_trichotomy (j / D.length) (k / D.length) with c | c | c
  · omega
  · rw [c]
    have hlt : j % D.length < k % D.length := by
      rw [c] at dj
      omega
    have h5 := List.pairwise_iff_getElem.mp hs _ _ lj lk hlt
    rw [(List.getElem?_eq_some_iff.mp hj).2, (List.getElem?_eq_some_iff.mp hk).2] at h5
    omega
  · have : D.length * (k / D.length + 1) ≤ D.length * (j / D.length) := Nat.mul_le_mul_left _ c
    rw [Nat.mul_add] at this
    omega
def rev (T : TW) (D : List Nat) (j m : Nat) : List (Nat × Nat) := (List.range' j m).flatMap (fun k => dayE T (tk D k))
theorem rev_EV {T : TW} {D : List Nat} (hs : D.Pairwise (· < ·)) (hm : ∀ d, d ∈ D ↔ dyP T (tn T) d) : EV T (rev T D 0 (12 * D.length)) := by
  have hmx : ∀ d ∈ D, d < 366 := fun d hd => by
    obtain ⟨_, _, h, _⟩ := (hm d).mp hd
    exact h
  constructor
  · unfold rev
    rw [List.pairwise_flatMap]
    constructor
    · intro k _
      unfold dayE
      rw [List.pairwise_map]
      exact ((List.pairwise_lt_range (n := tn T)).filter _).imp (fun {a b} h => Or.inr ⟨rfl, h⟩)
    · by_cases h0 : 0 < D.length
      · refine List.Pairwise.imp (fun {a b} h x hx y hy => ?_) (List.pairwise_lt_range' (s := 0) (n := 12 * D.length))
        obtain ⟨x1, x2⟩ := x
        obtain ⟨y1, y2⟩ := y
        have h1 := (dayE_mem.mp hx).1
        have h2 := (dayE_mem.mp hy).1
        have h3 := tk_lt hs hmx h0 h
        left
        dsimp only
        omega
      · have : D.length = 0 := by omega
        rw [this]
        exact List.Pairwise.nil
  · intro t p
    unfold rev
    rw [List.mem_flatMap]
    constructor
    · rintro ⟨k, -, h2⟩
      obtain ⟨h3, h4, h5⟩ := dayE_mem.mp h2
      rw [h3]
      exact ⟨h4, h5⟩
    · rintro ⟨h1, h2⟩
      have ht := free_lt h2
      have hfe : feastB T p (t % 366) = true := by
        unfold freeB at h2
        rw [Bool.and_eq_true, Bool.and_eq_true] at h2
        exact h2.2.1
      have hd : t % 366 ∈ D := (hm _).mpr ⟨p, h1, Nat.mod_lt _ (by decide), hfe⟩
      obtain ⟨i, hi⟩ := List.getElem?_of_mem hd
      have hil := (List.getElem?_eq_some_iff.mp hi).1
      have h0 : 0 < D.length := by omega
      have hq : t / 366 < 12 := by omega
      have e1 : (D.length * (t / 366) + i) / D.length = t / 366 := by
        rw [Nat.mul_add_div h0, Nat.div_eq_of_lt hil, Nat.add_zero]
      have e2 : (D.length * (t / 366) + i) % D.length = i := by
        rw [Nat.mul_add_mod, Nat.mod_eq_of_lt hil]
      have e3 : tk D (D.length * (t / 366) + i) = t := by
        unfold tk
        rw [e1, e2, List.getD_eq_getElem?_getD, hi]
        show 366 * (t / 366) + t % 366 = t
        omega
      refine ⟨D.length * (t / 366) + i, ?_, ?_⟩
      · rw [List.mem_range'_1]
        have : D.length * (t / 366 + 1) ≤ D.length * 12 := Nat.mul_le_mul_left _ (by omega)
        rw [Nat.mul_add] at this
        omega
      · rw [e3]
        exact dayE_mem.mpr ⟨rfl, h1, h2⟩
