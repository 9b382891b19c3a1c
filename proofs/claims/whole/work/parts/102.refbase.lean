/-! THE REFERENCE READS ITS TOKENS -/
theorem al137 : sd_al 137 = 16 := by decide
theorem al138 : sd_al 138 = 16 := by decide
theorem al135 : sd_al 135 = 14 := by decide
def AT (S : sd_St) (tp : List Nat) : Prop := (∀ j t, (tks tp 0)[j]? = some t → RT S j t) ∧ S.1 132 (tks tp 0).length = 0 ∧ S.1 133 (tks tp 0).length = nI tp.length ∧ tp.length ≤ 1000 ∧ ∀ i, i < 14 → S.2 135 i = wdsL.getD i 0
def NOK (RN : NL) : Prop := RN.length ≤ 16 ∧ ∀ w v, (w, v) ∈ RN → okW w ∧ v < 16
/-- the reference reads on -/
def OKr (S : sd_St) (tp : List Nat) (P : Pst) (tl : List TK) : Prop := AT S tp ∧ S.1 130 8 = 0 ∧ (∃ k, S.1 130 7 = nI k ∧ k ≤ (tks tp 0).length ∧ (tks tp 0).drop k = tl) ∧ RTg (fun j => S.1 136 (170 + j)) P.1 ∧ ((∀ p, tn P.1 < p → p < 12 → S.1 136 (170 + (3 + 4 * p + 1)) = 0 ∧ S.1 136 (170 + (3 + 4 * p + 2)) = 0 ∧ S.1 136 (170 + (3 + 4 * p + 3)) = 0) ∧ S.1 136 (170 + 97) = 0) ∧ (S.1 130 13 = nI P.2.1.length ∧ ∀ j w v, P.2.1[j]? = some (w, v) → S.2 137 j = wR w ∧ S.1 138 j = nI v) ∧ S.1 130 14 = bI P.2.2 ∧ NOK P.2.1
def FLr (S : sd_St) (e : Nat) : Prop := S.1 130 8 = nI e ∧ 0 < e ∧ e < 2 ^ 30
def STr (S : sd_St) (tp : List Nat) (P : Pst) : Except Nat (List TK) → Prop
  | .ok tl => OKr S tp P tl
  | .error e => FLr S e
def SCr (S : sd_St) (tp : List Nat) : Except Nat (Pst × List TK) → Prop
  | .ok x => OKr S tp x.1 x.2
  | .error e => FLr S e
def FRr (S S2 : sd_St) : Prop := frm (fun a => a = 130 ∨ (136 ≤ a ∧ a ≤ 138)) S S2 ∧ (∀ j, j < 170 ∨ 340 ≤ j → S2.1 136 j = S.1 136 j) ∧ ∀ j, j ≠ 7 → j ≠ 8 → j ≠ 13 → j ≠ 14 → S2.1 130 j = S.1 130 j
theorem FRr_rfl {S : sd_St} : FRr S S := ⟨frm_rfl, fun _ _ => rfl, fun _ _ _ _ _ => rfl⟩
theorem FRr_trans {S S2 S3 : sd_St} (h : FRr S S2) (g : FRr S2 S3) : FRr S S3 := ⟨frm_trans h.1 g.1 (fun _ h => h) (fun _ h => h), fun j hj => (g.2.1 j hj).trans (h.2.1 j hj), fun j a b c d => (g.2.2 j a b c d).trans (h.2.2 j a b c d)⟩
theorem FRr_130 {S : sd_St} {j : Nat} {v : Int32} (h : j = 7 ∨ j = 8 ∨ j = 13 ∨ j = 14) : FRr S (sd_I S 130 j v) := ⟨frm_I (Or.inl rfl), fun i _ => by rw [rI_cell (by decide)], fun i a b c d => rI_oth (by omega)⟩
theorem FRr_136 {S : sd_St} {j : Nat} {v : Int32} (h : 170 ≤ j ∧ j < 340) : FRr S (sd_I S 136 j v) := ⟨frm_I (by omega), fun i hi => rI_oth (by omega), fun i a b c d => by rw [rI_cell (by decide)]⟩
/-- what a token's reading may write -/
def FRb (S S2 : sd_St) : Prop := frm (fun a => a = 130) S S2 ∧ ∀ j, j ≠ 7 → j ≠ 8 → S2.1 130 j = S.1 130 j
theorem FRb_rfl {S : sd_St} : FRb S S := ⟨frm_rfl, fun _ _ _ => rfl⟩
theorem FRb_trans {S S2 S3 : sd_St} (h : FRb S S2) (g : FRb S2 S3) : FRb S S3 := ⟨frm_trans h.1 g.1 (fun _ h => h) (fun _ h => h), fun j a b => (g.2 j a b).trans (h.2 j a b)⟩
theorem FRb_130 {S : sd_St} {j : Nat} {v : Int32} (h : j = 7 ∨ j = 8) : FRb S (sd_I S 130 j v) := ⟨frm_I rfl, fun i a b => rI_oth (by omega)⟩
theorem FRb_r {S S2 : sd_St} (h : FRb S S2) : FRr S S2 := ⟨frm_mono h.1 (fun a h => Or.inl h), fun j _ => by rw [h.1.1 136 (by decide)], fun j a b _ _ => h.2 j a b⟩
theorem AT_fr {S S2 : sd_St} {tp : List Nat} (h : AT S tp) (g : FRr S S2) : AT S2 tp := by
  obtain ⟨h1, h2, h3, h4, h5⟩ := h
  have e132 := g.1.1 132 (by omega)
  have e133 := g.1.1 133 (by omega)
  have e134 := g.1.2 134 (by omega)
  have e135 := g.1.2 135 (by omega)
  refine ⟨fun j t hj => ?_, by rw [e132]; exact h2, by rw [e133]; exact h3, h4, by rw [e135]; exact h5⟩
  have := h1 j t hj
  unfold RT at this ⊢
  rw [e132, e133, e134]
  exact this
theorem tl_len {tp : List Nat} (h : tp.length ≤ 1000) : (tks tp 0).length ≤ 1000 := by
  have := (tks_ok (tp := tp) tp.length 0 (by omega)).2
  omega
theorem drop_hd {tp : List Nat} {k : Nat} {tl : List TK} (h : (tks tp 0).drop k = tl) : (∀ t r, tl = t :: r → (tks tp 0)[k]? = some t ∧ (tks tp 0).drop (k + 1) = r ∧ k < (tks tp 0).length) ∧ (tl = [] → (tks tp 0).length ≤ k) := by
  constructor
  · intro t r e
    rw [e] at h
    have hk : k < (tks tp 0).length := by
      rcases Nat.lt_or_ge k (tks tp 0).length with q | q
      · exact q
      · rw [List.drop_eq_nil_of_le q] at h; cases h
    rw [List.drop_eq_getElem_cons hk] at h
    injection h with h1 h2
    exact ⟨by rw [List.getElem?_eq_getElem hk, h1], h2, hk⟩
  · intro e
    rw [e] at h
    exact List.drop_eq_nil_iff.mp h
theorem okr_ok {S : sd_St} {tp : List Nat} {P : Pst} {tl : List TK} (h : OKr S tp P tl) : ∀ t ∈ tl, okT t ∧ t.2.1 < tp.length := by
  obtain ⟨-, -, ⟨k, -, -, hk⟩, -⟩ := h
  intro t ht
  rw [← hk] at ht
  have := (tks_ok (tp := tp) tp.length 0 (by omega)).1 t (List.mem_of_mem_drop ht)
  exact ⟨this.1, this.2.1⟩
/-- what the reference stands at -/
theorem okr_at {S : sd_St} {tp : List Nat} {P : Pst} {tl : List TK} (h : OKr S tp P tl) : ∃ k, S.1 130 7 = nI k ∧ k ≤ 1000 ∧ S.1 133 k = nI (plc tp.length tl) ∧ (tl = [] → S.1 132 k = 0) ∧ ∀ t r, tl = t :: r → RT S k t ∧ k < 1000 := by
  obtain ⟨⟨a1, a2, a3, a4, a5⟩, -, ⟨k, k1, k2, k3⟩, -⟩ := h
  obtain ⟨d1, d2⟩ := drop_hd k3
  have hl := tl_len a4
  refine ⟨k, k1, by omega, ?_, fun e => ?_, fun t r e => ?_⟩
  · cases tl with
    | nil =>
      have : k = (tks tp 0).length := by have := d2 rfl; omega
      rw [this]; exact a3
    | cons t r => exact (a1 k t (d1 t r rfl).1).1
  · have : k = (tks tp 0).length := by have := d2 e; omega
    rw [this]; exact a2
  · obtain ⟨q1, -, q3⟩ := d1 t r e
    exact ⟨a1 k t q1, by omega⟩
theorem FLr_n0 {S : sd_St} {e : Nat} (h : FLr S e) : ¬ S.1 130 8 = 0 := by
  rw [h.1]; exact nI_ne0 h.2.1 (by have := h.2.2; omega)
theorem FLr_nle {S : sd_St} {e : Nat} (h : FLr S e) : ¬ S.1 130 8 ≤ 0 := by
  rw [h.1]; exact nI_nle h.2.1 (by have := h.2.2; omega)
theorem n_errsF {S : sd_St} {e : Nat} (h : FLr S e) (x : Int32) : f_X12_errs x S = some ((), S) := by
  unfold f_X12_errs
  rw [if_neg (FLr_n0 h)]
theorem plcr_le {S : sd_St} {tp : List Nat} {P : Pst} {tl : List TK} (h : OKr S tp P tl) : plc tp.length tl ≤ tp.length := by
  cases tl with
  | nil => exact Nat.le_refl _
  | cons t r => exact Nat.le_of_lt (okr_ok h t List.mem_cons_self).2
theorem n_errs {S : sd_St} {tp : List Nat} {P : Pst} {tl : List TK} (h : OKr S tp P tl) {k : Nat} (hk0 : 0 < k) (hk : k < 16) {x : Int32} (hx : x = nI k) : ∃ S2, f_X12_errs x S = some ((), S2) ∧ FLr S2 (flt k tp.length tl) ∧ FRb S S2 := by
  obtain ⟨i, i1, i2, i3, -⟩ := okr_at h
  have hp := plcr_le h
  have h1000 := h.1.2.2.2.1
  refine ⟨sd_I S 130 8 (nI (flt k tp.length tl)), ?_, ⟨rI_same, by unfold flt; omega, by unfold flt; omega⟩, FRb_130 (by omega)⟩
  unfold f_X12_errs
  rw [h.2.1, if_pos rfl, i1, sd_ld_ok (by rw [al133]; omega) (sd_al_lt _), i3, hx, show (16 : Int32) = nI 16 from rfl, nI_mul, nI_add, sd_nm_eq]
  rfl
theorem n_isWordF {S : sd_St} {e : Nat} (h : FLr S e) (x : Int32) : f_X12_isWord x S = some (0, S) := by
  unfold f_X12_isWord
  rw [if_neg (FLr_n0 h)]
theorem n_isWord {S : sd_St} {tp : List Nat} {P : Pst} {tl : List TK} (h : OKr S tp P tl) {i : Nat} (hi : i < 14) {x : Int32} (hx : x = nI i) : f_X12_isWord x S = some (bI (isW i tl), S) := by
  obtain ⟨k, k1, k2, k3, k4, k5⟩ := okr_at h
  have h135 := h.1.2.2.2.2 i hi
  unfold f_X12_isWord
  rw [h.2.1, if_pos rfl, k1, sd_ld_ok (by rw [al132]; omega) (sd_al_lt _), hx]
  cases tl with
  | nil => rw [k4 rfl, if_neg (by decide)]; rfl
  | cons t r =>
    obtain ⟨⟨-, q⟩, hk⟩ := k5 t r rfl
    have ho := (okr_ok h t List.mem_cons_self).1
    rw [show isW i (t :: r) = (t.1 == 1 && t.2.2 == kw i) from rfl]
    rcases q with ⟨q1, q2, q3⟩ | ⟨q1, q2, q3⟩ | ⟨q1, q2, q3⟩ | ⟨q1, q2⟩
    · have hw := okW_of ho q1
      rw [q2, if_pos rfl, sd_ldl_ok (by rw [al134]; omega) (sd_al_lt _), sd_ldl_ok (by rw [al135]; omega) (sd_al_lt _), q3, h135, kw_R i hi, q1]
      by_cases c2 : t.2.2 = kw i
      · rw [if_pos ((cm0 _ _).mpr (by rw [c2])), c2]
        simp [bI]
      · rw [if_neg (fun z => c2 ((wR_inj hw (kw_ok i hi)).mp ((cm0 _ _).mp z)))]
        simp [bI, c2]
    · rw [q2, if_neg (by decide), q1]; rfl
    · rw [q2, if_neg (by decide), q1]; rfl
    · rw [q1]
      rcases q2 with q2 | ⟨q2, -⟩
      · rw [q2, if_neg (by decide)]; rfl
      · rw [q2, if_neg (by decide)]; rfl
theorem n_isSign {S : sd_St} {tp : List Nat} {P : Pst} {tl : List TK} (h : OKr S tp P tl) : f_X12_isSign (59 : Int32) S = some (bI (isS tl), S) := by
  obtain ⟨k, k1, k2, k3, k4, k5⟩ := okr_at h
  unfold f_X12_isSign
  rw [h.2.1, if_pos rfl, k1, sd_ld_ok (by rw [al132]; omega) (sd_al_lt _)]
  have e59 : (59 : Int32).toInt64 = lN 59 := by decide
  cases tl with
  | nil => rw [k4 rfl, if_neg (by decide)]; rfl
  | cons t r =>
    obtain ⟨⟨-, q⟩, hk⟩ := k5 t r rfl
    rw [show isS (t :: r) = (t.1 == 3) from rfl]
    rcases q with ⟨q1, q2, q3⟩ | ⟨q1, q2, q3⟩ | ⟨q1, q2, q3⟩ | ⟨q1, q2⟩
    · rw [q2, if_neg (by decide), q1]; rfl
    · rw [q2, if_neg (by decide), q1]; rfl
    · rw [q2, if_pos rfl, sd_ldl_ok (by rw [al134]; omega) (sd_al_lt _), q3, e59, if_pos ((cm0 _ _).mpr rfl), q1]; rfl
    · rw [q1]
      rcases q2 with q2 | ⟨q2, q3⟩
      · rw [q2, if_neg (by decide)]; rfl
      · rw [q2, if_pos rfl, sd_ldl_ok (by rw [al134]; omega) (sd_al_lt _), e59, if_neg (fun z => q3 ((cm0 _ _).mp z))]; rfl
theorem n_name0 {S : sd_St} : ∀ (m n i : Nat), i + m = 14 → m < n → f_X12_isName_l28 n (0 : Int32) (nI i) S = some (0, S) := by
  intro m
  induction m with
  | zero =>
    intro n i hi hn
    obtain ⟨n, rfl⟩ : ∃ n', n = n' + 1 := ⟨n - 1, by omega⟩
    unfold f_X12_isName_l28
    rw [if_pos (show (14 : Int32) ≤ nI i from nI_le (a := 14) (by omega) (by omega))]
    rfl
  | succ m ih =>
    intro n i hi hn
    obtain ⟨n, rfl⟩ : ∃ n', n = n' + 1 := ⟨n - 1, by omega⟩
    unfold f_X12_isName_l28 f_X12_isName_b61 f_X12_isName_b62
    rw [if_neg (show ¬ (14 : Int32) ≤ nI i from nI_ge (b := 14) (by omega) (by decide)), if_pos rfl, nI_1]
    exact ih n (i + 1) (by omega) (by omega)
theorem n_name_l {S : sd_St} {k : Nat} (hk : k ≤ 1000) (h7 : S.1 130 7 = nI k) {w : List Nat} (hw : okW w) (hv : S.2 134 k = wR w) (h135 : ∀ i, i < 14 → S.2 135 i = wdsL.getD i 0) : ∀ (m n i : Nat), i + m = 14 → m < n → (∀ j, j < i → kw j ≠ w) → f_X12_isName_l28 n (1 : Int32) (nI i) S = some (bI (!(kws.any (fun u => u == w))), S) := by
  intro m
  induction m with
  | zero =>
    intro n i hi hn hno
    obtain ⟨n, rfl⟩ : ∃ n', n = n' + 1 := ⟨n - 1, by omega⟩
    unfold f_X12_isName_l28
    rw [if_pos (show (14 : Int32) ≤ nI i from nI_le (a := 14) (by omega) (by omega))]
    have : kws.any (fun u => u == w) = false := by
      rw [Bool.eq_false_iff]
      intro z
      obtain ⟨j, hj, e⟩ := (kws_any w).mp z
      exact hno j (by omega) e
    rw [this]
    rfl
  | succ m ih =>
    intro n i hi hn hno
    obtain ⟨n, rfl⟩ : ∃ n', n = n' + 1 := ⟨n - 1, by omega⟩
    unfold f_X12_isName_l28 f_X12_isName_b61 f_X12_isName_b62
    rw [if_neg (show ¬ (14 : Int32) ≤ nI i from nI_ge (b := 14) (by omega) (by decide)), if_neg (by decide), h7, sd_ldl_ok (by rw [al134]; omega) (sd_al_lt _), sd_ldl_ok (by rw [al135]; omega) (sd_al_lt _), hv, h135 i (by omega), kw_R i (by omega), nI_1]
    by_cases c : kw i = w
    · rw [if_pos ((cm0 _ _).mpr (by rw [c])), n_name0 m n (i + 1) (by omega) (by omega), (kws_any w).mpr ⟨i, by omega, c⟩]
      rfl
    · rw [if_neg (fun z => c ((wR_inj hw (kw_ok i (by omega))).mp ((cm0 _ _).mp z)).symm)]
      exact ih n (i + 1) (by omega) (by omega) (fun j hj => by
        by_cases cj : j = i
        · rw [cj]; exact c
        · exact hno j (by omega))
theorem n_isNameF {S : sd_St} {e : Nat} (h : FLr S e) : f_X12_isName S = some (0, S) := by
  unfold f_X12_isName f_X12_isName_b24 f_X12_isName_b25
  rw [if_neg (FLr_n0 h)]
  exact n_name0 14 sd_FU 0 (by omega) (by unfold sd_FU; omega)
theorem n_isName {S : sd_St} {tp : List Nat} {P : Pst} {tl : List TK} (h : OKr S tp P tl) : f_X12_isName S = some (bI (isNm tl), S) := by
  obtain ⟨k, k1, k2, k3, k4, k5⟩ := okr_at h
  have hz := n_name0 (S := S) 14 sd_FU 0 (by omega) (by unfold sd_FU; omega)
  unfold f_X12_isName f_X12_isName_b24 f_X12_isName_b25
  rw [h.2.1, if_pos rfl, k1, sd_ld_ok (by rw [al132]; omega) (sd_al_lt _)]
  cases tl with
  | nil => rw [k4 rfl, if_neg (by decide)]; exact hz
  | cons t r =>
    obtain ⟨⟨-, q⟩, hk⟩ := k5 t r rfl
    have ho := (okr_ok h t List.mem_cons_self).1
    rw [show isNm (t :: r) = (t.1 == 1 && !(kws.any (fun w => w == t.2.2))) from rfl]
    rcases q with ⟨q1, q2, q3⟩ | ⟨q1, q2, q3⟩ | ⟨q1, q2, q3⟩ | ⟨q1, q2⟩
    · rw [q2, if_pos rfl, q1]
      exact n_name_l (by omega) k1 (okW_of ho q1) q3 h.1.2.2.2.2 14 sd_FU 0 (by omega) (by unfold sd_FU; omega) (fun j hj => absurd hj (Nat.not_lt_zero j))
    · rw [q2, if_neg (by decide), q1]; exact hz
    · rw [q2, if_neg (by decide), q1]; exact hz
    · rw [q1]
      rcases q2 with q2 | ⟨q2, -⟩
      · rw [q2, if_neg (by decide)]; exact hz
      · rw [q2, if_neg (by decide)]; exact hz
def lkI : Option Nat → Int32
  | none => -1
  | some v => nI v
theorem n_find_l {S : sd_St} {RN : NL} (hN : NOK RN) (h13 : S.1 130 13 = nI RN.length) (hR : ∀ j w v, RN[j]? = some (w, v) → S.2 137 j = wR w ∧ S.1 138 j = nI v) {k : Nat} (hk : k ≤ 1000) (h7 : S.1 130 7 = nI k) {w : List Nat} (hw : okW w) (hv : S.2 134 k = wR w) : ∀ (m n i : Nat), i + m = RN.length → m < n → f_X12_find_l2 n (nI i) S = some (lkI (lk (RN.drop i) w), S) := by
  have h16 := hN.1
  intro m
  induction m with
  | zero =>
    intro n i hi hn
    obtain ⟨n, rfl⟩ : ∃ n', n = n' + 1 := ⟨n - 1, by omega⟩
    unfold f_X12_find_l2
    rw [h13, if_pos (nI_le (by omega) (by omega)), List.drop_eq_nil_of_le (by omega)]
    rfl
  | succ m ih =>
    intro n i hi hn
    obtain ⟨n, rfl⟩ : ∃ n', n = n' + 1 := ⟨n - 1, by omega⟩
    have hil : i < RN.length := by omega
    obtain ⟨⟨u, v⟩, hu⟩ : ∃ x, RN[i]? = some x := ⟨RN[i], List.getElem?_eq_getElem hil⟩
    obtain ⟨r1, r2⟩ := hR i u v hu
    have hm := List.mem_of_getElem? hu
    have ho := (hN.2 u v hm).1
    have hd : RN.drop i = (u, v) :: RN.drop (i + 1) := by
      rw [List.drop_eq_getElem_cons hil]
      congr 1
      exact Option.some.inj ((List.getElem?_eq_getElem hil).symm.trans hu)
    unfold f_X12_find_l2
    rw [h13, if_neg (nI_ge (by omega) (by omega)), sd_ldl_ok (by rw [al137]; omega) (sd_al_lt _), h7, sd_ldl_ok (by rw [al134]; omega) (sd_al_lt _), r1, hv, hd, nI_1]
    by_cases c : u = w
    · rw [if_pos ((cm0 _ _).mpr (by rw [c])), sd_ld_ok (by rw [al138]; omega) (sd_al_lt _), r2]
      have : lk ((u, v) :: RN.drop (i + 1)) w = some v := by
        unfold lk
        rw [List.find?_cons_of_pos (by simpa using c)]
        rfl
      rw [this]
      rfl
    · rw [if_neg (fun z => c ((wR_inj ho hw).mp ((cm0 _ _).mp z))), ih n (i + 1) (by omega) (by omega)]
      have : lk ((u, v) :: RN.drop (i + 1)) w = lk (RN.drop (i + 1)) w := by
        unfold lk
        rw [List.find?_cons_of_neg (by simpa using c)]
      rw [this]
theorem n_find0 {S : sd_St} {tp : List Nat} {P : Pst} {tl : List TK} (h : OKr S tp P tl) (hn : isNm tl = true) : f_X12_find S = some (lkI (lk P.2.1 (hdw tl)), S) := by
  obtain ⟨k, k1, k2, k3, k4, k5⟩ := okr_at h
  obtain ⟨t, r, rfl, ht⟩ := isNm_cons hn
  obtain ⟨⟨-, q⟩, hk⟩ := k5 t r rfl
  have hw := okW_of (okr_ok h t List.mem_cons_self).1 ht
  have hv : S.2 134 k = wR t.2.2 := by
    rcases q with ⟨q1, q2, q3⟩ | ⟨q1, -⟩ | ⟨q1, -⟩ | ⟨q1, -⟩
    · exact q3
    · omega
    · omega
    · omega
  obtain ⟨-, -, -, -, -, ⟨n1, n2⟩, -, hN⟩ := h
  have h16 := hN.1
  have := n_find_l hN n1 n2 (by omega) k1 hw hv P.2.1.length sd_FU 0 (by omega) (by unfold sd_FU; omega)
  rw [List.drop_zero] at this
  exact this
/-- a token is passed by -/
theorem okr_next {S : sd_St} {tp : List Nat} {P : Pst} {t : TK} {r : List TK} (h : OKr S tp P (t :: r)) : ∃ k, S.1 130 7 = nI k ∧ k < 1000 ∧ OKr (sd_I S 130 7 (nI (k + 1))) tp P r := by
  have h0 := h
  obtain ⟨a1, a2, ⟨k, k1, k2, k3⟩, a4, a5, a6, a7, a8⟩ := h
  obtain ⟨d1, -⟩ := drop_hd k3
  obtain ⟨q1, q2, q3⟩ := d1 t r rfl
  have hl := tl_len a1.2.2.2.1
  have o : ∀ a, a ≠ 130 → (sd_I S 130 7 (nI (k + 1))).1 a = S.1 a := fun a ha => rI_cell ha
  refine ⟨k, k1, by omega, AT_fr a1 (FRb_r (FRb_130 (by omega))), by rw [rI_oth (by decide)]; exact a2, ⟨k + 1, rI_same, by omega, q2⟩, ?_, ?_, ?_, by rw [rI_oth (by decide)]; exact a7, a8⟩
  · rw [o 136 (by decide)]; exact a4
  · rw [o 136 (by decide)]; exact a5
  · rw [rI_oth (by decide), o 138 (by decide)]; exact a6
theorem n_takeW {S : sd_St} {tp : List Nat} {P : Pst} {x : Except Nat (List TK)} (h : STr S tp P x) {i : Nat} (hi : i < 14) {y : Int32} (hy : y = nI i) : ∃ S2, f_X12_takeWord y S = some ((), S2) ∧ STr S2 tp P (x.bind (sW tp.length i)) ∧ FRb S S2 := by
  cases x with
  | error e =>
    have h : FLr S e := h
    have hF : FLr (sd_I S 130 7 (S.1 130 7 + 0)) e := ⟨by rw [rI_oth (by decide)]; exact h.1, h.2⟩
    refine ⟨sd_I S 130 7 (S.1 130 7 + 0), ?_, hF, FRb_130 (by omega)⟩
    unfold f_X12_takeWord f_X12_hasWord f_X12_hasWord_b20
    rw [sd_cl_ok (n_isWordF h y), if_pos rfl, sd_nm_eq]
    have e0 : sd_ckz (0 : Int32) (some ((0 : Int32), sd_I S 130 7 (S.1 130 7 + 0))) = some ((0 : Int32), sd_I S 130 7 (S.1 130 7 + 0)) := rfl
    rw [e0, sd_cl_ok rfl, if_pos rfl, n_errsF hF, sd_cl_ok rfl]
  | ok tl =>
    have h : OKr S tp P tl := h
    show ∃ S2, _ ∧ STr S2 tp P (sW tp.length i tl) ∧ _
    unfold f_X12_takeWord f_X12_hasWord f_X12_hasWord_b20 sW
    rw [sd_cl_ok (n_isWord h hi hy)]
    cases c : isW i tl with
    | true =>
      obtain ⟨t, r, rfl⟩ := isW_cons c
      obtain ⟨k, k1, k2, k3⟩ := okr_next h
      refine ⟨_, ?_, k3, FRb_130 (by omega)⟩
      rw [if_neg (by decide), k1, nI_1, sd_nm_eq]
      have e0 : sd_ckz (bI true) (some (bI true, sd_I S 130 7 (nI (k + 1)))) = some (bI true, sd_I S 130 7 (nI (k + 1))) := rfl
      rw [e0, sd_cl_ok rfl, if_neg (by decide)]
    | false =>
      rw [if_pos (by decide), sd_nm_eq]
      have hO : OKr (sd_I S 130 7 (S.1 130 7 + 0)) tp P tl := by
        obtain ⟨a1, a2, ⟨k, k1, k2, k3⟩, a4, a5, a6, a7, a8⟩ := h
        have o : ∀ a, a ≠ 130 → (sd_I S 130 7 (S.1 130 7 + 0)).1 a = S.1 a := fun a ha => rI_cell ha
        refine ⟨AT_fr a1 (FRb_r (FRb_130 (by omega))), by rw [rI_oth (by decide)]; exact a2, ⟨k, by rw [rI_same, k1]; simp, k2, k3⟩, by rw [o 136 (by decide)]; exact a4, by rw [o 136 (by decide)]; exact a5, by rw [rI_oth (by decide), o 138 (by decide)]; exact a6, by rw [rI_oth (by decide)]; exact a7, a8⟩
      obtain ⟨S2, e1, e2, e3⟩ := n_errs hO (k := 1) (x := 1) (by decide) (by decide) rfl
      refine ⟨S2, ?_, e2, FRb_trans (FRb_130 (by omega)) e3⟩
      have e0 : sd_ckz (bI false) (some (bI false, sd_I S 130 7 (S.1 130 7 + 0))) = some (bI false, sd_I S 130 7 (S.1 130 7 + 0)) := rfl
      rw [e0, sd_cl_ok rfl, if_pos (by decide), sd_cl_ok e1]
theorem n_takeS {S : sd_St} {tp : List Nat} {P : Pst} {x : Except Nat (List TK)} (h : STr S tp P x) : ∃ S2, f_X12_takeSign (59 : Int32) S = some ((), S2) ∧ STr S2 tp P (x.bind (sS tp.length)) ∧ FRb S S2 := by
  cases x with
  | error e =>
    have h : FLr S e := h
    refine ⟨S, ?_, h, FRb_rfl⟩
    unfold f_X12_takeSign f_X12_isSign
    rw [if_neg (FLr_n0 h), sd_cl_ok rfl, if_pos rfl, n_errsF h, sd_cl_ok rfl]
  | ok tl =>
    have h : OKr S tp P tl := h
    show ∃ S2, _ ∧ STr S2 tp P (sS tp.length tl) ∧ _
    unfold f_X12_takeSign sS
    rw [sd_cl_ok (n_isSign h)]
    cases c : isS tl with
    | true =>
      cases tl with
      | nil => cases c
      | cons t r =>
        obtain ⟨k, k1, k2, k3⟩ := okr_next h
        refine ⟨_, ?_, k3, FRb_130 (by omega)⟩
        rw [if_neg (by decide), k1, nI_1, sd_nm_eq]
    | false =>
      obtain ⟨S2, e1, e2, e3⟩ := n_errs h (k := 1) (x := 1) (by decide) (by decide) rfl
      refine ⟨S2, ?_, e2, e3⟩
      rw [if_pos (by decide), sd_cl_ok e1]
theorem cmlt (x y : Int64) : (lg_cmp x y < 0) ↔ x < y := lg_cmp_lt x y
theorem cmle (x y : Int64) : (lg_cmp x y ≤ 0) ↔ x ≤ y := lg_cmp_le x y
theorem cmge (x y : Int64) : (0 ≤ lg_cmp x y) ↔ y ≤ x := lg_cmp_ge x y
theorem n_takeN {S : sd_St} {tp : List Nat} {P : Pst} {x : Except Nat (List TK)} (h : STr S tp P x) {m : Nat} (hm : m < 10000) {y : Int32} (hy : y = nI m) : ∃ v S2, f_X12_takeNumber (0 : Int32) y S = some (v, S2) ∧ STr S2 tp P ((x.bind (sN tp.length m)).map (fun z => z.2)) ∧ FRb S S2 ∧ (∀ a tl2, x.bind (sN tp.length m) = .ok (a, tl2) → v = nI a) ∧ ∀ e, x = .error e → v = 0 := by
  have hb70 : ∀ (S : sd_St) (e : Nat), FLr S e → f_X12_takeNumber_b70 S = some (0, S) := by
    intro S e h
    unfold f_X12_takeNumber_b70
    rw [if_neg (FLr_nle h)]
  cases x with
  | error e =>
    have h : FLr S e := h
    refine ⟨0, S, ?_, h, FRb_rfl, fun a tl2 z => (by cases z), fun _ _ => rfl⟩
    unfold f_X12_takeNumber f_X12_takeNumber_b28
    rw [if_neg (FLr_n0 h), if_neg (FLr_n0 h), hb70 S e h]
  | ok tl =>
    have h : OKr S tp P tl := h
    show ∃ v S2, _ ∧ STr S2 tp P ((sN tp.length m tl).map (fun z => z.2)) ∧ _ ∧ (∀ a tl2, sN tp.length m tl = .ok (a, tl2) → v = nI a) ∧ _
    obtain ⟨k, k1, k2, k3, k4, k5⟩ := okr_at h
    have hE : ∀ (j : Nat), 0 < j → j < 16 → sN tp.length m tl = .error (flt j tp.length tl) → ∃ v S2, (sd_cl (f_X12_errs (nI j) S) (fun _ S_4 => f_X12_takeNumber_b70 S_4)) = some (v, S2) ∧ STr S2 tp P ((sN tp.length m tl).map (fun z => z.2)) ∧ FRb S S2 ∧ (∀ a tl2, sN tp.length m tl = .ok (a, tl2) → v = nI a) ∧ ∀ e, (Except.ok tl : Except Nat (List TK)) = .error e → v = 0 := by
      intro j j0 j16 hs
      obtain ⟨S2, e1, e2, e3⟩ := n_errs h (k := j) (x := nI j) j0 j16 rfl
      refine ⟨0, S2, ?_, by rw [hs]; exact e2, e3, fun a tl2 z => (by rw [hs] at z; cases z), fun _ _ => rfl⟩
      rw [sd_cl_ok e1, hb70 S2 _ e2]
    unfold f_X12_takeNumber f_X12_takeNumber_b28 f_X12_takeNumber_b65
    rw [h.2.1, if_pos rfl, if_pos rfl, k1, sd_ld_ok (by rw [al132]; omega) (sd_al_lt _)]
    have hnot : ¬ S.1 132 k = (2 : Int32) → isN tl = false → ∃ v S2, (if S.1 132 k = (2 : Int32) then sd_ldl S 134 (nI k) (fun v_7 => (if (lg_cmp v_7 ((0 : Int32).toInt64)) < 0 then sd_cl (f_X12_errs (4 : Int32) S) (fun _ S_4 => f_X12_takeNumber_b70 S_4) else sd_ldl S 134 (nI k) (fun v_9 => (if (lg_cmp v_9 (y.toInt64)) ≤ 0 then f_X12_takeNumber_b70 S else sd_cl (f_X12_errs (4 : Int32) S) (fun _ S_4 => f_X12_takeNumber_b70 S_4))))) else sd_cl (f_X12_errs (1 : Int32) S) (fun _ S_14 => f_X12_takeNumber_b70 S_14)) = some (v, S2) ∧ STr S2 tp P ((sN tp.length m tl).map (fun z => z.2)) ∧ FRb S S2 ∧ (∀ a tl2, sN tp.length m tl = .ok (a, tl2) → v = nI a) ∧ ∀ e, (Except.ok tl : Except Nat (List TK)) = .error e → v = 0 := by
      intro hk hn
      rw [if_neg hk]
      exact hE 1 (by decide) (by decide) (by unfold sN; rw [hn, if_neg (by decide)])
    cases tl with
    | nil => exact hnot (by rw [k4 rfl]; decide) rfl
    | cons t r =>
      obtain ⟨⟨-, q⟩, hk⟩ := k5 t r rfl
      have ho := (okr_ok h t List.mem_cons_self).1
      rcases q with ⟨q1, q2, q3⟩ | ⟨q1, q2, q3⟩ | ⟨q1, q2, q3⟩ | ⟨q1, q2⟩
      · exact hnot (by rw [q2]; decide) (by show (t.1 == 2) = false; rw [q1]; rfl)
      · have hn : nm t.2.2 < 10000 := by
          unfold okT at ho
          rcases ho with o | o | o | o
          · omega
          · exact o.2
          · omega
          · omega
        have hisN : isN (t :: r) = true := by show (t.1 == 2) = true; rw [q1]; rfl
        have hhd : hdn (t :: r) = nm t.2.2 := rfl
        rw [q2, if_pos rfl, sd_ldl_ok (by rw [al134]; omega) (sd_al_lt _), q3, if_neg (by
          rw [cmlt, show (0 : Int32).toInt64 = lN 0 from by decide, lN_lt (by omega) (by decide)]
          omega), sd_ldl_ok (by rw [al134]; omega) (sd_al_lt _), q3, hy, nI_l (by omega)]
        by_cases c2 : nm t.2.2 ≤ m
        · rw [if_pos ((cmle _ _).mpr ((lN_le (by omega) (by omega)).mpr c2))]
          have hs : sN tp.length m (t :: r) = .ok (nm t.2.2, r) := by
            unfold sN
            rw [if_pos hisN, hhd, if_pos c2]
            rfl
          obtain ⟨k', k1', k2', k3'⟩ := okr_next h
          have hkk : k' = k := nI_inj (by omega) (by omega) (by rw [← k1', k1])
          subst hkk
          refine ⟨nI (nm t.2.2), sd_I S 130 7 (nI (k' + 1)), ?_, by rw [hs]; exact k3', FRb_130 (by omega), fun a tl2 z => (by rw [hs] at z; cases z; rfl), fun e z => (by cases z)⟩
          unfold f_X12_takeNumber_b70
          rw [h.2.1, if_pos (by decide), k1, nI_1, sd_nm_eq, rI_same, nI_pred, sd_ldl_ok (by rw [al134]; omega) (sd_al_lt _)]
          show some ((S.2 134 k').toInt32, _) = _
          rw [q3, lN_i]
        · rw [if_neg (fun z => c2 ((lN_le (by omega) (by omega)).mp ((cmle _ _).mp z)))]
          exact hE 4 (by decide) (by decide) (by unfold sN; rw [if_pos hisN, hhd, if_neg c2])
      · exact hnot (by rw [q2]; decide) (by show (t.1 == 2) = false; rw [q1]; rfl)
      · exact hnot (by rcases q2 with q2 | ⟨q2, -⟩ <;> rw [q2] <;> decide) (by show (t.1 == 2) = false; rw [q1]; rfl)
