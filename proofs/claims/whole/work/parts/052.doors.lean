/-! DOORS: the free days of a town as a list of dates and persons -/
def YR (d : Nat) (S : sd_St) (Y : List Nat) : Prop := S.1 d 4 = nI Y.length ∧ ∀ i e, Y[i]? = some e → S.1 (d + 1) i = nI e
theorem al1 {d : Nat} (h : sd_kd d = 1) : (sd_al (d + 1) = 24 ∨ sd_al (d + 1) = 1) ∧ sd_al (d + 2) = 12 * sd_al (d + 1) ∧ sd_al (d + 3) = 12 * sd_al (d + 1) ∧ sd_al (d + 4) = 12 * sd_al (d + 1) := by
  rcases kd_1 h with h | h | h <;> subst h <;> decide
theorem nI_or {a b : Nat} : nI a ||| nI b = nI (a ||| b) := by
  apply hb_ext
  intro q hq
  rw [hb_or, hb_nI hq, hb_nI hq, hb_nI hq, Nat.testBit_or]
theorem nI_and {a b : Nat} : nI a &&& nI b = nI (a &&& b) := by
  apply hb_ext
  intro q hq
  rw [hb_and, hb_nI hq, hb_nI hq, hb_nI hq, Nat.testBit_and]
theorem nI_sh4 {a : Nat} (ha : a < 8192) : nI a <<< ((4 : Int32) &&& 31) = nI (a * 16) := pk_shlN _ 4 (by decide) (by omega)
theorem nI_sr4 {a : Nat} (ha : a < 2 ^ 31) : nI a >>> ((4 : Int32) &&& 31) = nI (a / 16) := pk_shrN ha _ 4 (by decide)
theorem nI_and15 {a : Nat} (ha : a < 2 ^ 31) : nI a &&& (15 : Int32) = nI (a % 16) := pk_andN (by omega) 4 (by decide)
theorem nI_entry {x p : Nat} (hx : x < 8192) (hp : p < 16) : nI x <<< ((4 : Int32) &&& 31) ||| nI p = nI (16 * x + p) := by
  rw [nI_sh4 hx, nI_or]
  congr 1
  have := Nat.two_pow_add_eq_or_of_lt (i := 4) (b := p) (by omega) x
  rw [Nat.mul_comm x 16]
  exact this.symm
theorem nI_sub {a b : Nat} (h : b ≤ a) : nI a - nI b = nI (a - b) := pk_sub h
theorem nI_m1 {a : Nat} (h : 0 < a) : nI a + (-1 : Int32) = nI (a - 1) := by
  obtain ⟨b, rfl⟩ : ∃ b, a = b + 1 := ⟨a - 1, by omega⟩
  exact pk_m1 b
theorem nI_s1 {a : Nat} (h : 0 < a) : nI a - (1 : Int32) = nI (a - 1) := by
  obtain ⟨b, rfl⟩ : ∃ b, a = b + 1 := ⟨a - 1, by omega⟩
  exact nI_pred b
theorem m_aty_l {d : Nat} : ∀ (n a : Nat) (x1 x3 : Int32) (S : sd_St), a < n → a ≤ sd_al (d + 1) → ∃ a2, a2 ≤ a ∧ f_X1_addToYear_l12 d n x1 x3 (nI a) S = f_X1_addToYear_b36 d x1 x3 (nI a2) S ∧ (∀ i, a2 ≤ i → i < a → ¬ S.1 (d + 1) i ≤ x3) ∧ (a2 = 0 ∨ S.1 (d + 1) (a2 - 1) ≤ x3) := by
  intro n
  induction n with
  | zero => intro a x1 x3 S h; omega
  | succ n ih =>
    intro a x1 x3 S hn ha
    have h31 := sd_al_lt (d + 1)
    unfold f_X1_addToYear_l12
    by_cases h0 : a = 0
    · subst h0
      rw [if_pos (by decide)]
      exact ⟨0, Nat.le_refl _, rfl, fun i _ h => absurd h (Nat.not_lt_zero _), Or.inl rfl⟩
    · rw [if_neg (nI_nle (by omega) (by omega)), nI_s1 (by omega), sd_ld_ok (by omega) h31]
      by_cases c : S.1 (d + 1) (a - 1) ≤ x3
      · rw [if_pos c]
        exact ⟨a, Nat.le_refl _, rfl, fun i h1 h2 => absurd h2 (by omega), Or.inr c⟩
      · rw [if_neg c, nI_m1 (by omega)]
        obtain ⟨a2, h1, h2, h3, h4⟩ := ih (a - 1) x1 x3 S (by omega) (by omega)
        refine ⟨a2, by omega, h2, fun i hi1 hi2 => ?_, h4⟩
        by_cases hi : i = a - 1
        · subst hi; exact c
        · exact h3 i hi1 (by omega)
/-- none: nothing is added -/
theorem m_aty_none {d : Nat} {S : sd_St} {Y : List Nat} (hY : YR d S Y) (hr : Y.length ≤ sd_al (d + 1)) (h24 : sd_al (d + 1) ≤ 24) (p : Int32) : f_X1_addToYear d (-1) p S = some ((), S) := by
  unfold f_X1_addToYear
  rw [sd_nm_eq, sd_nm_eq, hY.1]
  obtain ⟨a2, h1, h2, -, -⟩ := m_aty_l (d := d) sd_FU Y.length (-1) ((-1 : Int32) <<< ((4 : Int32) &&& 31) ||| p) S (by unfold sd_FU; omega) hr
  rw [h2]
  unfold f_X1_addToYear_b36 f_X1_addToYear_b58 f_X1_addToYear_b59
  by_cases c : nI a2 ≤ 0
  · rw [if_pos c, if_pos rfl]
  · rw [if_neg c]
    have : 0 < a2 := by
      rcases Nat.eq_zero_or_pos a2 with h | h
      · subst h; exact absurd (by decide) c
      · exact h
    rw [nI_s1 this, sd_ld_ok (by omega) (sd_al_lt _)]
    by_cases c2 : S.1 (d + 1) (a2 - 1) = (-1 : Int32) <<< ((4 : Int32) &&& 31) ||| p
    · rw [if_pos c2, if_pos rfl]
    · rw [if_neg c2, if_pos rfl]
theorem pw_ins {Y : List Nat} {e a : Nat} (hs : Y.Pairwise (· < ·)) (h1 : ∀ i x, Y[i]? = some x → i < a → x < e) (h2 : ∀ i x, Y[i]? = some x → a ≤ i → e < x) : (Y.take a ++ e :: Y.drop a).Pairwise (· < ·) := by
  rw [List.pairwise_append]
  refine ⟨hs.sublist (List.take_sublist _ _), ?_, ?_⟩
  · rw [List.pairwise_cons]
    refine ⟨fun x hx => ?_, hs.sublist (List.drop_sublist _ _)⟩
    obtain ⟨i, hi⟩ := List.getElem?_of_mem hx
    rw [List.getElem?_drop] at hi
    exact h2 _ x hi (by omega)
  · intro x hx y hy
    obtain ⟨i, hi⟩ := List.getElem?_of_mem hx
    have hia : i < a := by
      have := (List.getElem?_eq_some_iff.mp hi).1
      rw [List.length_take] at this
      omega
    rw [List.getElem?_take_of_lt hia] at hi
    have hxe := h1 i x hi hia
    rcases List.mem_cons.mp hy with rfl | hy
    · exact hxe
    · obtain ⟨j, hj⟩ := List.getElem?_of_mem hy
      rw [List.getElem?_drop] at hj
      exact Nat.lt_trans hxe (h2 _ y hj (by omega))
theorem m_addToYear {d : Nat} (hd : sd_kd d = 1) {S : sd_St} {Y : List Nat} (hY : YR d S Y) (hs : Y.Pairwise (· < ·)) (hmx : ∀ e ∈ Y, e < 8192) (hr : Y.length < sd_al (d + 1)) {x p : Nat} (hx : x ≤ 366) (hp : p < 12) :
    ∃ S2 Y2, f_X1_addToYear d (nI x - 1) (nI p) S = some ((), S2) ∧ YR d S2 Y2 ∧ Y2.Pairwise (· < ·) ∧ (∀ e, e ∈ Y2 ↔ e ∈ Y ∨ (0 < x ∧ e = 16 * (x - 1) + p)) ∧ Y2.length ≤ Y.length + 1 ∧ frm (fun a => a = d ∨ a = d + 1) S S2 ∧ ∀ j, j ≠ 4 → S2.1 d j = S.1 d j := by
  obtain ⟨hal, -⟩ := al1 hd
  have h24 : sd_al (d + 1) ≤ 24 := by omega
  by_cases h0 : x = 0
  · subst h0
    refine ⟨S, Y, ?_, hY, hs, fun e => ?_, by omega, frm_rfl, fun _ _ => rfl⟩
    · exact m_aty_none hY (by omega) h24 _
    · constructor
      · exact Or.inl
      · rintro (h | ⟨h, -⟩)
        · exact h
        · omega
  · have e1 : nI x - 1 = nI (x - 1) := nI_s1 (by omega)
    have e2 : nI (x - 1) <<< ((4 : Int32) &&& 31) ||| nI p = nI (16 * (x - 1) + p) := nI_entry (by omega) (by omega)
    unfold f_X1_addToYear
    rw [sd_nm_eq, sd_nm_eq, e1, e2, hY.1]
    generalize hE : 16 * (x - 1) + p = E
    have hE2 : E < 8192 := by omega
    obtain ⟨a2, g1, g2, g3, g4⟩ := m_aty_l (d := d) sd_FU Y.length (nI (x - 1)) (nI E) S (by unfold sd_FU; omega) (by omega)
    rw [g2]
    have hlow : ∀ i y, Y[i]? = some y → a2 ≤ i → E < y := by
      intro i y hi ha
      have hil := (List.getElem?_eq_some_iff.mp hi).1
      have h1 := g3 i ha hil
      rw [hY.2 i y hi] at h1
      have h2 := hmx y (List.mem_of_getElem? hi)
      exact Nat.not_le.mp fun z => h1 (nI_le z (by omega))
    have hup : ∀ i y, Y[i]? = some y → i < a2 → y ≤ E := by
      intro i y hi ha
      rcases g4 with h | h
      · omega
      · have hil := (List.getElem?_eq_some_iff.mp hi).1
        have hlt : a2 - 1 < Y.length := by omega
        have hz : Y[a2 - 1]? = some Y[a2 - 1] := List.getElem?_eq_getElem hlt
        rw [hY.2 _ _ hz] at h
        have h3 := hmx _ (List.mem_of_getElem? hz)
        have h4 : Y[a2 - 1] ≤ E := (nI_leI (by omega) (by omega)).mp h
        by_cases hia : i = a2 - 1
        · subst hia
          rw [hz] at hi
          cases hi
          exact h4
        · have h5 := List.pairwise_iff_getElem.mp hs i (a2 - 1) hil hlt (by omega)
          rw [(List.getElem?_eq_some_iff.mp hi).2] at h5
          omega
    by_cases hin : E ∈ Y
    · -- it stands there already
      refine ⟨S, Y, ?_, hY, hs, fun e => ?_, by omega, frm_rfl, fun _ _ => rfl⟩
      · obtain ⟨i, hi⟩ := List.getElem?_of_mem hin
        have hil := (List.getElem?_eq_some_iff.mp hi).1
        have hia : i < a2 := by
          rcases Nat.lt_or_ge i a2 with h | h
          · exact h
          · exact absurd (hlow i E hi h) (Nat.lt_irrefl _)
        have hi2 : i = a2 - 1 := by
          rcases Nat.lt_or_ge i (a2 - 1) with h | h
          · have hlt : a2 - 1 < Y.length := by omega
            have h5 := List.pairwise_iff_getElem.mp hs i (a2 - 1) hil hlt h
            have h6 := hup (a2 - 1) Y[a2 - 1] (List.getElem?_eq_getElem hlt) (by omega)
            rw [(List.getElem?_eq_some_iff.mp hi).2] at h5
            omega
          · omega
        unfold f_X1_addToYear_b36
        rw [if_neg (nI_nle (by omega) (by omega)), nI_s1 (by omega), sd_ld_ok (by omega) (sd_al_lt _), ← hi2, hY.2 i E hi, if_pos rfl]
        unfold f_X1_addToYear_b59
        rw [if_neg (nI_neg1 (by omega)), if_neg (by decide)]
      · constructor
        · exact Or.inl
        · rintro (h | ⟨-, h⟩)
          · exact h
          · rw [h]; exact hin
    · have hup2 : ∀ i y, Y[i]? = some y → i < a2 → y < E := fun i y hi ha => Nat.lt_of_le_of_ne (hup i y hi ha) (fun z => hin (z ▸ List.mem_of_getElem? hi))
      have hgo : f_X1_addToYear_b36 d (nI (x - 1)) (nI E) (nI a2) S = f_X1_addToYear_b59 d (nI (x - 1)) (nI E) (nI a2) 0 S := by
        unfold f_X1_addToYear_b36 f_X1_addToYear_b58
        by_cases c : a2 = 0
        · subst c
          rw [if_pos (by decide)]
        · have hlt : a2 - 1 < Y.length := by omega
          have hz : Y[a2 - 1]? = some Y[a2 - 1] := List.getElem?_eq_getElem hlt
          rw [if_neg (nI_nle (by omega) (by omega)), nI_s1 (by omega), sd_ld_ok (by omega) (sd_al_lt _), hY.2 _ _ hz]
          rw [if_neg (fun h => hin (by
            have := nI_inj (by have := hmx _ (List.mem_of_getElem? hz); omega) (by omega) h
            rw [← this]
            exact List.mem_of_getElem? hz))]
      rw [hgo]
      unfold f_X1_addToYear_b59
      rw [if_neg (nI_neg1 (by omega)), if_pos rfl, hY.1, if_pos (show nI Y.length < Int32.ofNat (sd_al (d + 1)) from nI_lt hr (sd_al_lt _)), nI_1, nI_sub g1]
      rw [sd_cp_ok (by omega) (by omega)]
      rw [sd_st_ok (by omega) (sd_al_lt _), sd_nm_eq]
      refine ⟨_, Y.take a2 ++ E :: Y.drop a2, rfl, ⟨?_, ?_⟩, pw_ins hs hup2 hlow, fun e => ?_, ?_, ?_, ?_⟩
      · rw [rI_same, rI_cell (by omega), rA_cell (by omega), hY.1, nI_1]
        congr 1
        simp only [List.length_append, List.length_take, List.length_cons, List.length_drop]
        omega
      · intro i e hi
        rw [rI_cell (by omega)]
        by_cases c1 : i < a2
        · rw [rI_oth (by omega), rA_same, va_cpy, if_neg (by omega)]
          rw [List.getElem?_append_left (by rw [List.length_take]; omega), List.getElem?_take_of_lt c1] at hi
          exact hY.2 i e hi
        · rw [List.getElem?_append_right (by rw [List.length_take]; omega), List.length_take, Nat.min_eq_left g1] at hi
          by_cases c2 : i = a2
          · subst c2
            rw [Nat.sub_self] at hi
            cases hi
            exact rI_same
          · rw [rI_oth c2, rA_same]
            obtain ⟨j, hj⟩ : ∃ j, i - a2 = j + 1 := ⟨i - a2 - 1, by omega⟩
            rw [hj, List.getElem?_cons_succ, List.getElem?_drop] at hi
            have hil := (List.getElem?_eq_some_iff.mp hi).1
            rw [va_cpy, if_pos ⟨by omega, by omega⟩]
            rw [show a2 + (i - (a2 + 1)) = a2 + j by omega]
            exact hY.2 _ e hi
      · rw [List.mem_append, List.mem_cons]
        constructor
        · rintro (h | h | h)
          · exact Or.inl (List.mem_of_mem_take h)
          · exact Or.inr ⟨by omega, by omega⟩
          · exact Or.inl (List.mem_of_mem_drop h)
        · rintro (h | ⟨-, h⟩)
          · rw [← List.take_append_drop a2 Y, List.mem_append] at h
            rcases h with h | h
            · exact Or.inl h
            · exact Or.inr (Or.inr h)
          · exact Or.inr (Or.inl (by omega))
      · simp only [List.length_append, List.length_take, List.length_cons, List.length_drop]
        omega
      · exact frm_trans (frm_trans (frm_A (c := fun a => a = d ∨ a = d + 1) (Or.inr rfl)) (frm_I (c := fun a => a = d ∨ a = d + 1) (Or.inr rfl)) (fun _ h => h) (fun _ h => h)) (frm_I (c := fun a => a = d ∨ a = d + 1) (Or.inl rfl)) (fun _ h => h) (fun _ h => h)
      · intro j hj
        rw [rI_oth hj, rI_cell (by omega), rA_cell (by omega)]

/-! the doors out of the year's entries -/
def DR (d : Nat) (S : sd_St) (T : TW) (L : List (Nat × Nat)) : Prop := S.1 d 0 = nI L.length ∧ L.length ≤ sd_al (d + 2) ∧ ∀ i t p, L[i]? = some (t, p) → S.1 (d + 2) i = nI t ∧ S.1 (d + 3) i = nI p ∧ ∀ q, hb (S.1 (d + 4) i) q = guestB T t p q
def yev (T : TW) (y : Nat) (Y : List Nat) : List (Nat × Nat) := Y.filterMap (fun e => if thereB T (y * 366 + e / 16) && !goneB T (e % 16) (y * 366 + e / 16) then some (y * 366 + e / 16, e % 16) else none)
theorem DR_fr {d : Nat} {S S2 : sd_St} {T : TW} {L : List (Nat × Nat)} (h : DR d S T L) (h0 : S2.1 d 0 = S.1 d 0) (hs : ∀ a, d + 2 ≤ a → a ≤ d + 4 → S2.1 a = S.1 a) : DR d S2 T L := by
  unfold DR at h ⊢
  rw [h0, hs (d + 2) (by omega) (by omega), hs (d + 3) (by omega) (by omega), hs (d + 4) (by omega) (by omega)]
  exact h
theorem wf_guest {T : TW} (hw : wfT T) {p q t : Nat} (hp : p < tn T) (h : guestB T t p q = true) : q < tn T := by
  obtain ⟨hn, hP, -⟩ := hw
  obtain ⟨-, -, -, h4, -⟩ := hP p hp
  unfold guestB at h
  rw [Bool.and_eq_true] at h
  rcases Nat.lt_or_ge q (tn T) with c | c
  · exact c
  · have := Nat.testBit_lt_two_pow (x := tc T p) (i := q) (Nat.lt_of_lt_of_le h4 (Nat.pow_le_pow_right (by decide) c))
    rw [this] at h
    exact absurd h.1 (by decide)
theorem m_addDoor {d k : Nat} (hd : sd_kd d = 1) (hk : sd_kd k = 8) {S : sd_St} {T : TW} {L : List (Nat × Nat)} (hT : CT k S T) (hw : wfT T) (hL : DR d S T L) (hr : L.length < sd_al (d + 2)) {t p : Nat} (ht : t < 4392) (hp : p < tn T) :
    ∃ S2, f_X1_addDoor d k (nI t) (nI p) S = some ((), S2) ∧ DR d S2 T (if goneB T p t then L else L ++ [(t, p)]) ∧ frm (fun a => a = d ∨ (d + 2 ≤ a ∧ a ≤ d + 4)) S S2 ∧ ∀ j, j ≠ 0 → S2.1 d j = S.1 d j := by
  have hal := al1 hd
  have hal8 := al8 hk
  have hn := hw.1
  obtain ⟨y, hy1, hy2⟩ := m_awayOn hk hT hw ht
  have hdk : d + 4 < k ∨ k + 10 < d := by
    rcases kd_1 hd with h | h | h <;> rcases kd_8 hk with g | g | g <;> omega
  unfold f_X1_addDoor
  rw [sd_cl_ok hy1, sd_cl_ok (m_has y (by omega) S), hy2 p]
  by_cases hg : goneB T p t = true
  · rw [hg, if_neg (by decide)]
    exact ⟨S, rfl, hL, frm_rfl, fun _ _ => rfl⟩
  · have hg : goneB T p t = false := by simpa using hg
    obtain ⟨l0, l1, l2⟩ := hL
    rw [hg, if_pos (by decide), l0, if_pos (show nI L.length < Int32.ofNat (sd_al (d + 2)) from nI_lt hr (sd_al_lt _))]
    rw [sd_st_ok hr (sd_al_lt _), rI_cell (by omega), l0, sd_st_ok (by omega) (sd_al_lt _)]
    rw [sd_ld_ok (by omega) (sd_al_lt _), rI_cell (by omega), rI_cell (by omega), rI_cell (by omega), rI_cell (by omega), l0, sd_st_ok (by omega) (sd_al_lt _), sd_nm_eq]
    have hc := (hT.2.1 p hp).2.2.2
    rw [hc, rI_cell (by omega), rI_cell (by omega), rI_cell (by omega), l0, nI_1]
    refine ⟨_, rfl, ?_, ?_, ?_⟩
    · simp only [Bool.false_eq_true, if_false]
      refine ⟨?_, ?_, ?_⟩
      · rw [rI_same]; simp
      · simp; omega
      · intro i t' p' hi
        simp only [rI]
        by_cases c : i < L.length
        · rw [List.getElem?_append_left c] at hi
          obtain ⟨h1, h2, h3⟩ := l2 i t' p' hi
          have c2 : ¬ i = L.length := by omega
          simp [c2, h1, h2, h3]
        · have hi2 : i = L.length := by
            have := (List.getElem?_eq_some_iff.mp hi).1
            simp at this
            omega
          subst hi2
          rw [List.getElem?_append_right (Nat.le_refl _), Nat.sub_self] at hi
          cases hi
          refine ⟨by simp, by simp, fun q => ?_⟩
          rw [if_neg (by omega), if_pos ⟨trivial, rfl⟩, hb_and, hb_xor, hb_m1, hy2 q]
          unfold guestB
          by_cases hq : q < 32
          · rw [hb_nI hq]; simp [hq]
          · rw [hb_ge _ (by omega)]
            have := Nat.testBit_lt_two_pow (x := tc T p) (i := q) (Nat.lt_of_lt_of_le (hw.2.1 p hp).2.2.2.1 (Nat.pow_le_pow_right (by decide) (by omega)))
            rw [this]; simp
    · refine frm_trans (frm_trans (frm_trans (frm_I (c := fun a => a = d ∨ (d + 2 ≤ a ∧ a ≤ d + 4)) ?_) (frm_I (c := fun a => a = d ∨ (d + 2 ≤ a ∧ a ≤ d + 4)) ?_) (fun _ h => h) (fun _ h => h)) (frm_I (c := fun a => a = d ∨ (d + 2 ≤ a ∧ a ≤ d + 4)) ?_) (fun _ h => h) (fun _ h => h)) (frm_I (c := fun a => a = d ∨ (d + 2 ≤ a ∧ a ≤ d + 4)) ?_) (fun _ h => h) (fun _ h => h) <;> omega
    · intro j hj
      rw [rI_oth hj, rI_cell (by omega), rI_cell (by omega), rI_cell (by omega)]
