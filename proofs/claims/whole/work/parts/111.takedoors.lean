/-! THE CLASS TAKES ITS DOORS -/
theorem al6 : sd_al 63 = 12 ∧ sd_al 64 = 288 ∧ sd_al 65 = 288 ∧ sd_al 66 = 288 ∧ sd_al 67 = 288 ∧ sd_al 68 = 288 ∧ sd_al 69 = 12 ∧ sd_al 70 = 576 ∧ sd_al 30 = 288 ∧ sd_al 31 = 288 ∧ sd_al 32 = 288 := by decide
def dD (L : List (Nat × Nat)) (i : Nat) : Nat := (L.getD i (0, 0)).1
def dH (L : List (Nat × Nat)) (i : Nat) : Nat := (L.getD i (0, 0)).2
def grS (L : List (Nat × Nat)) (b f e : Nat) : Prop := dH L e = b ∧ f ≤ dD L e
def grE (T : TW) (L : List (Nat × Nat)) (d e : Nat) : Prop := guestB T (dD L d) (dH L d) (dH L e) = true ∧ dD L d < dD L e
def grT (T : TW) (L : List (Nat × Nat)) (g d : Nat) : Prop := guestB T (dD L d) (dH L d) g = true
/-- the last door of h that stands ahead of m, from lo on -/
def lst (L : List (Nat × Nat)) (lo : Nat) : Nat → Nat → Option Nat
  | 0, _ => none
  | m + 1, h => if lo ≤ m ∧ dH L m = h then some m else lst L lo m h
theorem lst_some {L : List (Nat × Nat)} {lo h d : Nat} : ∀ {m : Nat}, lst L lo m h = some d → lo ≤ d ∧ d < m ∧ dH L d = h ∧ ∀ e, d < e → e < m → dH L e ≠ h := by
  intro m
  induction m with
  | zero => intro z; cases z
  | succ m ih =>
    intro z
    unfold lst at z
    by_cases c : lo ≤ m ∧ dH L m = h
    · rw [if_pos c] at z
      cases z
      exact ⟨c.1, Nat.lt_succ_self _, c.2, fun e h1 h2 => absurd h1 (by omega)⟩
    · rw [if_neg c] at z
      obtain ⟨q1, q2, q3, q4⟩ := ih z
      refine ⟨q1, by omega, q3, fun e h1 h2 => ?_⟩
      by_cases ce : e = m
      · rw [ce]; exact fun w => c ⟨by omega, w⟩
      · exact q4 e h1 (by omega)
theorem lst_none {L : List (Nat × Nat)} {lo h : Nat} : ∀ {m : Nat}, lst L lo m h = none → ∀ e, lo ≤ e → e < m → dH L e ≠ h := by
  intro m
  induction m with
  | zero => intro _ e _ h2; omega
  | succ m ih =>
    intro z e h1 h2
    unfold lst at z
    by_cases c : lo ≤ m ∧ dH L m = h
    · rw [if_pos c] at z; cases z
    · rw [if_neg c] at z
      by_cases ce : e = m
      · rw [ce]; exact fun w => c ⟨by omega, w⟩
      · exact ih z e h1 (by omega)
/-- the doors as they should be -/
def DOK (T : TW) (L : List (Nat × Nat)) : Prop := L.length ≤ 288 ∧ (∀ i, i < L.length → dD L i < 4392 ∧ dH L i < 12) ∧ ∀ i j, i < j → j < L.length → dD L i ≤ dD L j
theorem dr_at {S : sd_St} {T : TW} {L : List (Nat × Nat)} (h : DR 28 S T L) {i : Nat} (hi : i < L.length) : S.1 30 i = nI (dD L i) ∧ S.1 31 i = nI (dH L i) ∧ ∀ q, hb (S.1 32 i) q = guestB T (dD L i) (dH L i) q := by
  have e : L[i]? = some (dD L i, dH L i) := by
    unfold dD dH
    rw [List.getElem?_eq_getElem hi, List.getD_eq_getElem?_getD, List.getElem?_eq_getElem hi]
    rfl
  exact h.2.2 i _ _ e
theorem dok_evs {S : sd_St} {T : TW} (hw : wfT T) (h : DR 28 S T (evs T 4392)) : DOK T (evs T 4392) := by
  have hp := evs_lx T 4392
  have hm : ∀ t p, (t, p) ∈ evs T 4392 → (p < tn T ∧ freeB T p t = true) ∧ t < 4392 := fun t p => evs_mem.mp
  generalize evs T 4392 = L at *
  have h12 := hw.1
  refine ⟨?_, fun i hi => ?_, fun i j hij hj => ?_⟩
  · have := h.2.1
    rw [show sd_al (28 + 2) = 288 from by decide] at this
    exact this
  · have e : (dD L i, dH L i) ∈ L := by
      unfold dD dH
      rw [List.getD_eq_getElem?_getD, List.getElem?_eq_getElem hi]
      exact List.getElem_mem hi
    obtain ⟨q1, q2⟩ := hm _ _ e
    exact ⟨q2, by omega⟩
  · have hi : i < L.length := by omega
    have := (List.pairwise_iff_getElem.mp hp) i j hi hj hij
    unfold dD
    rw [List.getD_eq_getElem?_getD, List.getElem?_eq_getElem hi, List.getD_eq_getElem?_getD, List.getElem?_eq_getElem hj]
    show (L[i]).1 ≤ (L[j]).1
    unfold lx at this
    omega
theorem DR_fr' {S S2 : sd_St} {T : TW} {L : List (Nat × Nat)} (h : DR 28 S T L) (h0 : S2.1 28 0 = S.1 28 0) (h1 : S2.1 30 = S.1 30) (h2 : S2.1 31 = S.1 31) (h3 : S2.1 32 = S.1 32) : DR 28 S2 T L := by
  obtain ⟨a1, a2, a3⟩ := h
  refine ⟨by rw [h0]; exact a1, a2, fun i t p hi => ?_⟩
  rw [show (28 + 2) = 30 from rfl, show (28 + 3) = 31 from rfl, show (28 + 4) = 32 from rfl, h1, h2, h3]
  exact a3 i t p hi
theorem m_skip_l {T : TW} {L : List (Nat × Nat)} (hk : DOK T L) {f : Nat} (hf : f < 4392) (y : Int32) : ∀ (m n i : Nat) (S : sd_St), i + m = L.length → m < n → DR 28 S T L → S.1 62 0 = nI i → (∀ j, j < i → dD L j < f) → ∃ lo S2, f_X6_takeDoors_l5 62 28 n (nI f) y S = f_X6_takeDoors_b42 62 28 y S2 ∧ lo ≤ L.length ∧ S2.1 62 0 = nI lo ∧ (∀ j, j < lo → dD L j < f) ∧ (∀ j, lo ≤ j → j < L.length → f ≤ dD L j) ∧ frm (fun a => a = 62) S S2 ∧ ∀ j, j ≠ 0 → S2.1 62 j = S.1 62 j := by
  obtain ⟨k1, k2, k3⟩ := hk
  intro m
  induction m with
  | zero =>
    intro n i S hi hn hL h0 hb
    obtain ⟨n, rfl⟩ : ∃ n', n = n' + 1 := ⟨n - 1, by omega⟩
    refine ⟨i, S, ?_, by omega, h0, hb, fun j h1 h2 => absurd h1 (by omega), frm_rfl, fun _ _ => rfl⟩
    unfold f_X6_takeDoors_l5
    rw [hL.1, h0, if_pos (nI_le (by omega) (by omega))]
  | succ m ih =>
    intro n i S hi hn hL h0 hb
    obtain ⟨n, rfl⟩ : ∃ n', n = n' + 1 := ⟨n - 1, by omega⟩
    obtain ⟨d1, -, -⟩ := dr_at hL (i := i) (by omega)
    have hd := (k2 i (by omega)).1
    unfold f_X6_takeDoors_l5
    simp only [Nat.reduceAdd]
    rw [hL.1, h0, if_neg (nI_ge (by omega) (by omega)), sd_ld_ok (by rw [al6.2.2.2.2.2.2.2.2.1]; omega) (sd_al_lt _), d1]
    by_cases c : f ≤ dD L i
    · rw [if_pos (nI_le c (by omega))]
      refine ⟨i, S, rfl, by omega, h0, hb, fun j h1 h2 => ?_, frm_rfl, fun _ _ => rfl⟩
      by_cases cj : j = i
      · rw [cj]; exact c
      · have := k3 i j (by omega) h2
        omega
    · rw [if_neg (nI_ge (by omega) (by omega)), nI_1, sd_nm_eq]
      obtain ⟨Sa, hSa⟩ : ∃ Sa, Sa = sd_I S 62 0 (nI (i + 1)) := ⟨_, rfl⟩
      rw [← hSa]
      have oa : ∀ a, a ≠ 62 → Sa.1 a = S.1 a := fun a ha => by rw [hSa, rI_cell ha]
      obtain ⟨lo, S2, e1, e2, e3, e4, e5, e6, e7⟩ := ih n (i + 1) Sa (by omega) (by omega) (DR_fr' hL (by rw [oa 28 (by decide)]) (oa 30 (by decide)) (oa 31 (by decide)) (oa 32 (by decide))) (by rw [hSa, rI_same]) (fun j hj => by
        by_cases cj : j = i
        · rw [cj]; omega
        · exact hb j (by omega))
      refine ⟨lo, S2, e1, e2, e3, e4, e5, frm_trans (by rw [hSa]; exact frm_I (c := fun a => a = 62) rfl) e6 (fun _ h => h) (fun _ h => h), fun j hj => ?_⟩
      rw [e7 j hj, hSa, rI_oth hj]
theorem m_lay_l {T : TW} {L : List (Nat × Nat)} (hk : DOK T L) {lo B : Nat} (hB : B < 4392) : ∀ (k n m : Nat) (S : sd_St), m + k = L.length → k < n → lo ≤ m → DR 28 S T L → S.1 62 1 = nI m → (∀ h, h < 12 → S.1 63 h = lkI (lst L lo m h)) → (∀ d, lo ≤ d → d < m → S.1 64 d = lkI (lst L lo d (dH L d)) ∧ S.1 65 d = 0 ∧ dD L d ≤ B) → ∃ hi S2, f_X6_takeDoors_l58 62 28 n (nI B) S = some ((), S2) ∧ m ≤ hi ∧ hi ≤ L.length ∧ S2.1 62 1 = nI hi ∧ (∀ h, h < 12 → S2.1 63 h = lkI (lst L lo hi h)) ∧ (∀ d, lo ≤ d → d < hi → S2.1 64 d = lkI (lst L lo d (dH L d)) ∧ S2.1 65 d = 0 ∧ dD L d ≤ B) ∧ (∀ d, hi ≤ d → d < L.length → B < dD L d) ∧ frm (fun a => 62 ≤ a ∧ a ≤ 65) S S2 ∧ ∀ j, j ≠ 1 → S2.1 62 j = S.1 62 j := by
  have hk0 := hk
  obtain ⟨k1, k2, k3⟩ := hk
  have hal := al6
  intro k
  induction k with
  | zero =>
    intro n m S hm hn hlo hL h1 h63 h64
    obtain ⟨n, rfl⟩ : ∃ n', n = n' + 1 := ⟨n - 1, by omega⟩
    refine ⟨m, S, ?_, Nat.le_refl _, by omega, h1, h63, h64, fun d a b => absurd a (by omega), frm_rfl, fun _ _ => rfl⟩
    unfold f_X6_takeDoors_l58
    rw [hL.1, h1, if_pos (nI_le (by omega) (by omega))]
  | succ k ih =>
    intro n m S hm hn hlo hL h1 h63 h64
    obtain ⟨n, rfl⟩ : ∃ n', n = n' + 1 := ⟨n - 1, by omega⟩
    obtain ⟨d1, d2, -⟩ := dr_at hL (i := m) (by omega)
    obtain ⟨hd, hh⟩ := k2 m (by omega)
    unfold f_X6_takeDoors_l58
    simp only [Nat.reduceAdd]
    rw [hL.1, h1, if_neg (nI_ge (by omega) (by omega)), sd_ld_ok (by rw [hal.2.2.2.2.2.2.2.2.1]; omega) (sd_al_lt _), d1]
    by_cases c : B < dD L m
    · rw [if_pos (nI_lt c (by omega))]
      refine ⟨m, S, rfl, Nat.le_refl _, by omega, h1, h63, h64, fun d a b => ?_, frm_rfl, fun _ _ => rfl⟩
      by_cases cd : d = m
      · rw [cd]; exact c
      · have := k3 m d (by omega) b
        omega
    · rw [if_neg (nI_nlt (by omega) (by omega)), sd_ld_ok (by rw [hal.2.2.2.2.2.2.2.2.2.1]; omega) (sd_al_lt _), d2, sd_ld_ok (by rw [hal.1]; omega) (sd_al_lt _), h63 _ hh, sd_st_ok (by rw [hal.2.1]; omega) (sd_al_lt _)]
      obtain ⟨A1, hA1⟩ : ∃ A, A = sd_I S 64 m (lkI (lst L lo m (dH L m))) := ⟨_, rfl⟩
      have f1 : A1.1 62 1 = nI m := by rw [hA1, rI_cell (by decide)]; exact h1
      rw [← hA1, f1, sd_st_ok (by rw [hal.1]; omega) (sd_al_lt _)]
      obtain ⟨A2, hA2⟩ : ∃ A, A = sd_I A1 63 (dH L m) (nI m) := ⟨_, rfl⟩
      have f2 : A2.1 62 1 = nI m := by rw [hA2, rI_cell (by decide)]; exact f1
      rw [← hA2, f2, sd_st_ok (by rw [hal.2.2.1]; omega) (sd_al_lt _)]
      obtain ⟨A3, hA3⟩ : ∃ A, A = sd_I A2 65 m (vp_nar .boolean (0 : Int32)) := ⟨_, rfl⟩
      have f3 : A3.1 62 1 = nI m := by rw [hA3, rI_cell (by decide)]; exact f2
      rw [← hA3, f3, nI_1, sd_nm_eq]
      obtain ⟨A4, hA4⟩ : ∃ A, A = sd_I A3 62 1 (nI (m + 1)) := ⟨_, rfl⟩
      rw [← hA4]
      have oa : ∀ a, ¬ (62 ≤ a ∧ a ≤ 65) → A4.1 a = S.1 a := fun a ha => by rw [hA4, rI_cell (by omega), hA3, rI_cell (by omega), hA2, rI_cell (by omega), hA1, rI_cell (by omega)]
      have o64 : ∀ d, A4.1 64 d = if d = m then lkI (lst L lo m (dH L m)) else S.1 64 d := by
        intro d
        rw [hA4, rI_cell (by decide), hA3, rI_cell (by decide), hA2, rI_cell (by decide), hA1, rI]
        simp
      have o65 : ∀ d, A4.1 65 d = if d = m then 0 else S.1 65 d := by
        intro d
        rw [hA4, rI_cell (by decide), hA3, rI, hA2, rI_cell (by decide), hA1, rI_cell (by decide)]
        simp
        rfl
      have o63 : ∀ h, A4.1 63 h = if h = dH L m then nI m else S.1 63 h := by
        intro h
        rw [hA4, rI_cell (by decide), hA3, rI_cell (by decide), hA2, rI, hA1, rI_cell (by decide)]
        simp
      obtain ⟨hi, S2, e1, e2, e3, e4, e5, e6, e7, e8, e9⟩ := ih n (m + 1) A4 (by omega) (by omega) (by omega) (DR_fr' hL (by rw [oa 28 (by omega)]) (oa 30 (by omega)) (oa 31 (by omega)) (oa 32 (by omega))) (by rw [hA4, rI_same]) (fun h hh => by
        rw [o63]
        show _ = lkI (if lo ≤ m ∧ dH L m = h then some m else lst L lo m h)
        by_cases ch : h = dH L m
        · rw [if_pos ch, if_pos ⟨hlo, ch.symm⟩]; rfl
        · rw [if_neg ch, if_neg (fun z => ch z.2.symm)]; exact h63 h hh) (fun d a b => by
        rw [o64, o65]
        by_cases cd : d = m
        · rw [if_pos cd, if_pos cd, cd]; exact ⟨rfl, rfl, by omega⟩
        · rw [if_neg cd, if_neg cd]; exact h64 d a (by omega))
      refine ⟨hi, S2, e1, by omega, e3, e4, e5, e6, e7, frm_trans (e := fun a => 62 ≤ a ∧ a ≤ 65) ⟨fun a ha => oa a ha, fun a _ => by rw [hA4, hA3, hA2, hA1]; rfl⟩ e8 (fun _ h => h) (fun _ h => h), fun j hj => ?_⟩
      rw [e9 j hj, hA4, rI_oth hj, hA3, rI_cell (by decide), hA2, rI_cell (by decide), hA1, rI_cell (by decide)]
/-- the doors laid -/
def TKD (T : TW) (L : List (Nat × Nat)) (S : sd_St) (lo hi : Nat) : Prop := DR 28 S T L ∧ S.1 62 0 = nI lo ∧ S.1 62 1 = nI hi ∧ lo ≤ hi ∧ hi ≤ L.length ∧ (∀ h, h < 12 → S.1 63 h = lkI (lst L lo hi h)) ∧ ∀ d, lo ≤ d → d < hi → S.1 64 d = lkI (lst L lo d (dH L d))
theorem m_take {T : TW} {L : List (Nat × Nat)} (hk : DOK T L) {f B : Nat} (hf : f < 4392) (hB : B < 4392) {S : sd_St} (hL : DR 28 S T L) : ∃ lo hi S2, f_X6_takeDoors 62 28 (nI f) (nI B) S = some ((), S2) ∧ TKD T L S2 lo hi ∧ (∀ d, lo ≤ d → d < hi → S2.1 65 d = 0) ∧ (∀ d, d < lo → dD L d < f) ∧ (∀ d, lo ≤ d → d < L.length → f ≤ dD L d) ∧ (∀ d, lo ≤ d → d < hi → dD L d ≤ B) ∧ (∀ d, hi ≤ d → d < L.length → B < dD L d) ∧ frm (fun a => 62 ≤ a ∧ a ≤ 65) S S2 ∧ S2.1 62 2 = S.1 62 2 := by
  have k1 := hk.1
  obtain ⟨A1, hA1⟩ : ∃ A, A = sd_I S 62 0 0 := ⟨_, rfl⟩
  have oa : ∀ a, a ≠ 62 → A1.1 a = S.1 a := fun a ha => by rw [hA1, rI_cell ha]
  obtain ⟨lo, S2, e1, e2, e3, e4, e5, e6, e7⟩ := m_skip_l hk hf (nI B) L.length sd_FU 0 A1 (by omega) (by unfold sd_FU; omega) (DR_fr' hL (by rw [oa 28 (by decide)]) (oa 30 (by decide)) (oa 31 (by decide)) (oa 32 (by decide))) (by rw [hA1, rI_same]; rfl) (fun j hj => absurd hj (Nat.not_lt_zero j))
  obtain ⟨S3, g1, g2, g3⟩ := m_fill2 (k := 63) (by rw [al6.1]; omega) (-1) S2
  obtain ⟨A4, hA4⟩ : ∃ A, A = sd_I S3 62 1 (nI lo) := ⟨_, rfl⟩
  have h30 : S3.1 62 0 = nI lo := by rw [g3.1 62 (by decide)]; exact e3
  have ob : ∀ a, ¬ (62 ≤ a ∧ a ≤ 63) → A4.1 a = S.1 a := fun a ha => by rw [hA4, rI_cell (by omega), g3.1 a (by omega), e6.1 a (by omega), oa a (by omega)]
  have hln : ∀ h, lst L lo lo h = none := by
    intro h
    cases hc : lst L lo lo h with
    | none => rfl
    | some d => have := lst_some hc; omega
  obtain ⟨hi, S5, q1, q2, q3, q4, q5, q6, q7, q8, q9⟩ := m_lay_l hk (lo := lo) hB (L.length - lo) sd_FU lo A4 (by omega) (by unfold sd_FU; omega) (Nat.le_refl _) (DR_fr' hL (by rw [ob 28 (by omega)]) (ob 30 (by omega)) (ob 31 (by omega)) (ob 32 (by omega))) (by rw [hA4, rI_same]) (fun h hh => by
    rw [hA4, rI_cell (by decide), g2 h (by rw [al6.1]; exact hh), hln]; rfl) (fun d a b => absurd a (by omega))
  have fr : frm (fun a => 62 ≤ a ∧ a ≤ 65) S S5 := frm_trans (e := fun a => 62 ≤ a ∧ a ≤ 65) (c := fun a => 62 ≤ a ∧ a ≤ 65) ⟨fun a ha => ob a (by omega), fun a ha => by rw [hA4]; show S3.2 a = _; rw [g3.2 a (by omega), e6.2 a (by omega), hA1]; rfl⟩ q8 (fun _ h => h) (fun _ h => h)
  refine ⟨lo, hi, S5, ?_, ⟨DR_fr' hL (by rw [fr.1 28 (by omega)]) (fr.1 30 (by omega)) (fr.1 31 (by omega)) (fr.1 32 (by omega)), ?_, q4, q2, q3, q5, fun d a b => (q6 d a b).1⟩, fun d a b => (q6 d a b).2.1, e4, e5, fun d a b => (q6 d a b).2.2, q7, fr, ?_⟩
  · unfold f_X6_takeDoors
    rw [sd_nm_eq, ← hA1, e1]
    unfold f_X6_takeDoors_b42
    simp only [Nat.reduceAdd]
    rw [sd_cl_ok g1, h30, sd_nm_eq, ← hA4]
    exact q1
  · rw [q9 0 (by decide), hA4, rI_oth (by decide)]; exact h30
  · rw [q9 2 (by decide), hA4, rI_oth (by decide), g3.1 62 (by decide), e7 2 (by decide), hA1, rI_oth (by decide)]
