/-! letting in, by the class -/
def gI (v : Nat) : Int32 := if v = FARN then 0 else nI v
def gok (B : Nat) (g : Nat → Nat) : Prop := ∀ j, (0 < g j ∧ g j ≤ B) ∨ g j = FARN
def wl (T : TW) (low : Nat → Nat) (t e : Nat) (g0 g : Nat → Nat) : Nat → Nat := fun j => if guestB T t e j && decide (low j ≤ t) then min (g j) (g0 e + 1) else g j
theorem gI_0 {B : Nat} (hB : B < 2 ^ 30) {g : Nat → Nat} (hg : gok B g) {j : Nat} : gI (g j) = 0 ↔ g j = FARN := by
  unfold gI
  by_cases c : g j = FARN
  · rw [if_pos c]; exact ⟨fun _ => c, fun _ => rfl⟩
  · rw [if_neg c]
    have := (hg j).resolve_right c
    exact ⟨fun z => absurd z (nI_ne0 this.1 (by omega)), fun z => absurd z c⟩
theorem m_welc_l {B : Nat} (hB : B < 10000) {g : Nat → Nat} (hg : gok B g) {v : Nat} (hv : v ≤ B) {x4 : Int32} {k1 : Nat} : ∀ (m n i : Nat) (S : sd_St), i + m = 12 → m < n → (∀ j, j < 12 → S.1 61 j = gI (if j < i ∧ hb x4 j = true then min (g j) (v + 1) else g j)) →
    ∃ S2, f_X2_welcome_l52 59 k1 n (nI v) x4 (nI i) S = some ((), S2) ∧ (∀ j, j < 12 → S2.1 61 j = gI (if hb x4 j = true then min (g j) (v + 1) else g j)) ∧ frm (fun a => a = 61) S S2 := by
  have hal : sd_al (59 + 2) = 12 := by decide
  intro m
  induction m with
  | zero =>
    intro n i S hi hn hS
    obtain ⟨n, rfl⟩ : ∃ n', n = n' + 1 := ⟨n - 1, by omega⟩
    have : i = 12 := by omega
    subst this
    refine ⟨S, ?_, fun j hj => ?_, frm_rfl⟩
    · unfold f_X2_welcome_l52
      rw [if_pos (by decide)]
    · rw [hS j hj]
      by_cases c : hb x4 j = true
      · rw [if_pos ⟨hj, c⟩, if_pos c]
      · rw [if_neg (fun z => c z.2), if_neg c]
  | succ m ih =>
    intro n i S hi hn hS
    obtain ⟨n, rfl⟩ : ∃ n', n = n' + 1 := ⟨n - 1, by omega⟩
    have hi12 : i < 12 := by omega
    have hSi : S.1 61 i = gI (g i) := by
      rw [hS i hi12]
      rw [if_neg (fun z => absurd z.1 (Nat.lt_irrefl _))]
    have hkeep : (hb x4 i = false ∨ (g i ≠ FARN ∧ g i ≤ v + 1)) → ∃ S2, f_X2_welcome_l52 59 k1 n (nI v) x4 (nI i + 1) S = some ((), S2) ∧ (∀ j, j < 12 → S2.1 61 j = gI (if hb x4 j = true then min (g j) (v + 1) else g j)) ∧ frm (fun a => a = 61) S S2 := by
      intro h
      rw [nI_1]
      refine ih n (i + 1) S (by omega) (by omega) (fun j hj => ?_)
      rw [hS j hj]
      by_cases c : j = i
      · subst c
        rw [if_neg (fun z => absurd z.1 (Nat.lt_irrefl _))]
        rcases h with h | h
        · rw [if_neg (fun z => by rw [h] at z; cases z.2)]
        · by_cases c2 : hb x4 j = true
          · rw [if_pos ⟨by omega, c2⟩, Nat.min_eq_left h.2]
          · rw [if_neg (fun z => c2 z.2)]
      · by_cases c2 : j < i ∧ hb x4 j = true
        · rw [if_pos c2, if_pos ⟨by omega, c2.2⟩]
        · rw [if_neg c2, if_neg (fun z => c2 ⟨by omega, z.2⟩)]
    have hset : hb x4 i = true → (g i = FARN ∨ v + 1 < g i) → ∃ S2, sd_st S (59 + 2) (nI i) (nI v + 1) (fun S_5 => f_X2_welcome_l52 59 k1 n (nI v) x4 (nI i + 1) S_5) = some ((), S2) ∧ (∀ j, j < 12 → S2.1 61 j = gI (if hb x4 j = true then min (g j) (v + 1) else g j)) ∧ frm (fun a => a = 61) S S2 := by
      intro h1 h2
      rw [sd_st_ok (by rw [hal]; exact hi12) (sd_al_lt _), nI_1, nI_1]
      have hmin : min (g i) (v + 1) = v + 1 := by
        rcases h2 with h2 | h2
        · rw [h2]; unfold FARN; omega
        · omega
      obtain ⟨S2, y1, y2, y3⟩ := ih n (i + 1) (sd_I S (59 + 2) i (nI (v + 1))) (by omega) (by omega) (fun j hj => by
        by_cases c : j = i
        · subst c
          show (sd_I S 61 j (nI (v + 1))).1 61 j = _
          rw [rI_same]
          rw [if_pos ⟨Nat.lt_succ_self _, h1⟩, hmin]
          unfold gI
          rw [if_neg (by unfold FARN; omega)]
        · show (sd_I S 61 i (nI (v + 1))).1 61 j = _
          rw [rI_oth c, hS j hj]
          by_cases c2 : j < i ∧ hb x4 j = true
          · rw [if_pos c2, if_pos ⟨by omega, c2.2⟩]
          · rw [if_neg c2, if_neg (fun z => c2 ⟨by omega, z.2⟩)])
      exact ⟨S2, y1, y2, frm_trans (frm_I (c := fun a => a = 61) rfl) y3 (fun _ h => h) (fun _ h => h)⟩
    have h87 : ∀ w : Int32, (w = 0 → g i ≠ FARN ∧ g i ≤ v + 1) → (¬ w = 0 → g i = FARN ∨ v + 1 < g i) → ∃ S2, f_X2_welcome_b87 (f_X2_welcome_l52 59 k1 n) 59 k1 (nI v) x4 (nI i) w S = some ((), S2) ∧ (∀ j, j < 12 → S2.1 61 j = gI (if hb x4 j = true then min (g j) (v + 1) else g j)) ∧ frm (fun a => a = 61) S S2 := by
      intro w hw0 hw1
      unfold f_X2_welcome_b87 f_X2_welcome_b114
      rw [sd_cl_ok (m_has x4 (by omega) S)]
      cases c : hb x4 i with
      | false =>
        rw [if_pos (by decide)]
        exact hkeep (Or.inl c)
      | true =>
        rw [if_neg (by decide)]
        by_cases cw : w = 0
        · rw [if_pos cw]
          exact hkeep (Or.inr (hw0 cw))
        · rw [if_neg cw]
          exact hset c (hw1 cw)
    unfold f_X2_welcome_l52 f_X2_welcome_b82
    rw [if_neg (show ¬ (12 : Int32) ≤ nI i from nI_ge (b := 12) hi12 (by decide)), sd_ld_ok (by rw [hal]; exact hi12) (sd_al_lt _), show S.1 (59 + 2) i = gI (g i) from hSi]
    by_cases c : g i = FARN
    · rw [if_pos ((gI_0 (by omega) hg).mpr c)]
      exact h87 1 (fun z => absurd z (by decide)) (fun _ => Or.inl c)
    · have hgi := (hg i).resolve_right c
      rw [if_neg (fun z => c ((gI_0 (by omega) hg).mp z)), sd_ld_ok (by rw [hal]; exact hi12) (sd_al_lt _), show S.1 (59 + 2) i = gI (g i) from hSi, nI_1]
      have hgI : gI (g i) = nI (g i) := if_neg c
      rw [hgI]
      by_cases c2 : g i ≤ v + 1
      · rw [if_pos (nI_le c2 (by omega))]
        exact h87 0 (fun _ => ⟨c, c2⟩) (fun z => absurd rfl z)
      · rw [if_neg (nI_ge (by omega) (by omega))]
        exact h87 1 (fun z => absurd z (by decide)) (fun _ => Or.inr (by omega))
def lowF (F : Int32) (U j : Nat) : Nat := if hb F j then U else 0
theorem m_welcome {T : TW} (hw : wfT T) {S : sd_St} {L : List (Nat × Nat)} (hL : DR 28 S T L) {i t e : Nat} (hi : L[i]? = some (t, e)) (ht : t < 4392) (he : e < tn T) {F : Int32} {U : Nat} (hU : U < 4392) (h0 : S.1 59 0 = F) (h1 : S.1 59 1 = nI U) {B : Nat} (hB : B < 10000) {g0 g : Nat → Nat} (hg0 : gok B g0) (hg : gok B g) (hS0 : ∀ j, j < 12 → S.1 60 j = gI (g0 j)) (hS : ∀ j, j < 12 → S.1 61 j = gI (g j)) :
    ∃ S2, f_X2_welcome 59 28 (nI i) S = some ((), S2) ∧ (∀ j, j < 12 → S2.1 61 j = gI (wl T (lowF F U) t e g0 g j)) ∧ frm (fun a => a = 61) S S2 := by
  have h12 := hw.1
  have hal1 := al1 kd28
  have hil := (List.getElem?_eq_some_iff.mp hi).1
  have hlen := hL.2.1
  obtain ⟨d1, d2, d3⟩ := hL.2.2 i t e hi
  have hal : sd_al (59 + 1) = 12 := by decide
  have h60 : S.1 (59 + 1) e = gI (g0 e) := hS0 e (by omega)
  unfold f_X2_welcome f_X2_welcome_b49
  rw [sd_ld_ok (by omega) (sd_al_lt _), d2, sd_ld_ok (by rw [hal]; omega) (sd_al_lt _), h60]
  by_cases c : g0 e = FARN
  · rw [if_pos ((gI_0 (by omega) hg0).mpr c)]
    refine ⟨S, rfl, fun j hj => ?_, frm_rfl⟩
    rw [hS j hj]
    unfold wl
    have : min (g j) (g0 e + 1) = g j := by
      rcases hg j with h | h
      · rw [c]; unfold FARN; omega
      · rw [c, h]; unfold FARN; omega
    rw [this]
    by_cases c2 : (guestB T t e j && decide (lowF F U j ≤ t)) = true
    · rw [if_pos c2]
    · rw [if_neg c2]
  · have hv := (hg0 e).resolve_right c
    have hgI : gI (g0 e) = nI (g0 e) := if_neg c
    rw [if_neg (fun z => c ((gI_0 (by omega) hg0).mp z)), hgI, sd_ld_ok (by omega) (sd_al_lt _), sd_ld_ok (by omega) (sd_al_lt _), d1, h1, h0, sd_nm_eq]
    have hgo : ∀ x4 : Int32, (∀ j, j < 12 → hb x4 j = (guestB T t e j && decide (lowF F U j ≤ t))) → ∃ S2, f_X2_welcome_l52 59 28 sd_FU (nI (g0 e)) x4 0 S = some ((), S2) ∧ (∀ j, j < 12 → S2.1 61 j = gI (wl T (lowF F U) t e g0 g j)) ∧ frm (fun a => a = 61) S S2 := by
      intro x4 hx
      obtain ⟨S2, y1, y2, y3⟩ := m_welc_l (k1 := 28) (x4 := x4) hB hg hv.2 12 sd_FU 0 S (by omega) (by decide) (fun j hj => by
        rw [if_neg (fun z => absurd z.1 (Nat.not_lt_zero _))]
        exact hS j hj)
      refine ⟨S2, y1, fun j hj => ?_, y3⟩
      rw [y2 j hj, hx j hj]
      rfl
    by_cases cU : U ≤ t
    · rw [if_pos (nI_le cU (by omega))]
      refine hgo _ (fun j hj => ?_)
      have : lowF F U j ≤ t := by
        unfold lowF
        by_cases cf : hb F j = true
        · rw [if_pos cf]; exact cU
        · rw [if_neg cf]; omega
      rw [d3 j, decide_eq_true this, Bool.and_true]
    · rw [if_neg (nI_ge (by omega) (by omega))]
      refine hgo _ (fun j hj => ?_)
      rw [hb_and, hb_xor, hb_m1, d3 j, decide_eq_true (show j < 32 by omega)]
      unfold lowF
      cases cf : hb F j with
      | true =>
        rw [if_pos rfl, decide_eq_false (by omega)]
        rfl
      | false =>
        rw [if_neg (by decide), decide_eq_true (by omega)]
        rfl
theorem gok_wl {T : TW} {low : Nat → Nat} {t e B : Nat} {g0 g : Nat → Nat} (h0 : gok B g0) (hg : gok (B + 1) g) (hB : B < 10000) : gok (B + 1) (wl T low t e g0 g) := by
  intro j
  unfold wl
  by_cases c : (guestB T t e j && decide (low j ≤ t)) = true
  · rw [if_pos c]
    rcases h0 e with h | h
    · left
      rcases hg j with k | k
      · omega
      · rw [k]; unfold FARN; omega
    · rcases hg j with k | k
      · left; rw [h]; unfold FARN; omega
      · right; rw [h, k]; unfold FARN; omega
  · rw [if_neg c]; exact hg j
/-- a day's welcomes come to gD -/
theorem wl_day {T : TW} {low : Nat → Nat} {t : Nat} {g0 : Nat → Nat} {p x : Nat} : ∀ (es : List Nat) (g : Nat → Nat), (es.foldl (fun g e => wl T low t e g0 g) g) p ≤ x ↔ g p ≤ x ∨ ∃ e, e ∈ es ∧ guestB T t e p = true ∧ low p ≤ t ∧ g0 e + 1 ≤ x := by
  intro es
  induction es with
  | nil =>
    intro g
    constructor
    · intro h; exact Or.inl h
    · rintro (h | ⟨e, h, -⟩)
      · exact h
      · cases h
  | cons e es ih =>
    intro g
    rw [List.foldl_cons, ih]
    have key : wl T low t e g0 g p ≤ x ↔ g p ≤ x ∨ (guestB T t e p = true ∧ low p ≤ t ∧ g0 e + 1 ≤ x) := by
      unfold wl
      by_cases c : (guestB T t e p && decide (low p ≤ t)) = true
      · rw [if_pos c]
        rw [Bool.and_eq_true, decide_eq_true_iff] at c
        constructor
        · intro h
          by_cases c2 : g p ≤ x
          · exact Or.inl c2
          · exact Or.inr ⟨c.1, c.2, by omega⟩
        · rintro (h | ⟨-, -, h⟩) <;> omega
      · rw [if_neg c]
        rw [Bool.and_eq_true, decide_eq_true_iff] at c
        constructor
        · intro h; exact Or.inl h
        · rintro (h | ⟨h1, h2, -⟩)
          · exact h
          · exact absurd ⟨h1, h2⟩ c
    rw [key]
    constructor
    · rintro ((h | h) | ⟨e', h1, h2⟩)
      · exact Or.inl h
      · exact Or.inr ⟨e, List.mem_cons_self, h⟩
      · exact Or.inr ⟨e', List.mem_cons_of_mem _ h1, h2⟩
    · rintro (h | ⟨e', h1, h2⟩)
      · exact Or.inl (Or.inl h)
      · rcases List.mem_cons.mp h1 with h | h
        · subst h; exact Or.inl (Or.inr h2)
        · exact Or.inr ⟨e', h, h2⟩
theorem wl_gD {T : TW} {low : Nat → Nat} {t : Nat} {g : Nat → Nat} (hg : ∀ p, g p ≤ FARN) : ((List.range (tn T)).filter (fun p => freeB T p t)).foldl (fun a e => wl T low t e g a) g = gD T low t g := by
  funext p
  have h1 : ∀ x, x < FARN → ((((List.range (tn T)).filter (fun p => freeB T p t)).foldl (fun a e => wl T low t e g a) g) p ≤ x ↔ gD T low t g p ≤ x) := by
    intro x hx
    rw [wl_day, gD_le hx]
    constructor
    · rintro (h | ⟨e, h1, h2⟩)
      · exact Or.inl h
      · obtain ⟨m1, m2⟩ := List.mem_filter.mp h1
        exact Or.inr ⟨e, List.mem_range.mp m1, m2, h2⟩
    · rintro (h | ⟨e, h1, h2, h3⟩)
      · exact Or.inl h
      · exact Or.inr ⟨e, List.mem_filter.mpr ⟨List.mem_range.mpr h1, h2⟩, h3⟩
  have a1 : (((List.range (tn T)).filter (fun p => freeB T p t)).foldl (fun a e => wl T low t e g a) g) p ≤ FARN := wl_day _ _ |>.mpr (Or.inl (hg p))
  have a2 : gD T low t g p ≤ FARN := by
    show min _ _ ≤ FARN
    have := hg p
    omega
  rcases Nat.lt_trichotomy ((((List.range (tn T)).filter (fun p => freeB T p t)).foldl (fun a e => wl T low t e g a) g) p) (gD T low t g p) with c | c | c
  · have := (h1 _ (Nat.lt_of_lt_of_le c a2)).mp (Nat.le_refl _)
    omega
  · exact c
  · have := (h1 _ (Nat.lt_of_lt_of_le c a1)).mpr (Nat.le_refl _)
    omega
