/-! letting in, by the class -/
def gI (v : Nat) : Int32 := if v = FARN then 0 else nI v
def gok (B : Nat) (g : Nat → Nat) : Prop := ∀ j, (0 < g j ∧ g j ≤ B) ∨ g j = FARN
def wl (T : TW) (low : Nat → Nat) (t e : Nat) (g0 g : Nat → Nat) : Nat → Nat := fun j => if guestB T t e j && decide (low j ≤ t) then min (g j) (g0 e + 1) else g j
theorem gI_0 {B : Nat} (hB : B < 2 ^ 30) {g : Nat → Nat} (hg : gok B g) {j : Nat} : gI (g j) = 0 ↔ g j = FARN := by
  unfold gI
  by_cases c : g j = FARN
  · rw [if_pos c]; exact ⟨fun _ => c, fun _ => rfl⟩
  · rw [if_neg c]
    have := (hg j).resolve_right c
    exact ⟨fun z => absurd z (nI_ne0 this.1 (by omega)), fun z => absurd z c⟩
theorem m_welc_l {B : Nat} (hB : B < 10000) {g : Nat → Nat} (hg : gok B g) {v : Nat} (hv : v ≤ B) {x4 : Int32} {k1 : Nat} : ∀ (m n i : Nat) (S : sd_St), i + m = 12 → m < n → (∀ j, j < 12 → S.1 61 j = gI (if j < i ∧ hb x4 j = true then min (g j) (v + 1) else g j)) →
    ∃ S2, f_X2_welcome_l52 59 k1 n (nI v) x4 (nI i) S = some ((), S2) ∧ (∀ j, j < 12 → S2.1 61 j = gI (if hb x4 j = true then min (g j) (v + 1) else g j)) ∧ frm (fun a => a = 61) S S2 := by
  have hal : sd_al (59 + 2) = 12 := by decide
  intro m
  induction m with
  | zero =>
    intro n i S hi hn hS
    obtain ⟨n, rfl⟩ : ∃ n', n = n' + 1 := ⟨n - 1, by omega⟩
    have : i = 12 := by omega
    subst this
    refine ⟨S, ?_, fun j hj => ?_, frm_rfl⟩
    · unfold f_X2_welcome_l52
      rw [if_pos (by decide)]
    · rw [hS j hj]
      by_cases c : hb x4 j = true
      · rw [if_pos ⟨hj, c⟩, if_pos c]
      · rw [if_neg (fun z => c z.2), if_neg c]
  | succ m ih =>
    intro n i S hi hn hS
    obtain ⟨n, rfl⟩ : ∃ n', n = n' + 1 := ⟨n - 1, by omega⟩
    have hi12 : i < 12 := by omega
    have hSi : S.1 61 i = gI (g i) := by
      rw [hS i hi12]
      rw [if_neg (fun z => absurd z.1 (Nat.lt_irrefl _))]
    have hkeep : (hb x4 i = false ∨ (g i ≠ FARN ∧ g i ≤ v + 1)) → ∃ S2, f_X2_welcome_l52 59 k1 n (nI v) x4 (nI i + 1) S = some ((), S2) ∧ (∀ j, j < 12 → S2.1 61 j = gI (if hb x4 j = true then min (g j) (v + 1) else g j)) ∧ frm (fun a => a = 61) S S2 := by
      intro h
      rw [nI_1]
      refine ih n (i + 1) S (by omega) (by omega) (fun j hj => ?_)
      rw [hS j hj]
      by_cases c : j = i
      · subst c
        rw [if_neg (fun z => absurd z.1 (Nat.lt_irrefl _))]
        rcases h with h | h
        · rw [if_neg (fun z => by rw [h] at z; cases z.2)]
        · by_cases c2 : hb x4 j = true
          · rw [if_pos ⟨by omega, c2⟩, Nat.min_eq_left h.2]
          · rw [if_neg (fun z => c2 z.2)]
      · by_cases c2 : j < i ∧ hb x4 j = true
        · rw [if_pos c2, if_pos ⟨by omega, c2.2⟩]
        · rw [if_neg c2, if_neg (fun z => c2 ⟨by omega, z.2⟩)]
    have hset : hb x4 i = true → (g i = FARN ∨ v + 1 < g i) → ∃ S2, sd_st S (59 + 2) (nI i) (nI v + 1) (fun S_5 => f_X2_welcome_l52 59 k1 n (nI v) x4 (nI i + 1) S_5) = some ((), S2) ∧ (∀ j, j < 12 → S2.1 61 j = gI (if hb x4 j = true then min (g j) (v + 1) else g j)) ∧ frm (fun a => a = 61) S S2 := by
      intro h1 h2
      rw [sd_st_ok (by rw [hal]; exact hi12) (sd_al_lt _), nI_1, nI_1]
      have hmin : min (g i) (v + 1) = v + 1 := by
        rcases h2 with h2 | h2
        · rw [h2]; unfold FARN; omega
        · omega
      obtain ⟨S2, y1, y2, y3⟩ := ih n (i + 1) (sd_I S (59 + 2) i (nI (v + 1))) (by omega) (by omega) (fun j hj => by
        by_cases c : j = i
        · subst c
          show (sd_I S 61 j (nI (v + 1))).1 61 j = _
          rw [rI_same]
          rw [if_pos ⟨Nat.lt_succ_self _, h1⟩, hmin]
          unfold gI
          rw [if_neg (by unfold FARN; omega)]
        · show (sd_I S 61 i (nI (v + 1))).1 61 j = _
          rw [rI_oth c, hS j hj]
          by_cases c2 : j < i ∧ hb x4 j = true
          · rw [if_pos c2, if_pos ⟨by omega, c2.2⟩]
          · rw [if_neg c2, if_neg (fun z => c2 ⟨by omega, z.2⟩)])
      exact ⟨S2, y1, y2, frm_trans (frm_I (c := fun a => a = 61) rfl) y3 (fun _ h => h) (fun _ h => h)⟩
    have h87 : ∀ w : Int32, (w = 0 → g i ≠ FARN ∧ g i ≤ v + 1) → (¬ w = 0 → g i = FARN ∨ v + 1 < g i) → ∃ S2, f_X2_welcome_b87 (f_X2_welcome_l52 59 k1 n) 59 k1 (nI v) x4 (nI i) w S = some ((), S2) ∧ (∀ j, j < 12 → S2.1 61 j = gI (if hb x4 j = true then min (g j) (v + 1) else g j)) ∧ frm (fun a => a = 61) S S2 := by
      intro w hw0 hw1
      unfold f_X2_welcome_b87 f_X2_welcome_b114
      rw [sd_cl_ok (m_has x4 (by omega) S)]
      cases c : hb x4 i with
      | false =>
        rw [if_pos (by decide)]
        exact hkeep (Or.inl c)
      | true =>
        rw [if_neg (by decide)]
        by_cases cw : w = 0
        · rw [if_pos cw]
          exact hkeep (Or.inr (hw0 cw))
        · rw [if_neg cw]
          exact hset c (hw1 cw)
    unfold f_X2_welcome_l52 f_X2_welcome_b82
    rw [if_neg (show ¬ (12 : Int32) ≤ nI i from nI_ge (b := 12) hi12 (by decide)), sd_ld_ok (by rw [hal]; exact hi12) (sd_al_lt _), show S.1 (59 + 2) i = gI (g i) from hSi]
    by_cases c : g i = FARN
    · rw [if_pos ((gI_0 (by omega) hg).mpr c)]
      exact h87 1 (fun z => absurd z (by decide)) (fun _ => Or.inl c)
    · have hgi := (hg i).resolve_right c
      rw [if_neg (fun z => c ((gI_0 (by omega) hg).mp z)), sd_ld_ok (by rw [hal]; exact hi12) (sd_al_lt _), show S.1 (59 + 2) i = gI (g i) from hSi, nI_1]
      have hgI : gI (g i) = nI (g i) := if_neg c
      rw [hgI]
      by_cases c2 : g i ≤ v + 1
      · rw [if_pos (nI_le c2 (by omega))]
        exact h87 0 (fun _ => ⟨c, c2⟩) (fun z => absurd rfl z)
      · rw [if_neg (nI_ge (by omega) (by omega))]
        exact h87 1 (fun z => absurd z (by decide)) (fun _ => Or.inr (by omega))
