/-! letting in, by the reference -/
def fsF (P : Nat → Bool) : Nat → Nat → Nat
  | _, 0 => FARN
  | t, m + 1 => if P t then t else fsF P (t + 1) m
theorem fsF_le {P : Nat → Bool} : ∀ (m t : Nat), (fsF P t m = FARN ∧ ∀ s, t ≤ s → s < t + m → P s = false) ∨ (t ≤ fsF P t m ∧ fsF P t m < t + m ∧ P (fsF P t m) = true ∧ ∀ s, t ≤ s → s < fsF P t m → P s = false) := by
  intro m
  induction m with
  | zero => intro t; exact Or.inl ⟨rfl, fun s h1 h2 => by omega⟩
  | succ m ih =>
    intro t
    unfold fsF
    cases c : P t with
    | true =>
      rw [if_pos rfl]
      exact Or.inr ⟨Nat.le_refl _, by omega, c, fun s h1 h2 => by omega⟩
    | false =>
      rw [if_neg (by decide)]
      have hs : ∀ s, t ≤ s → s < t + 1 → P s = false := fun s h1 h2 => by rw [show s = t by omega]; exact c
      rcases ih (t + 1) with ⟨h1, h2⟩ | ⟨h1, h2, h3, h4⟩
      · refine Or.inl ⟨h1, fun s g1 g2 => ?_⟩
        by_cases cs : s < t + 1
        · exact hs s g1 cs
        · exact h2 s (by omega) (by omega)
      · refine Or.inr ⟨by omega, by omega, h3, fun s g1 g2 => ?_⟩
        by_cases cs : s < t + 1
        · exact hs s g1 cs
        · exact h4 s (by omega) g2
theorem fsF_fst {P : Nat → Bool} {t0 l : Nat} (hl : l ≤ 4392) (h0 : ∀ t, t < t0 → P t = false) : fsF P t0 (l - t0) = fstD P l := by
  rcases fsF_le (P := P) (l - t0) t0 with ⟨a1, a2⟩ | ⟨a1, a2, a3, a4⟩
  · rcases fstD_le (P := P) hl with ⟨b1, b2⟩ | ⟨b1, b2, b3⟩
    · rw [a1, b1]
    · exfalso
      by_cases c : fstD P l < t0
      · rw [h0 _ c] at b2; cases b2
      · rw [a2 _ (by omega) (by omega)] at b2; cases b2
  · rcases fstD_le (P := P) hl with ⟨b1, b2⟩ | ⟨b1, b2, b3⟩
    · exfalso
      rw [b2 _ (by omega)] at a3; cases a3
    · rcases Nat.lt_trichotomy (fsF P t0 (l - t0)) (fstD P l) with c | c | c
      · rw [b3 _ c] at a3; cases a3
      · exact c
      · exfalso
        by_cases c2 : fstD P l < t0
        · rw [h0 _ c2] at b2; cases b2
        · rw [a4 _ (by omega) c] at b2; cases b2
def ePr (T : TW) (b h q p t : Nat) : Bool := freeB T q t && (!goneB T p t && (if q = b then decide (h ≤ t) else decide (h < t)))
theorem n_early_l {S : sd_St} {T : TW} (hw : wfT T) (hT : RTg (S.1 136) T) {b h q p D : Nat} (hq : q < tn T) (hp : p < tn T) (hb : b < tn T) (hh : h < 4392) (hD : D < 4392) : ∀ (m n t : Nat), t + m = D + 1 → m < n → f_X12_earliest_l29 n (nI q) (nI p) (nI D) (nI b) (nI h) (nI t) S = some (nI (fsF (ePr T b h q p) t m), S) := by
  have h12 := hw.1
  intro m
  induction m with
  | zero =>
    intro n t ht hn
    obtain ⟨n, rfl⟩ : ∃ n', n = n' + 1 := ⟨n - 1, by omega⟩
    unfold f_X12_earliest_l29
    rw [if_pos (nI_lt (by omega) (by omega))]
    rfl
  | succ m ih =>
    intro n t ht hn
    obtain ⟨n, rfl⟩ : ∃ n', n = n' + 1 := ⟨n - 1, by omega⟩
    have ih := ih n (t + 1) (by omega) (by omega)
    have htd : t < 4392 := by omega
    have h77 : ∀ w : Bool, (w = (if q = b then decide (h ≤ t) else decide (h < t))) → f_X12_earliest_b77 (f_X12_earliest_l29 n) (nI q) (nI p) (nI D) (nI b) (nI h) (nI t) (bI w) S = some (nI (fsF (ePr T b h q p) t (m + 1)), S) := by
      intro w hwv
      unfold f_X12_earliest_b77 f_X12_earliest_b107 fsF ePr
      rw [← hwv, sd_cl_ok (n_isFree hT hw hq htd), sd_cl_ok (n_isGone hT hw (by omega) htd), nI_1, ih]
      cases w
      · rw [if_pos (by decide), Bool.and_false, Bool.and_false, if_neg (by decide)]
        rfl
      · rw [if_neg (by decide)]
        cases freeB T q t
        · rw [if_pos (by decide), Bool.false_and, if_neg (by decide)]
          rfl
        · rw [if_neg (by decide)]
          cases goneB T p t
          · rw [if_pos (by decide)]
            rfl
          · rw [if_neg (by decide)]
            rfl
    unfold f_X12_earliest_l29
    rw [if_neg (nI_nlt (by omega) (by omega)), if_neg (show ¬ (1000000 : Int32) ≤ nI h from nI_ge (b := 1000000) (by omega) (by decide))]
    by_cases c : q = b
    · rw [if_pos (by rw [c])]
      by_cases c2 : h ≤ t
      · rw [if_neg (nI_nlt c2 (by omega))]
        exact h77 true (by rw [if_pos c, decide_eq_true c2])
      · rw [if_pos (nI_lt (by omega) (by omega))]
        exact h77 false (by rw [if_pos c, decide_eq_false c2])
    · rw [if_neg (fun z => c (nI_inj (by omega) (by omega) z))]
      by_cases c2 : h < t
      · rw [if_neg (nI_ge (by omega) (by omega))]
        exact h77 true (by rw [if_neg c, decide_eq_true c2])
      · rw [if_pos (nI_le (by omega) (by omega))]
        exact h77 false (by rw [if_neg c, decide_eq_false c2])
theorem fsF_c {P Q : Nat → Bool} : ∀ (m t : Nat), (∀ s, t ≤ s → P s = Q s) → fsF P t m = fsF Q t m := by
  intro m
  induction m with
  | zero => intro t _; rfl
  | succ m ih =>
    intro t h
    unfold fsF
    rw [h t (Nat.le_refl _), ih (t + 1) (fun s hs => h s (by omega))]
theorem ePr_lt {T : TW} {b h q p t : Nat} (ht : t < h) : ePr T b h q p t = false := by
  unfold ePr
  by_cases c : q = b
  · rw [if_pos c, decide_eq_false (by omega), Bool.and_false, Bool.and_false]
  · rw [if_neg c, decide_eq_false (by omega), Bool.and_false, Bool.and_false]
theorem al142 : sd_al 142 = 144 := by decide
theorem ix12 (k q : Nat) : (12 : Int32) * nI k + nI q = nI (12 * k + q) := by
  rw [show (12 : Int32) = nI 12 from rfl, nI_mul, nI_add]
theorem n_earliest {S : sd_St} {T : TW} (hw : wfT T) (hT : RTg (S.1 136) T) {b h q p D k lo : Nat} (hq : q < tn T) (hp : p < tn T) (hb : b < tn T) (hh : h = FARN ∨ h < 4392) (hD : D < 4392) (hk : k < 12) (hlo : lo < 4392) (hS : S.1 142 (12 * k + q) = nI h) : f_X12_earliest (nI k) (nI q) (nI p) (nI lo) (nI D) (nI b) S = some (nI (fstD (fun t => decide (lo ≤ t) && ePr T b h q p t) (D + 1)), S) := by
  have h12 := hw.1
  have hv : h < 2 ^ 30 := by
    rcases hh with g | g
    · rw [g]; decide
    · omega
  have hlong : ∀ t0 : Nat, t0 = max h lo → f_X12_earliest_b27 (nI q) (nI p) (nI D) (nI b) (nI h) (nI t0) S = some (nI (fstD (fun t => decide (lo ≤ t) && ePr T b h q p t) (D + 1)), S) := by
    intro t0 ht0
    have hz : ∀ t, t < t0 → (decide (lo ≤ t) && ePr T b h q p t) = false := by
      intro t ht
      by_cases c : t < h
      · rw [ePr_lt c, Bool.and_false]
      · rw [decide_eq_false (by omega), Bool.false_and]
    unfold f_X12_earliest_b27
    by_cases c : t0 ≤ D + 1
    · have hh2 : h < 4392 + 1 := by omega
      have hh3 : h < 4392 ∨ D + 1 = 4392 ∧ h = 4392 := by omega
      have hh4 : h < 4392 := by
        rcases hh with g | g
        · unfold FARN at g; omega
        · exact g
      rw [n_early_l hw hT hq hp hb hh4 hD (D + 1 - t0) sd_FU t0 (by omega) (by unfold sd_FU; omega), ← fsF_fst (t0 := t0) (by omega) hz]
      rw [fsF_c (Q := fun t => decide (lo ≤ t) && ePr T b h q p t) _ _ (fun s hs => by rw [decide_eq_true (show lo ≤ s by omega), Bool.true_and])]
    · show f_X12_earliest_l29 (19999 + 1) _ _ _ _ _ _ _ = _
      unfold f_X12_earliest_l29
      rw [if_pos (nI_lt (by omega) (by omega))]
      have hf : fstD (fun t => decide (lo ≤ t) && ePr T b h q p t) (D + 1) = FARN := by
        rcases fstD_le (P := fun t => decide (lo ≤ t) && ePr T b h q p t) (show D + 1 ≤ 4392 by omega) with ⟨g1, -⟩ | ⟨g1, g2, -⟩
        · exact g1
        · rw [hz _ (by omega)] at g2
          cases g2
      rw [hf]
      rfl
  unfold f_X12_earliest
  rw [ix12, sd_ld_ok (by rw [al142]; omega) (sd_al_lt _), hS]
  by_cases c : lo ≤ h
  · rw [if_pos (nI_le c (by omega))]
    exact hlong h (by omega)
  · rw [if_neg (nI_ge (by omega) (by omega))]
    exact hlong lo (by omega)
