/-! letting in, by the reference -/
def fsF (P : Nat → Bool) : Nat → Nat → Nat
  | _, 0 => FARN
  | t, m + 1 => if P t then t else fsF P (t + 1) m
theorem fsF_le {P : Nat → Bool} : ∀ (m t : Nat), (fsF P t m = FARN ∧ ∀ s, t ≤ s → s < t + m → P s = false) ∨ (t ≤ fsF P t m ∧ fsF P t m < t + m ∧ P (fsF P t m) = true ∧ ∀ s, t ≤ s → s < fsF P t m → P s = false) := by
  intro m
  induction m with
  | zero => intro t; exact Or.inl ⟨rfl, fun s h1 h2 => by omega⟩
  | succ m ih =>
    intro t
    unfold fsF
    cases c : P t with
    | true =>
      rw [if_pos rfl]
      exact Or.inr ⟨Nat.le_refl _, by omega, c, fun s h1 h2 => by omega⟩
    | false =>
      rw [if_neg (by decide)]
      have hs : ∀ s, t ≤ s → s < t + 1 → P s = false := fun s h1 h2 => by rw [show s = t by omega]; exact c
      rcases ih (t + 1) with ⟨h1, h2⟩ | ⟨h1, h2, h3, h4⟩
      · refine Or.inl ⟨h1, fun s g1 g2 => ?_⟩
        by_cases cs : s < t + 1
        · exact hs s g1 cs
        · exact h2 s (by omega) (by omega)
      · refine Or.inr ⟨by omega, by omega, h3, fun s g1 g2 => ?_⟩
        by_cases cs : s < t + 1
        · exact hs s g1 cs
        · exact h4 s (by omega) g2
theorem fsF_fst {P : Nat → Bool} {t0 l : Nat} (hl : l ≤ 4392) (h0 : ∀ t, t < t0 → P t = false) : fsF P t0 (l - t0) = fstD P l := by
  rcases fsF_le (P := P) (l - t0) t0 with ⟨a1, a2⟩ | ⟨a1, a2, a3, a4⟩
  · rcases fstD_le (P := P) hl with ⟨b1, b2⟩ | ⟨b1, b2, b3⟩
    · rw [a1, b1]
    · exfalso
      by_cases c : fstD P l < t0
      · rw [h0 _ c] at b2; cases b2
      · rw [a2 _ (by omega) (by omega)] at b2; cases b2
  · rcases fstD_le (P := P) hl with ⟨b1, b2⟩ | ⟨b1, b2, b3⟩
    · exfalso
      rw [b2 _ (by omega)] at a3; cases a3
    · rcases Nat.lt_trichotomy (fsF P t0 (l - t0)) (fstD P l) with c | c | c
      · rw [b3 _ c] at a3; cases a3
      · exact c
      · exfalso
        by_cases c2 : fstD P l < t0
        · rw [h0 _ c2] at b2; cases b2
        · rw [a4 _ (by omega) c] at b2; cases b2
