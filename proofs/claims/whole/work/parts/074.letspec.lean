/-! LETTING IN: the fewest hands, by two ways of counting -/
theorem pigeon : ∀ (n k : Nat) (f : Nat → Nat), (∀ i, i ≤ k → f i < n) → n ≤ k → ∃ i j, i < j ∧ j ≤ k ∧ f i = f j := by
  intro n
  induction n with
  | zero => intro k f h _; exact absurd (h 0 (Nat.zero_le _)) (Nat.not_lt_zero _)
  | succ n ih =>
    intro k f h hk
    obtain ⟨k, rfl⟩ : ∃ k', k = k' + 1 := ⟨k - 1, by omega⟩
    by_cases hp : ∃ i, i ≤ k ∧ f i = f (k + 1)
    · obtain ⟨i, h1, h2⟩ := hp
      exact ⟨i, k + 1, by omega, Nat.le_refl _, h2⟩
    · have hne : ∀ i, i ≤ k → f i ≠ f (k + 1) := fun i hi z => hp ⟨i, hi, z⟩
      obtain ⟨i, j, h1, h2, h3⟩ := ih k (fun i => if f i = n then f (k + 1) else f i) (fun i hi => by
        have a1 := h i (by omega)
        have a2 := h (k + 1) (Nat.le_refl _)
        have a3 := hne i hi
        by_cases c : f i = n
        · rw [if_pos c]; omega
        · rw [if_neg c]; omega) (by omega)
      have b1 := hne i (by omega)
      have b2 := hne j h2
      by_cases c1 : f i = n
      · by_cases c2 : f j = n
        · exact ⟨i, j, h1, by omega, by omega⟩
        · rw [if_pos c1, if_neg c2] at h3
          exact absurd h3.symm b2
      · by_cases c2 : f j = n
        · rw [if_neg c1, if_pos c2] at h3
          exact absurd h3 b1
        · rw [if_neg c1, if_neg c2] at h3
          exact ⟨i, j, h1, by omega, h3⟩
/-- q may let p in on t, having it since h -/
def letB (T : TW) (b : Nat) (low : Nat → Nat) (h q p t : Nat) : Bool := !(p == b) && (decide (low p ≤ t) && (freeB T q t && (guestB T t q p && (if q = b then decide (h ≤ t) else decide (h < t)))))
/-- the first date up to D, or none -/
def fstD (P : Nat → Bool) : Nat → Nat
  | 0 => FARN
  | l + 1 => if fstD P l = FARN then (if P l then l else FARN) else fstD P l
theorem fstD_le {P : Nat → Bool} : ∀ {l : Nat}, l ≤ 4392 → (fstD P l = FARN ∧ ∀ t, t < l → P t = false) ∨ (fstD P l < l ∧ P (fstD P l) = true ∧ ∀ t, t < fstD P l → P t = false) := by
  intro l
  induction l with
  | zero => intro _; exact Or.inl ⟨rfl, fun t h => by omega⟩
  | succ l ih =>
    intro hl
    unfold fstD
    rcases ih (by omega) with ⟨h1, h2⟩ | ⟨h1, h2, h3⟩
    · rw [if_pos h1]
      cases c : P l with
      | true =>
        rw [if_pos rfl]
        exact Or.inr ⟨by omega, c, h2⟩
      | false =>
        refine Or.inl ⟨by simp, fun t ht => ?_⟩
        by_cases ct : t = l
        · rw [ct]; exact c
        · exact h2 t (by omega)
    · rw [if_neg (by unfold FARN; omega)]
      exact Or.inr ⟨by omega, h2, h3⟩
def minF (n : Nat) (v : Nat → Nat) : Nat := (List.range n).foldl (fun a q => min a (v q)) FARN
theorem minF_succ (n : Nat) (v : Nat → Nat) : minF (n + 1) v = min (minF n v) (v n) := by
  unfold minF
  rw [List.range_succ, List.foldl_append]
  rfl
theorem minF_le {v : Nat → Nat} {t : Nat} (ht : t < FARN) : ∀ n, minF n v ≤ t ↔ ∃ q, q < n ∧ v q ≤ t := by
  intro n
  induction n with
  | zero =>
    constructor
    · intro h
      have h : FARN ≤ t := h
      omega
    · rintro ⟨q, h, -⟩; omega
  | succ n ih =>
    rw [minF_succ]
    constructor
    · intro h
      by_cases c : minF n v ≤ t
      · obtain ⟨q, h1, h2⟩ := ih.mp c
        exact ⟨q, by omega, h2⟩
      · exact ⟨n, by omega, by omega⟩
    · rintro ⟨q, h1, h2⟩
      by_cases c : q = n
      · subst c; omega
      · have := ih.mpr ⟨q, by omega, h2⟩
        omega
theorem minF_far {v : Nat → Nat} : ∀ n, minF n v ≤ FARN := by
  intro n
  induction n with
  | zero => exact Nat.le_refl _
  | succ n ih => rw [minF_succ]; omega
/-- the earliest date with k tellings -/
def Ek (T : TW) (b f D : Nat) (low : Nat → Nat) : Nat → Nat → Nat
  | 0 => fun p => if p = b then f else FARN
  | k + 1 => fun p => minF (tn T) (fun q => fstD (fun t => letB T b low (Ek T b f D low k q) q p t) (D + 1))
theorem Ek_s (T : TW) (b f D : Nat) (low : Nat → Nat) (k p : Nat) : Ek T b f D low (k + 1) p = minF (tn T) (fun q => fstD (fun t => letB T b low (Ek T b f D low k q) q p t) (D + 1)) := rfl
theorem Ek_le {T : TW} {b f D : Nat} {low : Nat → Nat} (hD : D < 4392) {k p t : Nat} (ht : t < FARN) : Ek T b f D low (k + 1) p ≤ t ↔ ∃ q t', q < tn T ∧ t' ≤ t ∧ t' ≤ D ∧ letB T b low (Ek T b f D low k q) q p t' = true := by
  rw [Ek_s, minF_le ht]
  constructor
  · rintro ⟨q, h1, h2⟩
    rcases fstD_le (P := fun t => letB T b low (Ek T b f D low k q) q p t) (show D + 1 ≤ 4392 by omega) with ⟨g1, g2⟩ | ⟨g1, g2, g3⟩
    · rw [g1] at h2; omega
    · exact ⟨q, _, h1, h2, by omega, g2⟩
  · rintro ⟨q, t', h1, h2, h3, h4⟩
    refine ⟨q, h1, ?_⟩
    rcases fstD_le (P := fun t => letB T b low (Ek T b f D low k q) q p t) (show D + 1 ≤ 4392 by omega) with ⟨g1, g2⟩ | ⟨g1, g2, g3⟩
    · have := g2 t' (by omega)
      rw [h4] at this
      cases this
    · apply Classical.byContradiction
      intro z
      have := g3 t' (by omega)
      rw [h4] at this
      cases this
theorem Ek_b {T : TW} {b f D : Nat} {low : Nat → Nat} (hD : D < 4392) {k : Nat} : Ek T b f D low (k + 1) b = FARN := by
  apply Classical.byContradiction
  intro z
  have h1 : Ek T b f D low (k + 1) b ≤ FARN := by rw [Ek_s]; exact minF_far _
  obtain ⟨q, t', -, -, -, h⟩ := (Ek_le hD (k := k) (p := b) (t := Ek T b f D low (k + 1) b) (by omega)).mp (Nat.le_refl _)
  unfold letB at h
  simp at h
theorem let_h {T : TW} {b h q p t : Nat} {low : Nat → Nat} (h1 : letB T b low h q p t = true) : h ≤ t ∧ p ≠ b ∧ low p ≤ t ∧ freeB T q t = true ∧ guestB T t q p = true ∧ (q ≠ b → h < t) := by
  unfold letB at h1
  rw [Bool.and_eq_true, Bool.and_eq_true, Bool.and_eq_true, Bool.and_eq_true] at h1
  obtain ⟨a1, a2, a3, a4, a5⟩ := h1
  have a1 : p ≠ b := by simpa using a1
  have a2 : low p ≤ t := by simpa using a2
  by_cases c : q = b
  · rw [if_pos c] at a5
    exact ⟨by simpa using a5, a1, a2, a3, a4, fun z => absurd c z⟩
  · rw [if_neg c] at a5
    have : h < t := by simpa using a5
    exact ⟨by omega, a1, a2, a3, a4, fun _ => this⟩
theorem let_i {T : TW} {b h q p t : Nat} {low : Nat → Nat} (h1 : h ≤ t) (h2 : p ≠ b) (h3 : low p ≤ t) (h4 : freeB T q t = true) (h5 : guestB T t q p = true) (h6 : q ≠ b → h < t) : letB T b low h q p t = true := by
  unfold letB
  rw [h4, h5]
  have e1 : (p == b) = false := by simpa using h2
  rw [e1, decide_eq_true h3]
  by_cases c : q = b
  · rw [if_pos c, decide_eq_true h1]; rfl
  · rw [if_neg c, decide_eq_true (h6 c)]; rfl
theorem Ek_pred {T : TW} {b f D : Nat} {low : Nat → Nat} (hD : D < 4392) {k p : Nat} (h : Ek T b f D low (k + 1) p < FARN) : ∃ q, q < tn T ∧ letB T b low (Ek T b f D low k q) q p (Ek T b f D low (k + 1) p) = true ∧ Ek T b f D low (k + 1) p ≤ D := by
  obtain ⟨q, t', h1, h2, h3, h4⟩ := (Ek_le hD h).mp (Nat.le_refl _)
  have := (Ek_le hD (show t' < FARN by omega)).mpr ⟨q, t', h1, Nat.le_refl _, h3, h4⟩
  have e : t' = Ek T b f D low (k + 1) p := by omega
  rw [e] at h4 h3
  exact ⟨q, h1, h4, h3⟩
theorem Ek_ge {T : TW} {b f D : Nat} {low : Nat → Nat} (hD : D < 4392) (hf : f < FARN) : ∀ k p, f ≤ Ek T b f D low k p := by
  intro k
  induction k with
  | zero =>
    intro p
    show f ≤ if p = b then f else FARN
    by_cases c : p = b
    · rw [if_pos c]; exact Nat.le_refl _
    · rw [if_neg c]; omega
  | succ k ih =>
    intro p
    by_cases c : Ek T b f D low (k + 1) p < FARN
    · obtain ⟨q, h1, h2, h3⟩ := Ek_pred hD c
      have := ih q
      have := (let_h h2).1
      omega
    · omega
theorem Ek_path {T : TW} {b f D : Nat} {low : Nat → Nat} (hD : D < 4392) : ∀ k p, p < tn T → Ek T b f D low k p < FARN → ∃ g : Nat → Nat, g k = p ∧ (∀ i, i ≤ k → g i < tn T) ∧ ∀ i, i < k → letB T b low (Ek T b f D low i (g i)) (g i) (g (i + 1)) (Ek T b f D low (i + 1) (g (i + 1))) = true ∧ Ek T b f D low (i + 1) (g (i + 1)) ≤ D := by
  intro k
  induction k with
  | zero =>
    intro p hp _
    exact ⟨fun _ => p, rfl, fun i _ => hp, fun i hi => by omega⟩
  | succ k ih =>
    intro p hp h
    obtain ⟨q, h1, h2, h3⟩ := Ek_pred hD h
    have hq := (let_h h2).1
    obtain ⟨g, g1, g2, g3⟩ := ih q h1 (by omega)
    refine ⟨fun i => if i = k + 1 then p else g i, if_pos rfl, fun i hi => ?_, fun i hi => ?_⟩
    · by_cases c : i = k + 1
      · rw [if_pos c]; exact hp
      · rw [if_neg c]; exact g2 i (by omega)
    · rw [if_neg (show ¬ i = k + 1 by omega)]
      by_cases c : i = k
      · subst c
        rw [if_pos rfl, g1]
        exact ⟨h2, h3⟩
      · rw [if_neg (show ¬ i + 1 = k + 1 by omega)]
        exact g3 i (by omega)
theorem Ek_small {T : TW} {b f D : Nat} {low : Nat → Nat} (hD : D < 4392) {p : Nat} (hp : p < tn T) : ∀ M k, k ≤ M → Ek T b f D low k p < FARN → ∃ k', k' < tn T ∧ k' ≤ k ∧ Ek T b f D low k' p < FARN := by
  intro M
  induction M with
  | zero =>
    intro k hk h
    exact ⟨k, by omega, Nat.le_refl _, h⟩
  | succ M ih =>
    intro k hk h
    by_cases c : k < tn T
    · exact ⟨k, c, Nat.le_refl _, h⟩
    · obtain ⟨g, g1, g2, g3⟩ := Ek_path hD k p hp h
      obtain ⟨i, j, h1, h2, h3⟩ := pigeon (tn T) k g g2 (by omega)
      have hmono : ∀ d, i + d ≤ k → Ek T b f D low i (g i) ≤ Ek T b f D low (i + d) (g (i + d)) := by
        intro d
        induction d with
        | zero => intro _; exact Nat.le_refl _
        | succ d ihd =>
          intro hd
          have a1 := ihd (by omega)
          have a2 := (let_h (g3 (i + d) (by omega)).1).1
          rw [show i + (d + 1) = i + d + 1 by omega]
          exact Nat.le_trans a1 a2
      have hsh : ∀ d, j + d ≤ k → Ek T b f D low (i + d) (g (j + d)) ≤ Ek T b f D low (j + d) (g (j + d)) := by
        intro d
        induction d with
        | zero =>
          intro _
          have := hmono (j - i) (by omega)
          rw [show i + (j - i) = j by omega] at this
          show Ek T b f D low i (g j) ≤ Ek T b f D low j (g j)
          rw [← h3]
          rw [← h3] at this
          exact this
        | succ d ihd =>
          intro hd
          have a1 := ihd (by omega)
          obtain ⟨a2, a3⟩ := g3 (j + d) (by omega)
          obtain ⟨b1, b2, b3, b4, b5, b6⟩ := let_h a2
          rw [show i + (d + 1) = i + d + 1 by omega, show j + (d + 1) = j + d + 1 by omega]
          exact (Ek_le hD (show _ < FARN by unfold FARN; omega)).mpr ⟨g (j + d), _, g2 (j + d) (by omega), Nat.le_refl _, a3, let_i (Nat.le_trans a1 b1) b2 b3 b4 b5 (fun z => Nat.lt_of_le_of_lt a1 (b6 z))⟩
      have hfin := hsh (k - j) (by omega)
      rw [show j + (k - j) = k by omega, g1] at hfin
      obtain ⟨k', q1, q2, q3⟩ := ih (i + (k - j)) (by omega) (by omega)
      exact ⟨k', q1, by omega, q3⟩
/-! the class's count, date by date -/
def gD (T : TW) (low : Nat → Nat) (t : Nat) (g : Nat → Nat) : Nat → Nat := fun p => min (g p) (minF (tn T) (fun e => if freeB T e t && (guestB T t e p && decide (low p ≤ t)) then g e + 1 else FARN))
def gS (T : TW) (b f : Nat) (low : Nat → Nat) : Nat → Nat → Nat
  | 0 => fun p => if p = b then 1 else FARN
  | l + 1 => if f ≤ l then gD T low l (gS T b f low l) else gS T b f low l
