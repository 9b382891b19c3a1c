/-! LETTING IN: the fewest hands, by two ways of counting -/
theorem pigeon : ∀ (n k : Nat) (f : Nat → Nat), (∀ i, i ≤ k → f i < n) → n ≤ k → ∃ i j, i < j ∧ j ≤ k ∧ f i = f j := by
  intro n
  induction n with
  | zero => intro k f h _; exact absurd (h 0 (Nat.zero_le _)) (Nat.not_lt_zero _)
  | succ n ih =>
    intro k f h hk
    obtain ⟨k, rfl⟩ : ∃ k', k = k' + 1 := ⟨k - 1, by omega⟩
    by_cases hp : ∃ i, i ≤ k ∧ f i = f (k + 1)
    · obtain ⟨i, h1, h2⟩ := hp
      exact ⟨i, k + 1, by omega, Nat.le_refl _, h2⟩
    · have hne : ∀ i, i ≤ k → f i ≠ f (k + 1) := fun i hi z => hp ⟨i, hi, z⟩
      obtain ⟨i, j, h1, h2, h3⟩ := ih k (fun i => if f i = n then f (k + 1) else f i) (fun i hi => by
        have a1 := h i (by omega)
        have a2 := h (k + 1) (Nat.le_refl _)
        have a3 := hne i hi
        by_cases c : f i = n
        · rw [if_pos c]; omega
        · rw [if_neg c]; omega) (by omega)
      have b1 := hne i (by omega)
      have b2 := hne j h2
      by_cases c1 : f i = n
      · by_cases c2 : f j = n
        · exact ⟨i, j, h1, by omega, by omega⟩
        · rw [if_pos c1, if_neg c2] at h3
          exact absurd h3.symm b2
      · by_cases c2 : f j = n
        · rw [if_neg c1, if_pos c2] at h3
          exact absurd h3 b1
        · rw [if_neg c1, if_neg c2] at h3
          exact ⟨i, j, h1, by omega, h3⟩
/-- q may let p in on t, having it since h -/
def letB (T : TW) (b : Nat) (low : Nat → Nat) (h q p t : Nat) : Bool := !(p == b) && (decide (low p ≤ t) && (freeB T q t && (guestB T t q p && (if q = b then decide (h ≤ t) else decide (h < t)))))
/-- the first date up to D, or none -/
def fstD (P : Nat → Bool) : Nat → Nat
  | 0 => FARN
  | l + 1 => if fstD P l = FARN then (if P l then l else FARN) else fstD P l
theorem fstD_le {P : Nat → Bool} : ∀ {l : Nat}, l ≤ 4392 → (fstD P l = FARN ∧ ∀ t, t < l → P t = false) ∨ (fstD P l < l ∧ P (fstD P l) = true ∧ ∀ t, t < fstD P l → P t = false) := by
  intro l
  induction l with
  | zero => intro _; exact Or.inl ⟨rfl, fun t h => by omega⟩
  | succ l ih =>
    intro hl
    unfold fstD
    rcases ih (by omega) with ⟨h1, h2⟩ | ⟨h1, h2, h3⟩
    · rw [if_pos h1]
      cases c : P l with
      | true =>
        rw [if_pos rfl]
        exact Or.inr ⟨by omega, c, h2⟩
      | false =>
        refine Or.inl ⟨by simp, fun t ht => ?_⟩
        by_cases ct : t = l
        · rw [ct]; exact c
        · exact h2 t (by omega)
    · rw [if_neg (by unfold FARN; omega)]
      exact Or.inr ⟨by omega, h2, h3⟩
def minF (n : Nat) (v : Nat → Nat) : Nat := (List.range n).foldl (fun a q => min a (v q)) FARN
theorem minF_succ (n : Nat) (v : Nat → Nat) : minF (n + 1) v = min (minF n v) (v n) := by
  unfold minF
  rw [List.range_succ, List.foldl_append]
  rfl
theorem minF_le {v : Nat → Nat} {t : Nat} (ht : t < FARN) : ∀ n, minF n v ≤ t ↔ ∃ q, q < n ∧ v q ≤ t := by
  intro n
  induction n with
  | zero =>
    constructor
    · intro h
      have h : FARN ≤ t := h
      omega
    · rintro ⟨q, h, -⟩; omega
  | succ n ih =>
    rw [minF_succ]
    constructor
    · intro h
      by_cases c : minF n v ≤ t
      · obtain ⟨q, h1, h2⟩ := ih.mp c
        exact ⟨q, by omega, h2⟩
      · exact ⟨n, by omega, by omega⟩
    · rintro ⟨q, h1, h2⟩
      by_cases c : q = n
      · subst c; omega
      · have := ih.mpr ⟨q, by omega, h2⟩
        omega
theorem minF_far {v : Nat → Nat} : ∀ n, minF n v ≤ FARN := by
  intro n
  induction n with
  | zero => exact Nat.le_refl _
  | succ n ih => rw [minF_succ]; omega
/-- the earliest date with k tellings -/
def Ek (T : TW) (b f D : Nat) (low : Nat → Nat) : Nat → Nat → Nat
  | 0 => fun p => if p = b then f else FARN
  | k + 1 => fun p => minF (tn T) (fun q => fstD (fun t => letB T b low (Ek T b f D low k q) q p t) (D + 1))
theorem Ek_s (T : TW) (b f D : Nat) (low : Nat → Nat) (k p : Nat) : Ek T b f D low (k + 1) p = minF (tn T) (fun q => fstD (fun t => letB T b low (Ek T b f D low k q) q p t) (D + 1)) := rfl
theorem Ek_le {T : TW} {b f D : Nat} {low : Nat → Nat} (hD : D < 4392) {k p t : Nat} (ht : t < FARN) : Ek T b f D low (k + 1) p ≤ t ↔ ∃ q t', q < tn T ∧ t' ≤ t ∧ t' ≤ D ∧ letB T b low (Ek T b f D low k q) q p t' = true := by
  rw [Ek_s, minF_le ht]
  constructor
  · rintro ⟨q, h1, h2⟩
    rcases fstD_le (P := fun t => letB T b low (Ek T b f D low k q) q p t) (show D + 1 ≤ 4392 by omega) with ⟨g1, g2⟩ | ⟨g1, g2, g3⟩
    · rw [g1] at h2; omega
    · exact ⟨q, _, h1, h2, by omega, g2⟩
  · rintro ⟨q, t', h1, h2, h3, h4⟩
    refine ⟨q, h1, ?_⟩
    rcases fstD_le (P := fun t => letB T b low (Ek T b f D low k q) q p t) (show D + 1 ≤ 4392 by omega) with ⟨g1, g2⟩ | ⟨g1, g2, g3⟩
    · have := g2 t' (by omega)
      rw [h4] at this
      cases this
    · apply Classical.byContradiction
      intro z
      have := g3 t' (by omega)
      rw [h4] at this
      cases this
theorem Ek_b {T : TW} {b f D : Nat} {low : Nat → Nat} (hD : D < 4392) {k : Nat} : Ek T b f D low (k + 1) b = FARN := by
  apply Classical.byContradiction
  intro z
  have h1 : Ek T b f D low (k + 1) b ≤ FARN := by rw [Ek_s]; exact minF_far _
  obtain ⟨q, t', -, -, -, h⟩ := (Ek_le hD (k := k) (p := b) (t := Ek T b f D low (k + 1) b) (by omega)).mp (Nat.le_refl _)
  unfold letB at h
  simp at h
theorem let_h {T : TW} {b h q p t : Nat} {low : Nat → Nat} (h1 : letB T b low h q p t = true) : h ≤ t ∧ p ≠ b ∧ low p ≤ t ∧ freeB T q t = true ∧ guestB T t q p = true ∧ (q ≠ b → h < t) := by
  unfold letB at h1
  rw [Bool.and_eq_true, Bool.and_eq_true, Bool.and_eq_true, Bool.and_eq_true] at h1
  obtain ⟨a1, a2, a3, a4, a5⟩ := h1
  have a1 : p ≠ b := by simpa using a1
  have a2 : low p ≤ t := by simpa using a2
  by_cases c : q = b
  · rw [if_pos c] at a5
    exact ⟨by simpa using a5, a1, a2, a3, a4, fun z => absurd c z⟩
  · rw [if_neg c] at a5
    have : h < t := by simpa using a5
    exact ⟨by omega, a1, a2, a3, a4, fun _ => this⟩
theorem let_i {T : TW} {b h q p t : Nat} {low : Nat → Nat} (h1 : h ≤ t) (h2 : p ≠ b) (h3 : low p ≤ t) (h4 : freeB T q t = true) (h5 : guestB T t q p = true) (h6 : q ≠ b → h < t) : letB T b low h q p t = true := by
  unfold letB
  rw [h4, h5]
  have e1 : (p == b) = false := by simpa using h2
  rw [e1, decide_eq_true h3]
  by_cases c : q = b
  · rw [if_pos c, decide_eq_true h1]; rfl
  · rw [if_neg c, decide_eq_true (h6 c)]; rfl
theorem Ek_pred {T : TW} {b f D : Nat} {low : Nat → Nat} (hD : D < 4392) {k p : Nat} (h : Ek T b f D low (k + 1) p < FARN) : ∃ q, q < tn T ∧ letB T b low (Ek T b f D low k q) q p (Ek T b f D low (k + 1) p) = true ∧ Ek T b f D low (k + 1) p ≤ D := by
  obtain ⟨q, t', h1, h2, h3, h4⟩ := (Ek_le hD h).mp (Nat.le_refl _)
  have := (Ek_le hD (show t' < FARN by omega)).mpr ⟨q, t', h1, Nat.le_refl _, h3, h4⟩
  have e : t' = Ek T b f D low (k + 1) p := by omega
  rw [e] at h4 h3
  exact ⟨q, h1, h4, h3⟩
theorem Ek_ge {T : TW} {b f D : Nat} {low : Nat → Nat} (hD : D < 4392) (hf : f < FARN) : ∀ k p, f ≤ Ek T b f D low k p := by
  intro k
  induction k with
  | zero =>
    intro p
    show f ≤ if p = b then f else FARN
    by_cases c : p = b
    · rw [if_pos c]; exact Nat.le_refl _
    · rw [if_neg c]; omega
  | succ k ih =>
    intro p
    by_cases c : Ek T b f D low (k + 1) p < FARN
    · obtain ⟨q, h1, h2, h3⟩ := Ek_pred hD c
      have := ih q
      have := (let_h h2).1
      omega
    · omega
theorem Ek_path {T : TW} {b f D : Nat} {low : Nat → Nat} (hD : D < 4392) : ∀ k p, p < tn T → Ek T b f D low k p < FARN → ∃ g : Nat → Nat, g k = p ∧ (∀ i, i ≤ k → g i < tn T) ∧ ∀ i, i < k → letB T b low (Ek T b f D low i (g i)) (g i) (g (i + 1)) (Ek T b f D low (i + 1) (g (i + 1))) = true ∧ Ek T b f D low (i + 1) (g (i + 1)) ≤ D := by
  intro k
  induction k with
  | zero =>
    intro p hp _
    exact ⟨fun _ => p, rfl, fun i _ => hp, fun i hi => by omega⟩
  | succ k ih =>
    intro p hp h
    obtain ⟨q, h1, h2, h3⟩ := Ek_pred hD h
    have hq := (let_h h2).1
    obtain ⟨g, g1, g2, g3⟩ := ih q h1 (by omega)
    refine ⟨fun i => if i = k + 1 then p else g i, if_pos rfl, fun i hi => ?_, fun i hi => ?_⟩
    · dsimp only
      by_cases c : i = k + 1
      · rw [if_pos c]; exact hp
      · rw [if_neg c]; exact g2 i (by omega)
    · dsimp only
      rw [if_neg (show ¬ i = k + 1 by omega)]
      by_cases c : i = k
      · subst c
        rw [if_pos rfl, g1]
        exact ⟨h2, h3⟩
      · rw [if_neg (show ¬ i + 1 = k + 1 by omega)]
        exact g3 i (by omega)
theorem Ek_small {T : TW} {b f D : Nat} {low : Nat → Nat} (hD : D < 4392) {p : Nat} (hp : p < tn T) : ∀ M k, k ≤ M → Ek T b f D low k p < FARN → ∃ k', k' < tn T ∧ k' ≤ k ∧ Ek T b f D low k' p < FARN := by
  intro M
  induction M with
  | zero =>
    intro k hk h
    exact ⟨k, by omega, Nat.le_refl _, h⟩
  | succ M ih =>
    intro k hk h
    by_cases c : k < tn T
    · exact ⟨k, c, Nat.le_refl _, h⟩
    · obtain ⟨g, g1, g2, g3⟩ := Ek_path hD k p hp h
      obtain ⟨i, j, h1, h2, h3⟩ := pigeon (tn T) k g g2 (by omega)
      have hmono : ∀ d, i + d ≤ k → Ek T b f D low i (g i) ≤ Ek T b f D low (i + d) (g (i + d)) := by
        intro d
        induction d with
        | zero => intro _; exact Nat.le_refl _
        | succ d ihd =>
          intro hd
          have a1 := ihd (by omega)
          have a2 := (let_h (g3 (i + d) (by omega)).1).1
          rw [show i + (d + 1) = i + d + 1 by omega]
          exact Nat.le_trans a1 a2
      have hsh : ∀ d, j + d ≤ k → Ek T b f D low (i + d) (g (j + d)) ≤ Ek T b f D low (j + d) (g (j + d)) := by
        intro d
        induction d with
        | zero =>
          intro _
          have := hmono (j - i) (by omega)
          rw [show i + (j - i) = j by omega] at this
          show Ek T b f D low i (g j) ≤ Ek T b f D low j (g j)
          rw [← h3]
          rw [← h3] at this
          exact this
        | succ d ihd =>
          intro hd
          have a1 := ihd (by omega)
          obtain ⟨a2, a3⟩ := g3 (j + d) (by omega)
          obtain ⟨b1, b2, b3, b4, b5, b6⟩ := let_h a2
          rw [show i + (d + 1) = i + d + 1 by omega, show j + (d + 1) = j + d + 1 by omega]
          exact (Ek_le hD (show _ < FARN by unfold FARN; omega)).mpr ⟨g (j + d), _, g2 (j + d) (by omega), Nat.le_refl _, a3, let_i (Nat.le_trans a1 b1) b2 b3 b4 b5 (fun z => Nat.lt_of_le_of_lt a1 (b6 z))⟩
      have hfin := hsh (k - j) (by omega)
      rw [show j + (k - j) = k by omega, g1] at hfin
      obtain ⟨k', q1, q2, q3⟩ := ih (i + (k - j)) (by omega) (by omega)
      exact ⟨k', q1, by omega, q3⟩
/-! the class's count, date by date -/
def gD (T : TW) (low : Nat → Nat) (t : Nat) (g : Nat → Nat) : Nat → Nat := fun p => min (g p) (minF (tn T) (fun e => if freeB T e t && (guestB T t e p && decide (low p ≤ t)) then g e + 1 else FARN))
def gS (T : TW) (b f : Nat) (low : Nat → Nat) : Nat → Nat → Nat
  | 0 => fun p => if p = b then 1 else FARN
  | l + 1 => if f ≤ l then gD T low l (gS T b f low l) else gS T b f low l
theorem gS_s (T : TW) (b f : Nat) (low : Nat → Nat) (l : Nat) : gS T b f low (l + 1) = if f ≤ l then gD T low l (gS T b f low l) else gS T b f low l := rfl
theorem gD_le {T : TW} {low : Nat → Nat} {t : Nat} {g : Nat → Nat} {p x : Nat} (hx : x < FARN) : gD T low t g p ≤ x ↔ g p ≤ x ∨ ∃ e, e < tn T ∧ freeB T e t = true ∧ guestB T t e p = true ∧ low p ≤ t ∧ g e + 1 ≤ x := by
  unfold gD
  have key : ∀ e, (if freeB T e t && (guestB T t e p && decide (low p ≤ t)) then g e + 1 else FARN) ≤ x ↔ freeB T e t = true ∧ guestB T t e p = true ∧ low p ≤ t ∧ g e + 1 ≤ x := by
    intro e
    by_cases c : (freeB T e t && (guestB T t e p && decide (low p ≤ t))) = true
    · rw [if_pos c]
      rw [Bool.and_eq_true, Bool.and_eq_true, decide_eq_true_iff] at c
      exact ⟨fun h => ⟨c.1, c.2.1, c.2.2, h⟩, fun h => h.2.2.2⟩
    · rw [if_neg c]
      rw [Bool.and_eq_true, Bool.and_eq_true, decide_eq_true_iff] at c
      exact ⟨fun h => by omega, fun h => absurd ⟨h.1, h.2.1, h.2.2.1⟩ c⟩
  constructor
  · intro h
    by_cases c : g p ≤ x
    · exact Or.inl c
    · have : minF (tn T) (fun e => if freeB T e t && (guestB T t e p && decide (low p ≤ t)) then g e + 1 else FARN) ≤ x := by omega
      obtain ⟨e, h1, h2⟩ := (minF_le hx _).mp this
      exact Or.inr ⟨e, h1, (key e).mp h2⟩
  · rintro (h | ⟨e, h1, h2⟩)
    · omega
    · have := (minF_le (v := fun e => if freeB T e t && (guestB T t e p && decide (low p ≤ t)) then g e + 1 else FARN) hx (tn T)).mpr ⟨e, h1, (key e).mpr h2⟩
      omega
theorem gS_E {T : TW} {b f D : Nat} {low : Nat → Nat} (hD : D < 4392) (hf : f < FARN) (hb : b < tn T) : ∀ l, l ≤ D + 1 → gS T b f low l b = 1 ∧ (∀ p, gS T b f low l p ≤ FARN) ∧ ∀ p, p ≠ b → ∀ j, j + 1 < FARN → (gS T b f low l p ≤ j + 1 ↔ ∃ k, k ≤ j ∧ Ek T b f D low k p < l) := by
  intro l
  induction l with
  | zero =>
    intro _
    refine ⟨if_pos rfl, fun p => ?_, fun p hp j hj => ?_⟩
    · show (if p = b then 1 else FARN) ≤ FARN
      by_cases c : p = b
      · rw [if_pos c]; decide
      · rw [if_neg c]; exact Nat.le_refl _
    · show (if p = b then 1 else FARN) ≤ j + 1 ↔ _
      rw [if_neg hp]
      constructor
      · intro h; omega
      · rintro ⟨k, -, h⟩; omega
  | succ l ih =>
    intro hl
    obtain ⟨i1, i2, i3⟩ := ih (by omega)
    rw [gS_s]
    by_cases c : f ≤ l
    · rw [if_pos c]
      refine ⟨?_, fun p => ?_, fun p hp j hj => ?_⟩
      · have h1 : gD T low l (gS T b f low l) b ≤ 1 := (gD_le (by decide)).mpr (Or.inl (by omega))
        have h2 : ¬ gD T low l (gS T b f low l) b ≤ 0 := fun z => by
          rcases (gD_le (by decide)).mp z with h | ⟨e, -, -, -, -, h⟩
          · omega
          · omega
        omega
      · show min _ _ ≤ FARN
        have := i2 p
        omega
      · rw [gD_le hj]
        constructor
        · rintro (h | ⟨e, h1, h2, h3, h4, h5⟩)
          · obtain ⟨k, k1, k2⟩ := (i3 p hp j hj).mp h
            exact ⟨k, k1, by omega⟩
          · by_cases ce : e = b
            · rw [ce, i1] at h5
              have e0 : Ek T b f D low 0 b = f := if_pos rfl
              have := (Ek_le (f := f) (low := low) (k := 0) (p := p) (t := l) hD (by unfold FARN; omega)).mpr ⟨b, l, hb, Nat.le_refl _, by omega, let_i (by rw [e0]; exact c) hp h4 (ce ▸ h2) (ce ▸ h3) (fun z => absurd rfl z)⟩
              exact ⟨0 + 1, by omega, by omega⟩
            · cases j with
              | zero =>
                obtain ⟨k, k1, k2⟩ := (i3 e ce 0 hj).mp (by omega)
                have : k = 0 := by omega
                subst this
                have e0 : Ek T b f D low 0 e = FARN := if_neg ce
                rw [e0] at k2
                unfold FARN at k2
                omega
              | succ j =>
                obtain ⟨k, k1, k2⟩ := (i3 e ce j (by omega)).mp (by omega)
                have := (Ek_le (f := f) (low := low) (k := k) (p := p) (t := l) hD (by unfold FARN; omega)).mpr ⟨e, l, h1, Nat.le_refl _, by omega, let_i (by omega) hp h4 h2 h3 (fun _ => k2)⟩
                exact ⟨k + 1, by omega, by omega⟩
        · rintro ⟨k, k1, k2⟩
          by_cases cl : Ek T b f D low k p < l
          · exact Or.inl ((i3 p hp j hj).mpr ⟨k, k1, cl⟩)
          · cases k with
            | zero =>
              have e0 : Ek T b f D low 0 p = FARN := if_neg hp
              rw [e0] at k2
              unfold FARN at k2
              omega
            | succ k =>
              have hE : Ek T b f D low (k + 1) p = l := by omega
              obtain ⟨q, q1, q2, q3⟩ := Ek_pred (k := k) (p := p) hD (by rw [hE]; unfold FARN; omega)
              rw [hE] at q2
              obtain ⟨b1, b2, b3, b4, b5, b6⟩ := let_h q2
              right
              refine ⟨q, q1, b4, b5, b3, ?_⟩
              by_cases cq : q = b
              · rw [cq, i1]; omega
              · have := (i3 q cq k (by omega)).mpr ⟨k, Nat.le_refl _, b6 cq⟩
                omega
    · rw [if_neg c]
      refine ⟨i1, i2, fun p hp j hj => ?_⟩
      rw [i3 p hp j hj]
      constructor
      · rintro ⟨k, k1, k2⟩; exact ⟨k, k1, by omega⟩
      · rintro ⟨k, k1, k2⟩
        have := Ek_ge (T := T) (b := b) (low := low) hD hf k p
        omega
/-- what the two counts come to -/
theorem gS_fin {T : TW} {b f D : Nat} {low : Nat → Nat} (hw : wfT T) (hD : D < 4392) (hf : f ≤ D) (hb : b < tn T) {p : Nat} (hp : p < tn T) : (gS T b f low (D + 1) p = FARN ∧ ∀ k, ¬ Ek T b f D low k p < FARN) ∨ (0 < gS T b f low (D + 1) p ∧ gS T b f low (D + 1) p ≤ tn T ∧ Ek T b f D low (gS T b f low (D + 1) p - 1) p < FARN ∧ ∀ k, k < gS T b f low (D + 1) p - 1 → ¬ Ek T b f D low k p < FARN) := by
  have h12 := hw.1
  have hf2 : f < FARN := by unfold FARN; omega
  obtain ⟨i1, i2, i3⟩ := gS_E (low := low) hD hf2 hb (D + 1) (Nat.le_refl _)
  by_cases cb : p = b
  · right
    rw [cb, i1]
    have e0 : Ek T b f D low 0 b = f := if_pos rfl
    exact ⟨by omega, by omega, by rw [show 1 - 1 = 0 from rfl, e0]; exact hf2, fun k hk => by omega⟩
  · have hfar : ∀ k, Ek T b f D low k p < FARN → Ek T b f D low k p < D + 1 := by
      intro k hk
      cases k with
      | zero =>
        have e0 : Ek T b f D low 0 p = FARN := if_neg cb
        rw [e0] at hk
        omega
      | succ k =>
        obtain ⟨q, -, -, q3⟩ := Ek_pred hD hk
        omega
    by_cases cg : gS T b f low (D + 1) p = FARN
    · left
      refine ⟨cg, fun k hk => ?_⟩
      obtain ⟨k', a1, -, a3⟩ := Ek_small hD hp k k (Nat.le_refl _) hk
      have := (i3 p cb k' (by unfold FARN; omega)).mpr ⟨k', Nat.le_refl _, hfar k' a3⟩
      rw [cg] at this
      unfold FARN at this
      omega
    · right
      have hg := i2 p
      have hlt : gS T b f low (D + 1) p < FARN := by omega
      have hpos : 0 < gS T b f low (D + 1) p := by
        apply Classical.byContradiction
        intro z
        obtain ⟨k, k1, k2⟩ := (i3 p cb 0 (by decide)).mp (by omega)
        have : k = 0 := by omega
        subst this
        have e0 : Ek T b f D low 0 p = FARN := if_neg cb
        rw [e0] at k2
        unfold FARN at k2
        omega
      obtain ⟨j, hj⟩ : ∃ j, gS T b f low (D + 1) p = j + 1 := ⟨gS T b f low (D + 1) p - 1, by omega⟩
      rw [hj]
      obtain ⟨k, k1, k2⟩ := (i3 p cb j (by omega)).mp (by omega)
      have hmin : ∀ k, k < j → ¬ Ek T b f D low k p < FARN := by
        intro k hk z
        have := (i3 p cb k (by omega)).mpr ⟨k, Nat.le_refl _, hfar k z⟩
        omega
      have hkj : k = j := by
        apply Classical.byContradiction
        intro z
        exact hmin k (by omega) (by unfold FARN; omega)
      subst hkj
      have hEk : Ek T b f D low k p < FARN := by unfold FARN; omega
      obtain ⟨k', a1, a2, a3⟩ := Ek_small hD hp k k (Nat.le_refl _) hEk
      have : ¬ k' < k := fun z => hmin k' z a3
      exact ⟨by omega, by omega, by rw [Nat.add_sub_cancel]; exact hEk, fun i hi => hmin i (by omega)⟩
