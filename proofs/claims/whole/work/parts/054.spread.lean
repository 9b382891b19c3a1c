/-! A SECRET ON ITS WAY: when each has it, date by date -/
abbrev FARN : Nat := 1000000
theorem cd_t {α : Type} {c : Bool} {a b : α} (h : c = true) : cond c a b = a := by rw [h]; rfl
theorem cd_f {α : Type} {c : Bool} {a b : α} (h : ¬ c = true) : cond c a b = b := by
  have h : c = false := by simpa using h
  rw [h]; rfl
def tellsB (b : Nat) (h : Nat → Nat) (e t : Nat) : Bool := if e = b then decide (h e ≤ t) else decide (h e < t)
def h0 (b f : Nat) : Nat → Nat := fun p => if p = b then f else FARN
/-- e tells on t -/
def stp (T : TW) (b t e : Nat) (h : Nat → Nat) : Nat → Nat := fun q => cond (tellsB b h e t && (h q == FARN && guestB T t e q)) t (h q)
def run (T : TW) (b : Nat) (L : List (Nat × Nat)) (h : Nat → Nat) : Nat → Nat := L.foldl (fun h ev => stp T b ev.1 ev.2 h) h
/-- all who tell on t -/
def hdS (T : TW) (b t : Nat) (h : Nat → Nat) : Nat → Nat := fun q => cond (h q == FARN && (List.range (tn T)).any (fun e => freeB T e t && (guestB T t e q && tellsB b h e t))) t (h q)
def hdt (T : TW) (b f : Nat) : Nat → Nat → Nat
  | 0 => h0 b f
  | t + 1 => hdS T b t (hdt T b f t)
def hok (T : TW) (b f : Nat) (h : Nat → Nat) : Prop := b < tn T ∧ f < 4392 ∧ h b = f ∧ (∀ q, h q = FARN ∨ h q < 4392) ∧ ∀ q, h q ≠ FARN → q < tn T
theorem hok_0 {T : TW} {b f : Nat} (hb : b < tn T) (hf : f < 4392) : hok T b f (h0 b f) := by
  refine ⟨hb, hf, by simp [h0], fun q => ?_, fun q hq => ?_⟩
  · unfold h0
    by_cases c : q = b
    · rw [if_pos c]; exact Or.inr hf
    · rw [if_neg c]; exact Or.inl rfl
  · unfold h0 at hq
    by_cases c : q = b
    · rw [c]; exact hb
    · rw [if_neg c] at hq; exact absurd rfl hq
theorem hok_stp {T : TW} (hw : wfT T) {b f : Nat} {h : Nat → Nat} (hh : hok T b f h) {t e : Nat} (ht : t < 4392) (he : e < tn T) : hok T b f (stp T b t e h) := by
  obtain ⟨h1, h2, h3, h4, h5⟩ := hh
  refine ⟨h1, h2, ?_, fun q => ?_, fun q hq => ?_⟩
  · unfold stp
    rw [cd_f ?_]
    · exact h3
    · rw [h3]
      simp only [Bool.and_eq_true, beq_iff_eq]
      rintro ⟨-, h, -⟩
      unfold FARN at h
      omega
  · unfold stp
    by_cases c : (tellsB b h e t && (h q == FARN && guestB T t e q)) = true
    · rw [cd_t c]; exact Or.inr ht
    · rw [cd_f c]; exact h4 q
  · unfold stp at hq
    by_cases c : (tellsB b h e t && (h q == FARN && guestB T t e q)) = true
    · rw [Bool.and_eq_true, Bool.and_eq_true] at c
      exact wf_guest hw he c.2.2
    · rw [cd_f c] at hq; exact h5 q hq
/-- many tell on one date: what is told then is told by none that day -/
theorem run_day {T : TW} {b f t : Nat} (ht : t < 4392) : ∀ (C : List (Nat × Nat)) (h : Nat → Nat), h b = f → f < 4392 → (∀ ev ∈ C, ev.1 = t) → run T b C h = fun q => cond (h q == FARN && C.any (fun ev => guestB T t ev.2 q && tellsB b h ev.2 t)) t (h q) := by
  intro C
  induction C with
  | nil =>
    intro h _ _ _
    funext q
    simp [run]
  | cons ev C ih =>
    intro h hb hf hC
    obtain ⟨t', e⟩ := ev
    have ht' : t' = t := hC (t', e) List.mem_cons_self
    subst ht'
    have hst : stp T b t' e h b = f := by
      unfold stp
      rw [cd_f ?_]
      · exact hb
      · rw [hb]
        simp only [Bool.and_eq_true, beq_iff_eq]
        rintro ⟨-, h, -⟩
        unfold FARN at h
        omega
    have := ih (stp T b t' e h) hst hf (fun ev hev => hC ev (List.mem_cons_of_mem _ hev))
    show run T b C (stp T b t' e h) = _
    rw [this]
    have htl : ∀ e2, tellsB b (stp T b t' e h) e2 t' = tellsB b h e2 t' := by
      intro e2
      unfold tellsB
      by_cases c : e2 = b
      · rw [if_pos c, if_pos c, c, hst, hb]
      · rw [if_neg c, if_neg c]
        unfold stp
        by_cases c2 : (tellsB b h e t' && (h e2 == FARN && guestB T t' e e2)) = true
        · rw [cd_t c2]
          simp only [Bool.and_eq_true, beq_iff_eq] at c2
          rw [c2.2.1]
          unfold FARN
          simp
          omega
        · rw [cd_f c2]
    funext q
    simp only [List.any_cons, htl]
    unfold stp
    cases c1 : h q == FARN with
    | true =>
      cases c2 : tellsB b h e t' with
      | true =>
        cases c3 : guestB T t' e q with
        | true =>
          have : (t' == FARN) = false := by unfold FARN; simp; omega
          simp [c1, c2, c3, this]
        | false => simp [c1, c2, c3]
      | false => simp [c1, c2]
    | false => simp [c1]
theorem filter_split {L : List (Nat × Nat)} (hs : L.Pairwise (fun a b => a.1 ≤ b.1)) (l : Nat) : L.filter (fun ev => decide (ev.1 < l + 1)) = L.filter (fun ev => decide (ev.1 < l)) ++ L.filter (fun ev => decide (ev.1 = l)) := by
  induction L with
  | nil => rfl
  | cons a L ih =>
    rw [List.pairwise_cons] at hs
    have ih := ih hs.2
    rcases Nat.lt_trichotomy a.1 l with c | c | c
    · rw [List.filter_cons_of_pos (by simp; omega), List.filter_cons_of_pos (by simp; omega), List.filter_cons_of_neg (by simp; omega), ih, List.cons_append]
    · rw [List.filter_cons_of_pos (by simp; omega), List.filter_cons_of_neg (by simp; omega), List.filter_cons_of_pos (by simp; omega), ih]
      have hn : L.filter (fun ev => decide (ev.1 < l)) = [] := by
        rw [List.filter_eq_nil_iff]
        intro x hx
        have := hs.1 x hx
        simp
        omega
      rw [hn]
      rfl
    · rw [List.filter_cons_of_neg (by simp; omega), List.filter_cons_of_neg (by simp; omega), List.filter_cons_of_neg (by simp; omega), ih]
theorem takeWhile_filter {L : List (Nat × Nat)} (hs : L.Pairwise (fun a b => a.1 ≤ b.1)) (l : Nat) : L.takeWhile (fun ev => decide (ev.1 < l)) = L.filter (fun ev => decide (ev.1 < l)) := by
  induction L with
  | nil => rfl
  | cons a L ih =>
    rw [List.pairwise_cons] at hs
    by_cases c : a.1 < l
    · rw [List.takeWhile_cons_of_pos (by simpa using c), List.filter_cons_of_pos (by simpa using c), ih hs.2]
    · rw [List.takeWhile_cons_of_neg (by simpa using c), List.filter_cons_of_neg (by simpa using c)]
      symm
      rw [List.filter_eq_nil_iff]
      intro x hx
      have := hs.1 x hx
      simp
      omega
/-- a list that has the town's free days, by their dates (in any order on one date, twice if one likes) -/
def EVw (T : TW) (L : List (Nat × Nat)) : Prop := L.Pairwise (fun a b => a.1 ≤ b.1) ∧ ∀ t p, (t, p) ∈ L ↔ p < tn T ∧ freeB T p t = true
theorem EV.weak {T : TW} {L : List (Nat × Nat)} (h : EV T L) : EVw T L := ⟨h.1.imp (fun {a b} hab => by
  rcases hab with h | h
  · omega
  · omega), h.2⟩
theorem free_lt {T : TW} {p t : Nat} (h : freeB T p t = true) : t < 4392 := by
  unfold freeB thereB at h
  rw [Bool.and_eq_true, Bool.and_eq_true, decide_eq_true_eq] at h
  exact h.1.1
theorem hd_b {T : TW} {b f : Nat} (hf : f < 4392) : ∀ l, hdt T b f l b = f := by
  intro l
  induction l with
  | zero => simp [hdt, h0]
  | succ l ih =>
    unfold hdt hdS
    rw [ih, cd_f]
    simp only [Bool.and_eq_true, beq_iff_eq]
    rintro ⟨h, -⟩
    unfold FARN at h
    omega
theorem run_hdl {T : TW} {L : List (Nat × Nat)} {m : Nat} (hs : L.Pairwise (fun a b => a.1 ≤ b.1)) (hL : ∀ t p, t < m → ((t, p) ∈ L ↔ p < tn T ∧ freeB T p t = true)) {b f : Nat} (hf : f < 4392) : ∀ l, l ≤ m → l ≤ 4392 → run T b (L.filter (fun ev => decide (ev.1 < l))) (h0 b f) = hdt T b f l := by
  intro l
  induction l with
  | zero =>
    intro _ _
    have : L.filter (fun ev => decide (ev.1 < 0)) = [] := by
      rw [List.filter_eq_nil_iff]
      intro x _
      simp
    rw [this]
    rfl
  | succ l ih =>
    intro hlm hl
    rw [filter_split hs]
    unfold run
    rw [List.foldl_append]
    have ih := ih (by omega) (by omega)
    unfold run at ih
    rw [ih]
    show run T b _ (hdt T b f l) = _
    rw [run_day (t := l) (f := f) (by omega) _ _ (hd_b hf l) hf (fun ev hev => by
      have := (List.mem_filter.mp hev).2
      simpa using this)]
    show _ = hdS T b l (hdt T b f l)
    unfold hdS
    funext q
    have hany : (L.filter (fun ev => decide (ev.1 = l))).any (fun ev => guestB T l ev.2 q && tellsB b (hdt T b f l) ev.2 l) = (List.range (tn T)).any (fun e => freeB T e l && (guestB T l e q && tellsB b (hdt T b f l) e l)) := by
      rw [Bool.eq_iff_iff, List.any_eq_true, List.any_eq_true]
      constructor
      · rintro ⟨ev, h1, h2⟩
        obtain ⟨t, e⟩ := ev
        rw [List.mem_filter] at h1
        have ht : t = l := by simpa using h1.2
        subst ht
        obtain ⟨g1, g2⟩ := (hL t e (by omega)).mp h1.1
        exact ⟨e, List.mem_range.mpr g1, by rw [g2]; simpa using h2⟩
      · rintro ⟨e, h1, h2⟩
        rw [Bool.and_eq_true] at h2
        exact ⟨(l, e), List.mem_filter.mpr ⟨(hL l e (by omega)).mpr ⟨List.mem_range.mp h1, h2.1⟩, by simp⟩, h2.2⟩
    rw [hany]
theorem run_hd {T : TW} {L : List (Nat × Nat)} (hL : EVw T L) {b f : Nat} (hf : f < 4392) (l : Nat) (hl : l ≤ 4392) : run T b (L.filter (fun ev => decide (ev.1 < l))) (h0 b f) = hdt T b f l := run_hdl hL.1 (fun t p _ => hL.2 t p) hf l (Nat.le_refl l) hl
theorem run_hdx {T : TW} {L : List (Nat × Nat)} {l : Nat} (hl : l ≤ 4392) (hs : L.Pairwise (fun a b => a.1 ≤ b.1)) (hL : ∀ t p, (t, p) ∈ L ↔ (p < tn T ∧ freeB T p t = true) ∧ t < l) {b f : Nat} (hf : f < 4392) : run T b L (h0 b f) = hdt T b f l := by
  rw [← run_hdl (m := l) hs (fun t p ht => by rw [hL t p]; exact ⟨fun h => h.1, fun h => ⟨h, ht⟩⟩) hf l (Nat.le_refl l) hl]
  congr 1
  symm
  rw [List.filter_eq_self]
  intro x hx
  obtain ⟨t, p⟩ := x
  have := ((hL t p).mp hx).2
  simpa using this
theorem run_all {T : TW} {L : List (Nat × Nat)} (hL : EVw T L) {b f : Nat} (hf : f < 4392) : run T b L (h0 b f) = hdt T b f 4392 := by
  rw [← run_hd hL hf 4392 (Nat.le_refl _)]
  congr 1
  symm
  rw [List.filter_eq_self]
  intro x hx
  obtain ⟨t, p⟩ := x
  have := free_lt ((hL.2 t p).mp hx).2
  simpa using this
theorem hd_step (T : TW) (b f l q : Nat) : hdt T b f (l + 1) q = hdt T b f l q ∨ (hdt T b f l q = FARN ∧ hdt T b f (l + 1) q = l) := by
  show hdS T b l (hdt T b f l) q = _ ∨ _
  unfold hdS
  by_cases c : (hdt T b f l q == FARN && (List.range (tn T)).any (fun e => freeB T e l && (guestB T l e q && tellsB b (hdt T b f l) e l))) = true
  · right
    have c' := c
    simp only [Bool.and_eq_true, beq_iff_eq] at c'
    refine ⟨c'.1, ?_⟩
    show hdS T b l (hdt T b f l) q = l
    unfold hdS
    rw [cd_t c]
  · left
    rw [cd_f c]
theorem hd_val {T : TW} {b f : Nat} : ∀ l q, q ≠ b → hdt T b f l q = FARN ∨ hdt T b f l q < l := by
  intro l
  induction l with
  | zero => intro q hq; left; simp [hdt, h0, hq]
  | succ l ih =>
    intro q hq
    rcases hd_step T b f l q with h | ⟨-, h⟩
    · rw [h]
      rcases ih q hq with h | h
      · exact Or.inl h
      · exact Or.inr (by omega)
    · rw [h]; exact Or.inr (by omega)
theorem hd_keep {T : TW} {b f : Nat} {l q : Nat} (h : hdt T b f l q ≠ FARN) : ∀ m, hdt T b f (l + m) q = hdt T b f l q := by
  intro m
  induction m with
  | zero => rfl
  | succ m ih =>
    rw [← Nat.add_assoc]
    rcases hd_step T b f (l + m) q with h2 | ⟨h2, -⟩
    · rw [h2, ih]
    · rw [ih] at h2; exact absurd h2 h
theorem hd_keep2 {T : TW} {b f : Nat} {l m q : Nat} (hlm : l ≤ m) (h : hdt T b f l q ≠ FARN) : hdt T b f m q = hdt T b f l q := by
  obtain ⟨d, rfl⟩ : ∃ d, m = l + d := ⟨m - l, by omega⟩
  exact hd_keep h d
/-- what was had on a date is told by the days before the next -/
theorem hd_back {T : TW} {b f : Nat} {m q t : Nat} (hq : q ≠ b) (h : hdt T b f m q = t) (ht : t ≠ FARN) : ∀ l, t < l → l ≤ m → hdt T b f l q = t := by
  induction m with
  | zero => intro l h1 h2; omega
  | succ m ih =>
    intro l h1 h2
    by_cases c : l = m + 1
    · rw [c]; exact h
    · rcases hd_step T b f m q with h3 | ⟨-, h3⟩
      · exact ih (by rw [← h3]; exact h) l h1 (by omega)
      · omega
theorem hd_by {T : TW} {b f l q t : Nat} (hf : f < 4392) (hl : l ≤ 4392) (ht : t < l) : hdt T b f l q ≤ t ↔ hdt T b f 4392 q ≤ t := by
  by_cases hq : q = b
  · subst hq
    rw [hd_b hf, hd_b hf]
  · constructor
    · intro h
      rw [hd_keep2 hl (by unfold FARN; omega)]
      exact h
    · intro h
      rw [hd_back hq rfl (by unfold FARN; omega) l (by omega) hl]
      exact h
theorem hok_hd {T : TW} (hw : wfT T) {b f : Nat} (hb : b < tn T) (hf : f < 4392) : ∀ l, l ≤ 4392 → hok T b f (hdt T b f l) := by
  intro l
  induction l with
  | zero => intro _; exact hok_0 hb hf
  | succ l ih =>
    intro hl
    obtain ⟨h1, h2, h3, h4, h5⟩ := ih (by omega)
    refine ⟨h1, h2, hd_b hf _, fun q => ?_, fun q hq => ?_⟩
    · rcases hd_step T b f l q with h | ⟨-, h⟩
      · rw [h]; exact h4 q
      · rw [h]; exact Or.inr (by omega)
    · unfold hdt hdS at hq
      by_cases c : (hdt T b f l q == FARN && (List.range (tn T)).any (fun e => freeB T e l && (guestB T l e q && tellsB b (hdt T b f l) e l))) = true
      · rw [Bool.and_eq_true, List.any_eq_true] at c
        obtain ⟨-, e, he, h⟩ := c
        rw [Bool.and_eq_true, Bool.and_eq_true] at h
        exact wf_guest hw (List.mem_range.mp he) h.2.1
      · rw [cd_f c] at hq
        exact h5 q hq
