/-! ANOTHER BIRTHDAY, ONE DAY LATER: days on which nothing turns are alike -/
def wpN (d t : Nat) : Nat := if t = FARN then FARN else if t % 366 = d then t + 1 else t
/-- nothing turns on day d -/
def qd (X : TW) (p d : Nat) : Prop := (∀ q, q < tn X → q ≠ p → tb X q ≠ d + 1) ∧ (∀ q, q < tn X → tm X q ≠ d + 1) ∧ (∀ i, i < ta X → tf X i % 366 ≠ d ∧ tt X i % 366 ≠ d) ∧ (∀ s, s < ts X → tx X s % 366 ≠ d) ∧ d ≠ 59
theorem setB_tn (X : TW) (p d : Nat) : tn (setB X p d) = tn X := rfl
theorem setB_tc (X : TW) (p d q : Nat) : tc (setB X p d) q = tc X q := rfl
theorem setB_o {X : TW} {p d i : Nat} (h : i ≠ 1) : setB X p d i = X i := by
  funext j
  unfold setB
  rw [if_neg (fun z => h z.1)]
theorem gone_B (X : TW) (p d q t : Nat) : goneB (setB X p d) q t = goneB X q t := rfl
theorem there_B (X : TW) (p d t : Nat) : thereB (setB X p d) t = thereB X t := rfl
theorem guest_B (X : TW) (p d t e q : Nat) : guestB (setB X p d) t e q = guestB X t e q := rfl
theorem feast_B {X : TW} {p d : Nat} (q x : Nat) : feastB (setB X p d) q x = ((if q = p then d == x else tb X q == x + 1) || (tz X == 1 && tm X q == x + 1)) := by
  unfold feastB
  have h2 : tm (setB X p d) q = tm X q := rfl
  have h3 : tz (setB X p d) = tz X := rfl
  rw [h2, h3]
  congr 1
  by_cases c : q = p
  · rw [if_pos c]
    have : tb (setB X p d) q = d + 1 := by
      show (if 1 = 1 ∧ q = p then d + 1 else X 1 q) = d + 1
      rw [if_pos ⟨rfl, c⟩]
    rw [this]
    by_cases c2 : d = x
    · subst c2; simp
    · have : ¬ d + 1 = x + 1 := by omega
      simp [c2]
  · rw [if_neg c]
    have : tb (setB X p d) q = tb X q := by
      show (if 1 = 1 ∧ q = p then d + 1 else X 1 q) = X 1 q
      rw [if_neg (fun z => c z.2)]
    rw [this]
/-- on a day that is neither the one nor the other all is free alike -/
theorem free_oth {X : TW} {p d e t : Nat} (h1 : t % 366 ≠ d) (h2 : t % 366 ≠ d + 1) : freeB (setB X p (d + 1)) e t = freeB (setB X p d) e t := by
  unfold freeB
  rw [there_B, there_B, gone_B, gone_B, feast_B, feast_B]
  by_cases c : e = p
  · rw [if_pos c, if_pos c]
    have e1 : (d + 1 == t % 366) = false := by simpa using fun z => h2 z.symm
    have e2 : (d == t % 366) = false := by simpa using fun z => h1 z.symm
    rw [e1, e2]
  · rw [if_neg c, if_neg c]
/-- on a day on which nothing turns nobody is free but by the birthday moved there -/
theorem free_no {X : TW} {p d e t x : Nat} (hq : qd X p d) (ht : t % 366 = d) (he : e < tn X) (hx : x ≠ d) : freeB (setB X p x) e t = false := by
  unfold freeB
  rw [feast_B, ht]
  have hm : (tm X e == d + 1) = false := by simpa using hq.2.1 e he
  rw [hm, Bool.and_false, Bool.or_false]
  by_cases c : e = p
  · rw [if_pos c]
    have : (x == d) = false := by simpa using hx
    rw [this]
    simp
  · rw [if_neg c]
    have : (tb X e == d + 1) = false := by simpa using hq.1 e he c
    rw [this]
    simp
theorem free_p {X : TW} {p d e t : Nat} (hq : qd X p d) (ht : t % 366 = d) (ht2 : t < 4392) (he : e < tn X) : freeB (setB X p d) e t = (e == p && !goneB X p t) := by
  unfold freeB
  rw [feast_B, ht, there_B, gone_B]
  have hm : (tm X e == d + 1) = false := by simpa using hq.2.1 e he
  have hth : thereB X t = true := by
    unfold thereB
    rw [ht]
    have := hq.2.2.2.2
    simp [ht2, this]
  rw [hm, hth, Bool.and_false, Bool.or_false, Bool.true_and]
  by_cases c : e = p
  · rw [if_pos c, c]; simp
  · rw [if_neg c]
    have h1 : (tb X e == d + 1) = false := by simpa using hq.1 e he c
    have h2 : (e == p) = false := by simpa using c
    rw [h1, h2, Bool.false_and, Bool.false_and]
theorem gone_next {X : TW} {p d q t : Nat} (h1 : qd X p d) (h2 : qd X p (d + 1)) (hd : d + 1 < 366) (ht : t % 366 = d) : goneB X q (t + 1) = goneB X q t := by
  have ht1 : (t + 1) % 366 = d + 1 := by omega
  unfold goneB
  rw [Bool.eq_iff_iff, List.any_eq_true, List.any_eq_true]
  constructor
  · rintro ⟨i, hi, h⟩
    refine ⟨i, hi, ?_⟩
    simp at h ⊢
    obtain ⟨a1, a2, a3⟩ := h
    refine ⟨a1, ?_, by omega⟩
    have := (h2.2.2.1 i (List.mem_range.mp hi)).1
    rcases Nat.lt_or_ge t (tf X i) with g | g
    · have : tf X i = t + 1 := by omega
      rw [this] at *
      omega
    · exact g
  · rintro ⟨i, hi, h⟩
    refine ⟨i, hi, ?_⟩
    simp at h ⊢
    obtain ⟨a1, a2, a3⟩ := h
    refine ⟨a1, by omega, ?_⟩
    have := (h1.2.2.1 i (List.mem_range.mp hi)).2
    rcases Nat.lt_or_ge (tt X i) (t + 1) with g | g
    · have : tt X i = t := by omega
      rw [this] at *
      omega
    · exact g
theorem hdS_no {T : TW} {b t : Nat} {h : Nat → Nat} (hn : ∀ e, e < tn T → freeB T e t = false) : hdS T b t h = h := by
  funext q
  unfold hdS
  have : (List.range (tn T)).any (fun e => freeB T e t && (guestB T t e q && tellsB b h e t)) = false := by
    rw [List.any_eq_false]
    intro e he
    rw [hn e (List.mem_range.mp he), Bool.false_and]
    decide
  rw [this, Bool.and_false]
  rfl
theorem hdS_one {T : TW} {b t p : Nat} {h : Nat → Nat} (hp : p < tn T) {g : Bool} (hn : ∀ e, e < tn T → freeB T e t = (e == p && g)) (q : Nat) : hdS T b t h q = cond (h q == FARN && (g && (guestB T t p q && tellsB b h p t))) t (h q) := by
  unfold hdS
  congr 2
  rw [Bool.eq_iff_iff, List.any_eq_true]
  constructor
  · rintro ⟨e, he, h1⟩
    rw [hn e (List.mem_range.mp he), Bool.and_eq_true, Bool.and_eq_true] at h1
    have : e = p := by simpa using h1.1.1
    subst this
    rw [h1.1.2, h1.2]; rfl
  · intro h1
    rw [Bool.and_eq_true] at h1
    refine ⟨p, List.mem_range.mpr hp, ?_⟩
    rw [hn p hp, h1.1, h1.2]; simp
theorem wp_far {d t : Nat} (ht : t = FARN ∨ t < 4392) : (wpN d t == FARN) = (t == FARN) := by
  unfold wpN
  by_cases c : t = FARN
  · rw [if_pos c, c]
  · rw [if_neg c]
    have h1 : t < 4392 := ht.resolve_left c
    have e2 : (t == FARN) = false := by simpa using c
    rw [e2]
    by_cases c2 : t % 366 = d
    · rw [if_pos c2]
      have : ¬ t + 1 = FARN := by unfold FARN; omega
      simpa using this
    · rw [if_neg c2]; exact e2
theorem wp_v {d t : Nat} (ht : t < 4392) : wpN d t = t ∨ (t % 366 = d ∧ wpN d t = t + 1) := by
  unfold wpN
  rw [if_neg (show ¬ t = FARN by unfold FARN; omega)]
  by_cases c2 : t % 366 = d
  · rw [if_pos c2]; exact Or.inr ⟨c2, rfl⟩
  · rw [if_neg c2]; exact Or.inl rfl
theorem wp_lt {d t l : Nat} (ht : t = FARN ∨ t < 4392) (hd : d + 1 < 366) (hl : l < 4392) (h1 : l % 366 ≠ d + 1) : wpN d t < l ↔ t < l := by
  rcases ht with g | g
  · rw [g]; unfold wpN; rw [if_pos rfl]
  · rcases wp_v (d := d) g with e | ⟨e1, e⟩
    · rw [e]
    · rw [e]
      constructor
      · intro h; omega
      · intro h
        rcases Nat.lt_or_ge (t + 1) l with q | q
        · exact q
        · have : l = t + 1 := by omega
          rw [this] at h1
          omega
theorem wp_le {d t l : Nat} (ht : t = FARN ∨ t < 4392) (hd : d + 1 < 366) (hl : l < 4392) (h1 : l % 366 ≠ d) : wpN d t ≤ l ↔ t ≤ l := by
  rcases ht with g | g
  · rw [g]; unfold wpN; rw [if_pos rfl]
  · rcases wp_v (d := d) g with e | ⟨e1, e⟩
    · rw [e]
    · rw [e]
      constructor
      · intro h; omega
      · intro h
        rcases Nat.lt_or_ge t l with q | q
        · exact q
        · have : l = t := by omega
          rw [this] at h1
          omega
theorem wp_ge {d t : Nat} : t ≤ wpN d t := by
  unfold wpN
  by_cases c : t = FARN
  · rw [if_pos c]; omega
  · rw [if_neg c]
    by_cases c2 : t % 366 = d
    · rw [if_pos c2]; omega
    · rw [if_neg c2]; omega
theorem hdt_v {T : TW} {b f : Nat} (hf : f < 4392) {l : Nat} (hl : l ≤ 4392) (q : Nat) : hdt T b f l q = FARN ∨ hdt T b f l q < 4392 := by
  by_cases c : q = b
  · rw [c, hd_b hf]; exact Or.inr hf
  · rcases hd_val (T := T) (b := b) (f := f) l q c with g | g
    · exact Or.inl g
    · right; omega
theorem hdt_s (T : TW) (b f l : Nat) : hdt T b f (l + 1) = hdS T b l (hdt T b f l) := rfl
/-- the two towns, day by day -/
theorem warp {X : TW} {p d b f : Nat} (hp : p < tn X) (hd : d + 1 < 366) (h1 : qd X p d) (h2 : qd X p (d + 1)) (hf : f < 4392) (hf1 : f % 366 ≠ d) (hf2 : f % 366 ≠ d + 1) : ∀ l, l ≤ 4392 → l % 366 ≠ d + 1 → ∀ q, hdt (setB X p (d + 1)) b f l q = wpN d (hdt (setB X p d) b f l q) := by
  have hwf : wpN d f = f := by
    rcases wp_v (d := d) hf with e | ⟨e, -⟩
    · exact e
    · exact absurd e hf1
  have step : ∀ l, l < 4392 → l % 366 ≠ d → l % 366 ≠ d + 1 → (∀ q, hdt (setB X p (d + 1)) b f l q = wpN d (hdt (setB X p d) b f l q)) → ∀ q, hdt (setB X p (d + 1)) b f (l + 1) q = wpN d (hdt (setB X p d) b f (l + 1) q) := by
    intro l hl c1 c2 ih q
    rw [hdt_s, hdt_s]
    generalize hA : hdt (setB X p d) b f l = A at ih
    generalize hB : hdt (setB X p (d + 1)) b f l = B at ih
    have hAv : ∀ q, A q = FARN ∨ A q < 4392 := fun q => by rw [← hA]; exact hdt_v hf (by omega) q
    have hAb : A b = f := by rw [← hA]; exact hd_b hf l
    have htl : ∀ e, tellsB b B e l = tellsB b A e l := by
      intro e
      unfold tellsB
      rw [ih e]
      by_cases c : e = b
      · rw [if_pos c, if_pos c, c, hAb, hwf]
      · rw [if_neg c, if_neg c, decide_eq_decide]
        exact wp_lt (hAv e) hd hl c2
    unfold hdS
    rw [ih q, wp_far (hAv q), setB_tn, setB_tn]
    have hany : (List.range (tn X)).any (fun e => freeB (setB X p (d + 1)) e l && (guestB (setB X p (d + 1)) l e q && tellsB b B e l)) = (List.range (tn X)).any (fun e => freeB (setB X p d) e l && (guestB (setB X p d) l e q && tellsB b A e l)) := by
      congr 1
      funext e
      rw [free_oth c1 c2, htl e, guest_B, guest_B]
    rw [hany]
    generalize (A q == FARN && (List.range (tn X)).any (fun e => freeB (setB X p d) e l && (guestB (setB X p d) l e q && tellsB b A e l))) = G
    cases G with
    | true =>
      rw [cond_true, cond_true]
      rcases wp_v (d := d) hl with e | ⟨e, -⟩
      · exact e.symm
      · exact absurd e c1
    | false => rw [cond_false, cond_false]
  intro l
  induction l using Nat.strongRecOn with
  | _ l ihs =>
    intro hl hm
    cases l with
    | zero =>
      intro q
      show h0 b f q = wpN d (h0 b f q)
      unfold h0
      by_cases c : q = b
      · rw [if_pos c, hwf]
      · rw [if_neg c]; unfold wpN; rw [if_pos rfl]
    | succ l =>
      by_cases c2 : l % 366 = d + 1
      · obtain ⟨t, rfl⟩ : ∃ t, l = t + 1 := ⟨l - 1, by omega⟩
        have ht : t % 366 = d := by omega
        have ih := ihs t (by omega) (by omega) (by omega)
        intro q
        have e1 : hdt (setB X p d) b f (t + 1 + 1) = hdt (setB X p d) b f (t + 1) := by
          rw [hdt_s]
          exact hdS_no (fun e he => free_no h2 c2 he (by omega))
        have e2 : hdt (setB X p (d + 1)) b f (t + 1) = hdt (setB X p (d + 1)) b f t := by
          rw [hdt_s]
          exact hdS_no (fun e he => free_no h1 ht he (by omega))
        rw [e1, hdt_s (setB X p (d + 1)) b f (t + 1), e2, hdt_s (setB X p d) b f t]
        rw [hdS_one (T := setB X p d) (g := !goneB X p t) hp (fun e he => free_p h1 ht (by omega) he), hdS_one (T := setB X p (d + 1)) (g := !goneB X p (t + 1)) hp (fun e he => free_p h2 c2 (by omega) he)]
        rw [gone_next h1 h2 hd ht]
        generalize hA : hdt (setB X p d) b f t = A at ih
        generalize hB : hdt (setB X p (d + 1)) b f t = B at ih
        have hAv : ∀ q, A q = FARN ∨ A q < 4392 := fun q => by rw [← hA]; exact hdt_v hf (by omega) q
        have hAb : A b = f := by rw [← hA]; exact hd_b hf t
        have hAl : ∀ q, q ≠ b → A q = FARN ∨ A q < t := fun q hq => by rw [← hA]; exact hd_val t q hq
        have htl : tellsB b B p (t + 1) = tellsB b A p t := by
          unfold tellsB
          rw [ih p]
          by_cases c : p = b
          · rw [if_pos c, if_pos c, c, hAb, hwf, decide_eq_decide]
            constructor
            · intro h
              rcases Nat.lt_or_ge t f with g | g
              · have : f = t + 1 := by omega
                rw [this] at hf2
                omega
              · exact g
            · intro h; omega
          · rw [if_neg c, if_neg c, decide_eq_decide]
            rcases hAl p c with g | g
            · rw [g]; unfold wpN; rw [if_pos rfl]; unfold FARN; omega
            · rcases wp_v (d := d) (show A p < 4392 by omega) with e | ⟨-, e⟩ <;> rw [e] <;> omega
        have hgu : guestB (setB X p (d + 1)) (t + 1) p q = guestB (setB X p d) t p q := by
          rw [guest_B, guest_B]
          unfold guestB
          rw [gone_next h1 h2 hd ht]
        rw [htl, hgu, ih q, wp_far (hAv q)]
        generalize (A q == FARN && (!goneB X p t && (guestB (setB X p d) t p q && tellsB b A p t))) = G
        cases G with
        | true =>
          rw [cond_true, cond_true]
          rcases wp_v (d := d) (show t < 4392 by omega) with e | ⟨-, e⟩
          · unfold wpN at e
            rw [if_neg (show ¬ t = FARN by unfold FARN; omega), if_pos ht] at e
            omega
          · exact e.symm
        | false => rw [cond_false, cond_false]
      · have c1 : l % 366 ≠ d := by
          intro z
          apply hm
          omega
        exact step l (by omega) c1 c2 (ihs l (by omega) (by omega) c2)
theorem warp_F {X : TW} (hw : wfT X) {p d s : Nat} (hp : p < tn X) (hd : d + 1 < 366) (h1 : qd X p d) (h2 : qd X p (d + 1)) (hs : s < ts X) (q : Nat) : hF (setB X p (d + 1)) s q = wpN d (hF (setB X p d) s q) := by
  have := (hw.2.2.2.2.2.1 s hs).2
  unfold hF
  exact warp hp hd h1 h2 this (h1.2.2.2.1 s hs) (h2.2.2.2.1 s hs) 4392 (Nat.le_refl _) (by omega) q
/-- reports: none of a day on which nothing turns -/
theorem warp_holds {X : TW} (hw : wfT X) {p d : Nat} (hp : p < tn X) (hd : d + 1 < 366) (h1 : qd X p d) (h2 : qd X p (d + 1)) {rp : Rp} (hr : wfR X rp) (hrd : ∀ r ∈ rp, r.2.2.1 % 366 ≠ d) : holdsB (setB X p (d + 1)) rp = holdsB (setB X p d) rp := by
  unfold holdsB
  rw [Bool.eq_iff_iff, List.all_eq_true, List.all_eq_true]
  have key : ∀ r ∈ rp, decide (hF (setB X p (d + 1)) r.2.1 r.1 ≤ r.2.2.1) = decide (hF (setB X p d) r.2.1 r.1 ≤ r.2.2.1) := by
    intro r hm
    obtain ⟨w, s, t, n⟩ := r
    obtain ⟨a1, a2, a3⟩ := hr.2 w s t n hm
    have hsx := (hw.2.2.2.2.2.1 s a2).2
    rw [decide_eq_decide]
    show hF (setB X p (d + 1)) s w ≤ t ↔ hF (setB X p d) s w ≤ t
    rw [warp_F hw hp hd h1 h2 a2]
    exact wp_le (hdt_v hsx (Nat.le_refl _) w) hd a3 (hrd _ hm)
  constructor
  · intro h r hm
    rw [← key r hm]; exact h r hm
  · intro h r hm
    rw [key r hm]; exact h r hm
