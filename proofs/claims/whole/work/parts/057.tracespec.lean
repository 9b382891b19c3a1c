/-! the events in one form -/
theorem lx_irr {a : Nat × Nat} : ¬ lx a a := by
  unfold lx
  omega
theorem lx_asym {a b : Nat × Nat} (h : lx a b) : ¬ lx b a := by
  unfold lx at *
  omega
theorem lx_uniq : ∀ (L1 L2 : List (Nat × Nat)), L1.Pairwise lx → L2.Pairwise lx → (∀ x, x ∈ L1 ↔ x ∈ L2) → L1 = L2 := by
  intro L1
  induction L1 with
  | nil =>
    intro L2 _ _ hm
    cases L2 with
    | nil => rfl
    | cons c L2 => exact absurd ((hm c).mpr List.mem_cons_self) (by simp)
  | cons a L1 ih =>
    intro L2 h1 h2 hm
    cases L2 with
    | nil => exact absurd ((hm a).mp List.mem_cons_self) (by simp)
    | cons c L2 =>
      rw [List.pairwise_cons] at h1 h2
      have hac : a = c := by
        rcases List.mem_cons.mp ((hm a).mp List.mem_cons_self) with h | h
        · exact h
        · rcases List.mem_cons.mp ((hm c).mpr List.mem_cons_self) with g | g
          · exact g.symm
          · exact absurd (h1.1 c g) (lx_asym (h2.1 a h))
      subst hac
      congr 1
      refine ih L2 h1.2 h2.2 (fun x => ?_)
      constructor
      · intro hx
        rcases List.mem_cons.mp ((hm x).mp (List.mem_cons_of_mem _ hx)) with h | h
        · rw [h] at hx
          exact absurd (h1.1 a hx) lx_irr
        · exact h
      · intro hx
        rcases List.mem_cons.mp ((hm x).mpr (List.mem_cons_of_mem _ hx)) with h | h
        · rw [h] at hx
          exact absurd (h2.1 a hx) lx_irr
        · exact h
def dayE (T : TW) (t : Nat) : List (Nat × Nat) := ((List.range (tn T)).filter (fun p => freeB T p t)).map (fun p => (t, p))
def evs (T : TW) (l : Nat) : List (Nat × Nat) := (List.range l).flatMap (dayE T)
theorem dayE_mem {T : TW} {t s p : Nat} : (s, p) ∈ dayE T t ↔ s = t ∧ p < tn T ∧ freeB T p t = true := by
  unfold dayE
  rw [List.mem_map]
  constructor
  · rintro ⟨q, h1, h2⟩
    rw [List.mem_filter, List.mem_range] at h1
    cases h2
    exact ⟨rfl, h1⟩
  · rintro ⟨h1, h2⟩
    exact ⟨p, List.mem_filter.mpr ⟨List.mem_range.mpr h2.1, h2.2⟩, by rw [h1]⟩
theorem evs_mem {T : TW} {l t p : Nat} : (t, p) ∈ evs T l ↔ (p < tn T ∧ freeB T p t = true) ∧ t < l := by
  unfold evs
  rw [List.mem_flatMap]
  constructor
  · rintro ⟨s, h1, h2⟩
    obtain ⟨h3, h4⟩ := dayE_mem.mp h2
    rw [h3]
    exact ⟨h4, List.mem_range.mp h1⟩
  · rintro ⟨h1, h2⟩
    exact ⟨t, List.mem_range.mpr h2, dayE_mem.mpr ⟨rfl, h1⟩⟩
theorem evs_lx (T : TW) (l : Nat) : (evs T l).Pairwise lx := by
  unfold evs
  rw [List.pairwise_flatMap]
  constructor
  · intro t _
    unfold dayE
    rw [List.pairwise_map]
    exact ((List.pairwise_lt_range (n := tn T)).filter _).imp (fun {a b} h => Or.inr ⟨rfl, h⟩)
  · refine List.pairwise_lt_range.imp (fun {a b} h x hx y hy => ?_)
    obtain ⟨x1, x2⟩ := x
    obtain ⟨y1, y2⟩ := y
    have h1 := (dayE_mem.mp hx).1
    have h2 := (dayE_mem.mp hy).1
    left
    dsimp only
    omega
theorem evs_EV (T : TW) : EV T (evs T 4392) := ⟨evs_lx T _, fun t p => by
  rw [evs_mem]
  exact ⟨fun h => h.1, fun h => ⟨h, free_lt h.2⟩⟩⟩
theorem EV_eq {T : TW} {L : List (Nat × Nat)} (h : EV T L) : L = evs T 4392 := lx_uniq _ _ h.1 (evs_lx T _) (fun x => by
  obtain ⟨t, p⟩ := x
  rw [h.2 t p, (evs_EV T).2 t p])
theorem evs_succ (T : TW) (l : Nat) : evs T (l + 1) = evs T l ++ dayE T l := by
  unfold evs
  rw [List.range_succ, List.flatMap_append]
  simp
theorem fl_ext {α β : Type} {f g : α → β → α} : ∀ {l : List β} {a : α}, (∀ a b, b ∈ l → f a b = g a b) → l.foldl f a = l.foldl g a := by
  intro l
  induction l with
  | nil => intro a _; rfl
  | cons b l ih =>
    intro a h
    rw [List.foldl_cons, List.foldl_cons, h a b List.mem_cons_self]
    exact ih (fun a c hc => h a c (List.mem_cons_of_mem _ hc))
/-! who tells q on date l -/
def tlB (T : TW) (b : Nat) (h : Nat → Nat) (l e q : Nat) : Bool := tellsB b h e l && guestB T l e q
theorem tl_not {T : TW} {b : Nat} {h : Nat → Nat} {l e : Nat} (htl : tellsB b h e l = true) : (!(e == b) && h e == l) = false := by
  unfold tellsB at htl
  by_cases c : e = b
  · simp [c]
  · rw [if_neg c] at htl
    have : h e < l := by simpa using htl
    have : ¬ h e = l := by omega
    simp [this]
/-- a day's doors -/
theorem rnT_day {T : TW} {b l : Nat} {h : Nat → Nat} : ∀ (es : List Nat) (z : Z3), rnT T b h (es.map (fun e => (l, e))) z = (fun q => cond (!(q == b) && h q == l) (cond (z.1 q == 0) (((es.filter (fun e => tlB T b h l e q)).head?.map (· + 1)).getD 0) (z.1 q)) (z.1 q), fun q => cond (!(q == b) && h q == l) (cond (z.1 q == 0) (((es.filter (fun e => tlB T b h l e q)).head?.map (fun e => z.2.1 e + 1)).getD (z.2.1 q)) (z.2.1 q)) (z.2.1 q), fun q => cond (!(q == b) && h q == l) ((es.filter (fun e => tlB T b h l e q)).foldl (fun a e => (a + z.2.2 e) % MDN) (z.2.2 q)) (z.2.2 q)) := by
  intro es
  induction es with
  | nil =>
    intro z
    refine Prod.ext ?_ (Prod.ext ?_ ?_)
    · funext q
      show z.1 q = cond (!(q == b) && h q == l) (cond (z.1 q == 0) 0 (z.1 q)) (z.1 q)
      cases (!(q == b) && h q == l)
      · rfl
      · cases c2 : (z.1 q == 0)
        · rfl
        · simpa using c2
    · funext q
      show z.2.1 q = cond (!(q == b) && h q == l) (cond (z.1 q == 0) (z.2.1 q) (z.2.1 q)) (z.2.1 q)
      cases (!(q == b) && h q == l)
      · rfl
      · cases (z.1 q == 0) <;> rfl
    · funext q
      show z.2.2 q = cond (!(q == b) && h q == l) (z.2.2 q) (z.2.2 q)
      cases (!(q == b) && h q == l) <;> rfl
  | cons e es ih =>
    intro z
    have hrn : rnT T b h ((e :: es).map (fun e => (l, e))) z = rnT T b h (es.map (fun e => (l, e))) (cond (tellsB b h e l) (stT T b h l e z) z) := rfl
    rw [hrn, ih]
    cases ctl : tellsB b h e l with
    | false =>
      have hf : ∀ q, (e :: es).filter (fun e => tlB T b h l e q) = es.filter (fun e => tlB T b h l e q) := fun q => List.filter_cons_of_neg (by unfold tlB; rw [ctl]; simp)
      simp only [hf, cond_false]
    | true =>
      simp only [cond_true]
      have hkeep : ∀ e2, tellsB b h e2 l = true → (stT T b h l e z).2.1 e2 = z.2.1 e2 ∧ (stT T b h l e z).2.2 e2 = z.2.2 e2 := by
        intro e2 h2
        have hn := tl_not (T := T) h2
        have hu : upT T b h l e e2 = false := by
          unfold upT
          rw [← Bool.and_assoc, hn]
          rfl
        unfold stT
        dsimp only
        rw [hu]
        exact ⟨rfl, rfl⟩
      have hfold : ∀ q a, (es.filter (fun e => tlB T b h l e q)).foldl (fun a e2 => (a + (stT T b h l e z).2.2 e2) % MDN) a = (es.filter (fun e => tlB T b h l e q)).foldl (fun a e2 => (a + z.2.2 e2) % MDN) a := by
        intro q a
        apply fl_ext
        intro a e2 he2
        have := (List.mem_filter.mp he2).2
        unfold tlB at this
        rw [Bool.and_eq_true] at this
        rw [(hkeep e2 this.1).2]
      have hhead : ∀ q d, ((es.filter (fun e => tlB T b h l e q)).head?.map (fun e2 => (stT T b h l e z).2.1 e2 + 1)).getD d = ((es.filter (fun e => tlB T b h l e q)).head?.map (fun e2 => z.2.1 e2 + 1)).getD d := by
        intro q d
        cases hA : (es.filter (fun e => tlB T b h l e q)).head? with
        | none => rfl
        | some e2 =>
          have hm : e2 ∈ es.filter (fun e => tlB T b h l e q) := List.mem_of_head? hA
          have := (List.mem_filter.mp hm).2
          unfold tlB at this
          rw [Bool.and_eq_true] at this
          simp [(hkeep e2 this.1).1]
      refine Prod.ext ?_ (Prod.ext ?_ ?_)
      · funext q
        dsimp only
        cases c : (!(q == b) && h q == l) with
        | false =>
          have hu : upT T b h l e q = false := by unfold upT; rw [← Bool.and_assoc, c]; rfl
          unfold stT
          simp [hu]
        | true =>
          have hu : upT T b h l e q = guestB T l e q := by unfold upT; rw [← Bool.and_assoc, c]; rfl
          cases cg : guestB T l e q with
          | false =>
            rw [List.filter_cons_of_neg (by unfold tlB; rw [cg]; simp)]
            unfold stT
            simp [hu, cg]
          | true =>
            rw [List.filter_cons_of_pos (by unfold tlB; rw [cg, ctl]; rfl)]
            unfold stT
            cases cz : (z.1 q == 0) with
            | false => simp [hu, cg, cz]
            | true => simp [hu, cg, cz]
      · funext q
        dsimp only
        cases c : (!(q == b) && h q == l) with
        | false =>
          have hu : upT T b h l e q = false := by unfold upT; rw [← Bool.and_assoc, c]; rfl
          unfold stT
          simp [hu]
        | true =>
          have hu : upT T b h l e q = guestB T l e q := by unfold upT; rw [← Bool.and_assoc, c]; rfl
          simp only [cond_true]
          rw [hhead]
          cases cg : guestB T l e q with
          | false =>
            rw [List.filter_cons_of_neg (by unfold tlB; rw [cg]; simp)]
            unfold stT
            simp [hu, cg]
          | true =>
            rw [List.filter_cons_of_pos (by unfold tlB; rw [cg, ctl]; rfl)]
            unfold stT
            cases cz : (z.1 q == 0) with
            | false => simp [hu, cg, cz]
            | true => simp [hu, cg, cz]
      · funext q
        dsimp only
        cases c : (!(q == b) && h q == l) with
        | false =>
          have hu : upT T b h l e q = false := by unfold upT; rw [← Bool.and_assoc, c]; rfl
          unfold stT
          simp [hu]
        | true =>
          have hu : upT T b h l e q = guestB T l e q := by unfold upT; rw [← Bool.and_assoc, c]; rfl
          simp only [cond_true]
          rw [hfold]
          cases cg : guestB T l e q with
          | false =>
            rw [List.filter_cons_of_neg (by unfold tlB; rw [cg]; simp)]
            unfold stT
            simp [hu, cg]
          | true =>
            rw [List.filter_cons_of_pos (by unfold tlB; rw [cg, ctl]; rfl), List.foldl_cons]
            unfold stT
            simp [hu, cg]
/-- the tellings of all dates before l -/
def zt (T : TW) (b : Nat) (h : Nat → Nat) (l : Nat) : Z3 := rnT T b h (evs T l) (z0 b)
def tels (T : TW) (b : Nat) (h : Nat → Nat) (l q : Nat) : List Nat := (List.range (tn T)).filter (fun e => freeB T e l && tlB T b h l e q)
theorem zt_succ (T : TW) (b : Nat) (h : Nat → Nat) (l : Nat) : zt T b h (l + 1) = (fun q => cond (!(q == b) && h q == l) (cond ((zt T b h l).1 q == 0) (((tels T b h l q).head?.map (· + 1)).getD 0) ((zt T b h l).1 q)) ((zt T b h l).1 q), fun q => cond (!(q == b) && h q == l) (cond ((zt T b h l).1 q == 0) (((tels T b h l q).head?.map (fun e => (zt T b h l).2.1 e + 1)).getD ((zt T b h l).2.1 q)) ((zt T b h l).2.1 q)) ((zt T b h l).2.1 q), fun q => cond (!(q == b) && h q == l) ((tels T b h l q).foldl (fun a e => (a + (zt T b h l).2.2 e) % MDN) ((zt T b h l).2.2 q)) ((zt T b h l).2.2 q)) := by
  unfold zt
  rw [evs_succ]
  have : rnT T b h (evs T l ++ dayE T l) (z0 b) = rnT T b h (dayE T l) (rnT T b h (evs T l) (z0 b)) := by
    unfold rnT
    rw [List.foldl_append]
  rw [this]
  unfold dayE
  rw [rnT_day]
  unfold tels
  simp only [List.filter_filter, Bool.and_comm]
theorem zt_stay {T : TW} {b : Nat} {h : Nat → Nat} {q : Nat} : ∀ l m, (∀ k, l ≤ k → k < m → (!(q == b) && h q == k) = false) → l ≤ m → (zt T b h m).1 q = (zt T b h l).1 q ∧ (zt T b h m).2.1 q = (zt T b h l).2.1 q ∧ (zt T b h m).2.2 q = (zt T b h l).2.2 q := by
  intro l m
  induction m with
  | zero => intro _ h; have : l = 0 := by omega
            subst this; exact ⟨rfl, rfl, rfl⟩
  | succ m ih =>
    intro hk hl
    by_cases c : l = m + 1
    · subst c; exact ⟨rfl, rfl, rfl⟩
    · obtain ⟨i1, i2, i3⟩ := ih (fun k h1 h2 => hk k h1 (by omega)) (by omega)
      rw [zt_succ]
      dsimp only
      rw [hk m (by omega) (by omega)]
      exact ⟨i1, i2, i3⟩
theorem zt_zero (T : TW) (b : Nat) (h : Nat → Nat) : zt T b h 0 = z0 b := rfl
/-- what the tellings come to -/
theorem zt_spec {T : TW} {b f : Nat} {h : Nat → Nat} (hh : hok T b f h) : (zt T b h 4392).1 b = 0 ∧ (zt T b h 4392).2.1 b = 1 ∧ (zt T b h 4392).2.2 b = 1 ∧ (∀ q, q ≠ b → h q = FARN → (zt T b h 4392).1 q = 0 ∧ (zt T b h 4392).2.1 q = 0 ∧ (zt T b h 4392).2.2 q = 0) ∧
    ∀ q, q ≠ b → h q ≠ FARN → (zt T b h 4392).1 q = ((tels T b h (h q) q).head?.map (· + 1)).getD 0 ∧ (zt T b h 4392).2.1 q = ((tels T b h (h q) q).head?.map (fun e => (zt T b h 4392).2.1 e + 1)).getD 0 ∧ (zt T b h 4392).2.2 q = (tels T b h (h q) q).foldl (fun a e => (a + (zt T b h 4392).2.2 e) % MDN) 0 := by
  have hb := zt_stay (T := T) (b := b) (h := h) (q := b) 0 4392 (fun k _ _ => by simp) (by omega)
  refine ⟨?_, ?_, ?_, fun q hq hF => ?_, fun q hq hF => ?_⟩
  · rw [hb.1]; rfl
  · rw [hb.2.1, zt_zero]; unfold z0; simp
  · rw [hb.2.2, zt_zero]; unfold z0; simp
  · have hs := zt_stay (T := T) (b := b) (h := h) (q := q) 0 4392 (fun k _ h2 => by
      have : ¬ h q = k := by rw [hF]; unfold FARN; omega
      simp [this]) (by omega)
    rw [hs.1, hs.2.1, hs.2.2, zt_zero]
    have : (q == b) = false := by simpa using hq
    unfold z0
    simp [this]
  · have hv : h q < 4392 := by
      rcases hh.2.2.2.1 q with g | g
      · exact absurd g hF
      · exact g
    have hqb : (q == b) = false := by simpa using hq
    have hs0 := zt_stay (T := T) (b := b) (h := h) (q := q) 0 (h q) (fun k _ h2 => by
      have : ¬ h q = k := by omega
      simp [this]) (by omega)
    have hs1 := zt_stay (T := T) (b := b) (h := h) (q := q) (h q + 1) 4392 (fun k h1 _ => by
      have : ¬ h q = k := by omega
      simp [this]) (by omega)
    have hz1 : (zt T b h (h q)).1 q = 0 := by rw [hs0.1]; rfl
    have hz2 : (zt T b h (h q)).2.1 q = 0 := by rw [hs0.2.1, zt_zero]; unfold z0; simp [hqb]
    have hz3 : (zt T b h (h q)).2.2 q = 0 := by rw [hs0.2.2, zt_zero]; unfold z0; simp [hqb]
    have hek : ∀ e, tellsB b h e (h q) = true → (zt T b h 4392).2.1 e = (zt T b h (h q)).2.1 e ∧ (zt T b h 4392).2.2 e = (zt T b h (h q)).2.2 e := by
      intro e he
      have := zt_stay (T := T) (b := b) (h := h) (q := e) (h q) 4392 (fun k h1 _ => by
        unfold tellsB at he
        by_cases c : e = b
        · simp [c]
        · rw [if_neg c] at he
          have h3 : h e < h q := by simpa using he
          have : ¬ h e = k := by omega
          simp [this]) (by omega)
      exact this.2
    have hin : ∀ e, e ∈ tels T b h (h q) q → tellsB b h e (h q) = true := by
      intro e he
      unfold tels at he
      have := (List.mem_filter.mp he).2
      unfold tlB at this
      rw [Bool.and_eq_true, Bool.and_eq_true] at this
      exact this.2.1
    rw [hs1.1, hs1.2.1, hs1.2.2, zt_succ]
    dsimp only
    simp only [hqb, Bool.not_false, Bool.true_and, beq_self_eq_true, cond_true, hz1, hz2, hz3]
    refine ⟨trivial, ?_, ?_⟩
    · cases hA : (tels T b h (h q) q).head? with
      | none => simp
      | some e => simp [(hek e (hin e (List.mem_of_head? hA))).1]
    · apply fl_ext
      intro a e he
      rw [(hek e (hin e he)).2]
