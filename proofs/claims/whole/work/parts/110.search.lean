/-! A SEARCH: nodes 2d (front) and 2d+1 (back) in the order reached -/
theorem nd_idx {Q : List Nat} (h : Q.Nodup) {i j n : Nat} (hi : Q[i]? = some n) (hj : Q[j]? = some n) : i = j := by
  obtain ⟨i1, i2⟩ := List.getElem?_eq_some_iff.mp hi
  obtain ⟨j1, j2⟩ := List.getElem?_eq_some_iff.mp hj
  have hp := List.pairwise_iff_getElem.mp h
  rcases Nat.lt_trichotomy i j with c | c | c
  · exact absurd (i2.trans j2.symm) (hp i j i1 j1 c)
  · exact c
  · exact absurd (j2.trans i2.symm) (hp j i j1 i1 c)
/-- each node reached names the one that it was reached from, which stands ahead of it -/
def SRf (s : Nat → Prop) (E : Nat → Nat → Prop) (u : Nat → Bool) (Q : List Nat) (tF : Nat → Option Nat) (i d : Nat) : Prop :=
  (tF d = none ∧ s d) ∨ ∃ x j, tF d = some x ∧ j < i ∧ Q[j]? = some (2 * x + 1) ∧ ((x = d ∧ u d = true) ∨ (x ≠ d ∧ E x d))
def SRb (u : Nat → Bool) (c : Nat → Option Nat) (Q : List Nat) (tB : Nat → Nat) (i d : Nat) : Prop :=
  ∃ j, j < i ∧ Q[j]? = some (2 * tB d) ∧ ((tB d = d ∧ u d = false) ∨ (tB d ≠ d ∧ u (tB d) = true ∧ c (tB d) = some d))
def SR (N : Nat) (s : Nat → Prop) (E : Nat → Nat → Prop) (u : Nat → Bool) (c : Nat → Option Nat) (Q : List Nat) (tF : Nat → Option Nat) (tB : Nat → Nat) : Prop :=
  Q.Nodup ∧ (∀ i d, Q[i]? = some (2 * d) → d < N ∧ SRf s E u Q tF i d) ∧ ∀ i d, Q[i]? = some (2 * d + 1) → d < N ∧ SRb u c Q tB i d
/-- the way's nodes stand in the order reached -/
def RK (Q : List Nat) (onF onB : Nat → Prop) (i : Nat) : Prop := (∀ b, onB b → ∃ j, j ≤ i ∧ Q[j]? = some (2 * b + 1)) ∧ ∀ f, onF f → ∃ j, j < i ∧ Q[j]? = some (2 * f)
theorem way_one {N : Nat} {s : Nat → Prop} {E : Nat → Nat → Prop} {u : Nat → Bool} {c : Nat → Option Nat} {Q : List Nat} {tF : Nat → Option Nat} {tB : Nat → Nat} (h : SR N s E u c Q tF tB) {i x : Nat} (hi : Q[i]? = some (2 * x + 1)) (ht : tF (tB x) = none) : WAY N s E u c tF tB (fun f => f = tB x) (fun b => b = x) x ∧ RK Q (fun f => f = tB x) (fun b => b = x) i := by
  obtain ⟨h1, h2, h3⟩ := h
  obtain ⟨a1, j, a2, a3, a4⟩ := h3 i x hi
  obtain ⟨b1, b2⟩ := h2 j (tB x) a3
  refine ⟨⟨fun b hb => ?_, fun f hf => ?_, fun f hf => ⟨x, rfl, hf.symm⟩, fun f f' hf hf' _ => hf.trans hf'.symm, fun b hb hne => absurd hb hne, fun f hf => ?_, rfl, tB x, rfl, ht⟩, fun b hb => ⟨i, Nat.le_refl _, by rw [hb]; exact hi⟩, fun f hf => ⟨j, a2, by rw [hf]; exact a3⟩⟩
  · have hb : b = x := hb
    subst hb
    exact ⟨a1, rfl, a4⟩
  · have hf : f = tB x := hf
    subst hf
    refine ⟨b1, ?_⟩
    rcases b2 with b2 | ⟨x', j', q, -⟩
    · exact Or.inl b2
    · rw [ht] at q; cases q
  · have hf : f = tB x := hf
    rw [hf, ht]
    exact fun z => (by cases z)
theorem way_more {N : Nat} {s : Nat → Prop} {E : Nat → Nat → Prop} {u : Nat → Bool} {c : Nat → Option Nat} {Q : List Nat} {tF : Nat → Option Nat} {tB : Nat → Nat} (h : SR N s E u c Q tF tB) {i i' j x x' : Nat} (hi : Q[i]? = some (2 * x + 1)) (hj : Q[j]? = some (2 * tB x)) (hji : j < i) (ht : tF (tB x) = some x') (hi' : Q[i']? = some (2 * x' + 1)) (hij : i' < j) {onF onB : Nat → Prop} (hW : WAY N s E u c tF tB onF onB x') (hR : RK Q onF onB i') : WAY N s E u c tF tB (fun f => onF f ∨ f = tB x) (fun b => onB b ∨ b = x) x ∧ RK Q (fun f => onF f ∨ f = tB x) (fun b => onB b ∨ b = x) i ∧ ¬ onF (tB x) ∧ ¬ onB x := by
  obtain ⟨h1, h2, h3⟩ := h
  obtain ⟨a1, j0, a2, a3, a4⟩ := h3 i x hi
  obtain ⟨b1, b2⟩ := h2 j (tB x) hj
  obtain ⟨w1, w2, w3, w4, w5, w6, w7, r, w8, w9⟩ := hW
  obtain ⟨k1, k2⟩ := hR
  have nF : ¬ onF (tB x) := by
    intro z
    obtain ⟨m, m1, m2⟩ := k2 _ z
    have := nd_idx h1 m2 hj
    omega
  have nB : ¬ onB x := by
    intro z
    obtain ⟨m, m1, m2⟩ := k1 _ z
    have := nd_idx h1 m2 hi
    omega
  refine ⟨⟨fun b hb => ?_, fun f hf => ?_, fun f hf => ?_, fun f f' hf hf' he => ?_, fun b hb hne => ?_, fun f hf => ?_, Or.inr rfl, r, Or.inl w8, w9⟩, ⟨fun b hb => ?_, fun f hf => ?_⟩, nF, nB⟩
  · rcases hb with hb | hb
    · obtain ⟨q1, q2, q3⟩ := w1 b hb
      exact ⟨q1, Or.inl q2, q3⟩
    · subst hb
      exact ⟨a1, Or.inr rfl, a4⟩
  · rcases hf with hf | hf
    · obtain ⟨q1, q2⟩ := w2 f hf
      refine ⟨q1, ?_⟩
      rcases q2 with q2 | ⟨d, q3, q4, q5⟩
      · exact Or.inl q2
      · exact Or.inr ⟨d, q3, Or.inl q4, q5⟩
    · subst hf
      refine ⟨b1, ?_⟩
      rcases b2 with ⟨b2, -⟩ | ⟨x2, j2, q1, q2, q3, q4⟩
      · rw [ht] at b2; cases b2
      · rw [ht] at q1
        cases q1
        refine Or.inr ⟨x', ht, Or.inl w7, ?_⟩
        rcases q4 with ⟨q4, q5⟩ | q4
        · exact Or.inl ⟨q4, q5⟩
        · exact Or.inr q4
  · rcases hf with hf | hf
    · obtain ⟨b, q1, q2⟩ := w3 f hf
      exact ⟨b, Or.inl q1, q2⟩
    · exact ⟨x, Or.inr rfl, hf.symm⟩
  · rcases hf with hf | hf
    · rcases hf' with hf' | hf'
      · exact w4 f f' hf hf' he
      · rw [hf', ht] at he
        exact absurd he (w6 f hf)
    · rcases hf' with hf' | hf'
      · rw [hf, ht] at he
        exact absurd he.symm (w6 f' hf')
      · exact hf.trans hf'.symm
  · rcases hb with hb | hb
    · by_cases cb : b = x'
      · exact ⟨tB x, Or.inr rfl, by rw [ht, cb]⟩
      · obtain ⟨f, q1, q2⟩ := w5 b hb cb
        exact ⟨f, Or.inl q1, q2⟩
    · exact absurd hb hne
  · rcases hf with hf | hf
    · intro z
      rcases (w2 f hf).2 with ⟨q, -⟩ | ⟨d, q, q2, -⟩
      · rw [z] at q; cases q
      · rw [z] at q
        cases q
        exact nB q2
    · rw [hf, ht]
      intro z
      cases z
      have := nd_idx h1 hi hi'
      omega
  · rcases hb with hb | hb
    · obtain ⟨m, m1, m2⟩ := k1 b hb
      exact ⟨m, by omega, m2⟩
    · exact ⟨i, Nat.le_refl _, by rw [hb]; exact hi⟩
  · rcases hf with hf | hf
    · obtain ⟨m, m1, m2⟩ := k2 f hf
      exact ⟨m, by omega, m2⟩
    · exact ⟨j, hji, by rw [hf]; exact hj⟩
/-- a node more -/
theorem app_idx {Q : List Nat} {n i m : Nat} (h : (Q ++ [n])[i]? = some m) : Q[i]? = some m ∨ (i = Q.length ∧ m = n) := by
  by_cases c : i < Q.length
  · rw [List.getElem?_append_left c] at h; exact Or.inl h
  · rw [List.getElem?_append_right (by omega)] at h
    have : i - Q.length = 0 := by
      rcases Nat.eq_zero_or_pos (i - Q.length) with q | q
      · exact q
      · rw [List.getElem?_eq_none (by simp; omega)] at h; cases h
    rw [this] at h
    have h : n = m := by simpa using h
    exact Or.inr ⟨by omega, h.symm⟩
theorem idx_app {Q R : List Nat} {i m : Nat} (h : Q[i]? = some m) : (Q ++ R)[i]? = some m := by
  obtain ⟨h1, h2⟩ := List.getElem?_eq_some_iff.mp h
  rw [List.getElem?_append_left h1, h]
def up {α : Type} (f : Nat → α) (d : Nat) (v : α) : Nat → α := fun e => if e = d then v else f e
theorem SRf_app {s : Nat → Prop} {E : Nat → Nat → Prop} {u : Nat → Bool} {Q R : List Nat} {tF tF2 : Nat → Option Nat} {i d : Nat} (h : SRf s E u Q tF i d) (he : tF2 d = tF d) : SRf s E u (Q ++ R) tF2 i d := by
  unfold SRf
  rw [he]
  rcases h with h | ⟨x, j, q1, q2, q3, q4⟩
  · exact Or.inl h
  · exact Or.inr ⟨x, j, q1, q2, idx_app q3, q4⟩
theorem SRb_app {u : Nat → Bool} {c : Nat → Option Nat} {Q R : List Nat} {tB tB2 : Nat → Nat} {i d : Nat} (h : SRb u c Q tB i d) (he : tB2 d = tB d) : SRb u c (Q ++ R) tB2 i d := by
  unfold SRb
  rw [he]
  obtain ⟨j, q1, q2, q3⟩ := h
  exact ⟨j, q1, idx_app q2, q3⟩
theorem sr_front {N : Nat} {s : Nat → Prop} {E : Nat → Nat → Prop} {u : Nat → Bool} {c : Nat → Option Nat} {Q : List Nat} {tF : Nat → Option Nat} {tB : Nat → Nat} (h : SR N s E u c Q tF tB) {d : Nat} (hd : d < N) (hn : 2 * d ∉ Q) {p : Option Nat} (hp : (p = none ∧ s d) ∨ ∃ x, p = some x ∧ 2 * x + 1 ∈ Q ∧ ((x = d ∧ u d = true) ∨ (x ≠ d ∧ E x d))) : SR N s E u c (Q ++ [2 * d]) (up tF d p) tB := by
  obtain ⟨h1, h2, h3⟩ := h
  refine ⟨?_, fun i e hi => ?_, fun i e hi => ?_⟩
  · refine List.nodup_append.mpr ⟨h1, List.pairwise_singleton _ _, fun a ha b hb => ?_⟩
    rw [List.mem_singleton.mp hb]
    exact fun z => hn (by rw [← z]; exact ha)
  · rcases app_idx hi with q | ⟨q1, q2⟩
    · obtain ⟨a1, a2⟩ := h2 i e q
      have hne : e ≠ d := fun z => hn (by rw [← z]; exact List.mem_of_getElem? q)
      exact ⟨a1, SRf_app a2 (by unfold up; rw [if_neg hne])⟩
    · have he : e = d := by omega
      subst he
      refine ⟨hd, ?_⟩
      have eu : up tF e p e = p := by unfold up; rw [if_pos rfl]
      rcases hp with ⟨p1, p2⟩ | ⟨x, p1, p2, p3⟩
      · exact Or.inl ⟨by rw [eu]; exact p1, p2⟩
      · obtain ⟨j, hj, ej⟩ := List.getElem_of_mem p2
        exact Or.inr ⟨x, j, by rw [eu]; exact p1, by omega, idx_app (List.getElem?_eq_some_iff.mpr ⟨hj, ej⟩), p3⟩
  · rcases app_idx hi with q | ⟨q1, q2⟩
    · obtain ⟨a1, a2⟩ := h3 i e q
      exact ⟨a1, SRb_app a2 rfl⟩
    · omega
theorem sr_back {N : Nat} {s : Nat → Prop} {E : Nat → Nat → Prop} {u : Nat → Bool} {c : Nat → Option Nat} {Q : List Nat} {tF : Nat → Option Nat} {tB : Nat → Nat} (h : SR N s E u c Q tF tB) {d : Nat} (hd : d < N) (hn : 2 * d + 1 ∉ Q) {y : Nat} (hy : 2 * y ∈ Q) (hp : (y = d ∧ u d = false) ∨ (y ≠ d ∧ u y = true ∧ c y = some d)) : SR N s E u c (Q ++ [2 * d + 1]) tF (up tB d y) := by
  obtain ⟨h1, h2, h3⟩ := h
  refine ⟨?_, fun i e hi => ?_, fun i e hi => ?_⟩
  · refine List.nodup_append.mpr ⟨h1, List.pairwise_singleton _ _, fun a ha b hb => ?_⟩
    rw [List.mem_singleton.mp hb]
    exact fun z => hn (by rw [← z]; exact ha)
  · rcases app_idx hi with q | ⟨q1, q2⟩
    · obtain ⟨a1, a2⟩ := h2 i e q
      exact ⟨a1, SRf_app a2 rfl⟩
    · omega
  · rcases app_idx hi with q | ⟨q1, q2⟩
    · obtain ⟨a1, a2⟩ := h3 i e q
      have hne : e ≠ d := fun z => hn (by rw [← z]; exact List.mem_of_getElem? q)
      exact ⟨a1, SRb_app a2 (by unfold up; rw [if_neg hne])⟩
    · have he : e = d := by omega
      subst he
      refine ⟨hd, ?_⟩
      have eu : up tB e y e = y := by unfold up; rw [if_pos rfl]
      obtain ⟨j, hj, ej⟩ := List.getElem_of_mem hy
      unfold SRb
      rw [eu]
      exact ⟨j, by omega, idx_app (List.getElem?_eq_some_iff.mpr ⟨hj, ej⟩), hp⟩
/-- there are no more nodes than two for each door -/
theorem sr_len {N : Nat} {s : Nat → Prop} {E : Nat → Nat → Prop} {u : Nat → Bool} {c : Nat → Option Nat} {Q : List Nat} {tF : Nat → Option Nat} {tB : Nat → Nat} (h : SR N s E u c Q tF tB) : Q.length ≤ 2 * N := by
  obtain ⟨h1, h2, h3⟩ := h
  have := len_inj (R := fun x y : Nat => x = y) (fun x x' y a b => a.trans b.symm) Q (List.range (2 * N)) h1 (fun x hx => by
    obtain ⟨j, hj, ej⟩ := List.getElem_of_mem hx
    have hq := List.getElem?_eq_some_iff.mpr ⟨hj, ej⟩
    refine ⟨x, List.mem_range.mpr ?_, rfl⟩
    rcases (show x = 2 * (x / 2) ∨ x = 2 * (x / 2) + 1 by omega) with q | q
    · rw [q] at hq
      have := (h2 j _ hq).1
      omega
    · rw [q] at hq
      have := (h3 j _ hq).1
      omega)
  rw [List.length_range] at this
  exact this
theorem sr_lt {N : Nat} {s : Nat → Prop} {E : Nat → Nat → Prop} {u : Nat → Bool} {c : Nat → Option Nat} {Q : List Nat} {tF : Nat → Option Nat} {tB : Nat → Nat} (h : SR N s E u c Q tF tB) {n : Nat} (hn : n ∈ Q) : n / 2 < N := by
  obtain ⟨h1, h2, h3⟩ := h
  obtain ⟨j, hj, ej⟩ := List.getElem_of_mem hn
  have hq := List.getElem?_eq_some_iff.mpr ⟨hj, ej⟩
  rcases (show n = 2 * (n / 2) ∨ n = 2 * (n / 2) + 1 by omega) with q | q
  · rw [q] at hq
    exact (h2 j _ hq).1
  · rw [q] at hq
    exact (h3 j _ hq).1
