/-! THE CLASS SEARCHES A WAY -/
theorem nI_sh1 {a : Nat} (ha : a < 8192) : nI a <<< ((1 : Int32) &&& 31) = nI (a * 2) := pk_shlN _ 1 (by decide) (by omega)
theorem nI_sr1 {a : Nat} (ha : a < 2 ^ 31) : nI a >>> ((1 : Int32) &&& 31) = nI (a / 2) := pk_shrN ha _ 1 (by decide)
theorem nI_and1 {a : Nat} (ha : a < 2 ^ 31) : nI a &&& (1 : Int32) = nI (a % 2) := pk_andN (by omega) 1 (by decide)
theorem nI_or1 {a : Nat} : nI (a * 2) ||| (1 : Int32) = nI (2 * a + 1) := by
  rw [show (1 : Int32) = nI 1 from rfl, nI_or]
  congr 1
  have := Nat.two_pow_add_eq_or_of_lt (i := 1) (b := 1) (by omega) a
  rw [Nat.mul_comm a 2]
  exact this.symm
theorem nI_neg2 {a : Nat} (h : a < 2 ^ 31) : ¬ nI a = -2 := by
  intro e
  have h1 := nI_toInt h
  rw [e] at h1
  have h2 : (-2 : Int32).toInt = -2 := by decide
  omega
theorem lkI_ne {p : Option Nat} (h : ∀ x, p = some x → x < 2 ^ 31) : ¬ lkI p = (-2 : Int32) := by
  cases p with
  | none => exact (by decide : ¬ (-1 : Int32) = -2)
  | some x => exact nI_neg2 (h x rfl)
/-- the search as the class holds it -/
def CQ (S : sd_St) (lo hi : Nat) (Q : List Nat) (tF : Nat → Option Nat) (tB : Nat → Nat) : Prop := S.1 62 11 = nI Q.length ∧ (∀ i n, Q[i]? = some n → S.1 70 i = nI n) ∧ (∀ d, lo ≤ d → d < hi → S.1 67 d = if 2 * d ∈ Q then lkI (tF d) else -2) ∧ (∀ d, lo ≤ d → d < hi → S.1 68 d = if 2 * d + 1 ∈ Q then nI (tB d) else -2) ∧ ∀ n ∈ Q, 2 * lo ≤ n
def FQ (S S2 : sd_St) : Prop := frm (fun a => a = 62 ∨ (67 ≤ a ∧ a ≤ 70)) S S2 ∧ ∀ j, j ≠ 11 → S2.1 62 j = S.1 62 j
theorem FQ_rfl {S : sd_St} : FQ S S := ⟨frm_rfl, fun _ _ => rfl⟩
theorem FQ_trans {S S2 S3 : sd_St} (h : FQ S S2) (g : FQ S2 S3) : FQ S S3 := ⟨frm_trans h.1 g.1 (fun _ h => h) (fun _ h => h), fun j hj => (g.2 j hj).trans (h.2 j hj)⟩
def PAR (s : Nat → Prop) (E : Nat → Nat → Prop) (u : Nat → Bool) (Q : List Nat) (p : Option Nat) (d : Nat) : Prop := (p = none ∧ s d) ∨ ∃ x, p = some x ∧ 2 * x + 1 ∈ Q ∧ ((x = d ∧ u d = true) ∨ (x ≠ d ∧ E x d))
theorem PAR_app {s : Nat → Prop} {E : Nat → Nat → Prop} {u : Nat → Bool} {Q : List Nat} {p : Option Nat} {d : Nat} (h : PAR s E u Q p d) (R : List Nat) : PAR s E u (Q ++ R) p d := by
  rcases h with h | ⟨x, q1, q2, q3⟩
  · exact Or.inl h
  · exact Or.inr ⟨x, q1, List.mem_append_left _ q2, q3⟩
theorem m_rF {s : Nat → Prop} {E : Nat → Nat → Prop} {u : Nat → Bool} {c : Nat → Option Nat} {lo hi : Nat} (h288 : hi ≤ 288) {S : sd_St} {Q : List Nat} {tF : Nat → Option Nat} {tB : Nat → Nat} (h : SR hi s E u c Q tF tB) (g : CQ S lo hi Q tF tB) {d : Nat} (h1 : lo ≤ d) (h2 : d < hi) {p : Option Nat} (hp : PAR s E u Q p d) : ∃ S2 R tF2, f_X6_reachFront 62 (nI d) (lkI p) S = some ((), S2) ∧ SR hi s E u c (Q ++ R) tF2 tB ∧ CQ S2 lo hi (Q ++ R) tF2 tB ∧ 2 * d ∈ Q ++ R ∧ FQ S S2 ∧ S2.1 69 = S.1 69 := by
  have hal := al6
  obtain ⟨g1, g2, g3, g4, g5⟩ := g
  have hp31 : ∀ x, p = some x → x < 2 ^ 31 := by
    intro x hx
    rcases hp with ⟨q, -⟩ | ⟨x', q, q2, -⟩
    · rw [hx] at q; cases q
    · rw [hx] at q
      cases q
      have := sr_lt h q2
      omega
  unfold f_X6_reachFront
  simp only [Nat.reduceAdd]
  rw [sd_ld_ok (by rw [hal.2.2.2.2.1]; omega) (sd_al_lt _), g3 d h1 h2]
  by_cases cq : 2 * d ∈ Q
  · rw [if_pos cq]
    have hne : ¬ lkI (tF d) = (-2 : Int32) := by
      refine lkI_ne (fun x hx => ?_)
      obtain ⟨j, hj, ej⟩ := List.getElem_of_mem cq
      obtain ⟨-, q⟩ := h.2.1 j d (List.getElem?_eq_some_iff.mpr ⟨hj, ej⟩)
      rcases q with ⟨q, -⟩ | ⟨x', j', q, -, q3, -⟩
      · rw [hx] at q; cases q
      · rw [hx] at q
        cases q
        have := sr_lt h (List.mem_of_getElem? q3)
        omega
    rw [if_neg hne]
    refine ⟨S, [], tF, rfl, ?_, ?_, ?_, FQ_rfl, rfl⟩
    · rw [List.append_nil]; exact h
    · rw [List.append_nil]; exact ⟨g1, g2, g3, g4, g5⟩
    · rw [List.append_nil]; exact cq
  · have h' := sr_front h h2 cq hp
    have hlen := sr_len h'
    rw [List.length_append] at hlen
    have hlen : Q.length + 1 ≤ 2 * hi := hlen
    rw [if_neg cq, if_pos rfl, hal.2.2.2.2.2.2.2.1, g1, if_neg (show ¬ Int32.ofNat 576 ≤ nI Q.length from nI_ge (b := 576) (by omega) (by omega)), sd_st_ok (by rw [hal.2.2.2.2.1]; omega) (sd_al_lt _)]
    obtain ⟨A1, hA1⟩ : ∃ A, A = sd_I S 67 d (lkI p) := ⟨_, rfl⟩
    have f1 : A1.1 62 11 = nI Q.length := by rw [hA1, rI_cell (by decide)]; exact g1
    rw [← hA1, f1, nI_sh1 (by omega), sd_st_ok (by rw [hal.2.2.2.2.2.2.2.1]; omega) (sd_al_lt _)]
    obtain ⟨A2, hA2⟩ : ∃ A, A = sd_I A1 70 Q.length (nI (d * 2)) := ⟨_, rfl⟩
    have f2 : A2.1 62 11 = nI Q.length := by rw [hA2, rI_cell (by decide)]; exact f1
    rw [← hA2, f2, nI_1, sd_nm_eq]
    obtain ⟨A3, hA3⟩ : ∃ A, A = sd_I A2 62 11 (nI (Q.length + 1)) := ⟨_, rfl⟩
    rw [← hA3]
    have o67 : ∀ e, A3.1 67 e = if e = d then lkI p else S.1 67 e := by
      intro e
      rw [hA3, rI_cell (by decide), hA2, rI_cell (by decide), hA1, rI]; simp
    have o70 : ∀ e, A3.1 70 e = if e = Q.length then nI (d * 2) else S.1 70 e := by
      intro e
      rw [hA3, rI_cell (by decide), hA2, rI, hA1, rI_cell (by decide)]; simp
    have oo : ∀ a, a ≠ 62 → a ≠ 67 → a ≠ 70 → A3.1 a = S.1 a := fun a z1 z2 z3 => by rw [hA3, rI_cell z1, hA2, rI_cell z3, hA1, rI_cell z2]
    refine ⟨A3, [2 * d], up tF d p, rfl, h', ⟨?_, fun i n hi => ?_, fun e a b => ?_, fun e a b => ?_, fun n hn => ?_⟩, List.mem_append_right _ (List.mem_singleton_self _), ⟨⟨fun a ha => oo a (by omega) (by omega) (by omega), fun a _ => by rw [hA3, hA2, hA1]; rfl⟩, fun j hj => ?_⟩, oo 69 (by decide) (by decide) (by decide)⟩
    · rw [hA3, rI_same, List.length_append]; rfl
    · rw [o70]
      rcases app_idx hi with q | ⟨q1, q2⟩
      · have := (List.getElem?_eq_some_iff.mp q).1
        rw [if_neg (by omega)]; exact g2 i n q
      · rw [if_pos q1, q2, Nat.mul_comm]
    · rw [o67]
      by_cases ce : e = d
      · rw [if_pos ce, if_pos (by rw [ce]; exact List.mem_append_right _ (List.mem_singleton_self _))]
        unfold up
        rw [if_pos ce]
      · rw [if_neg ce, g3 e a b]
        have : (2 * e ∈ Q ++ [2 * d]) ↔ 2 * e ∈ Q := by
          rw [List.mem_append, List.mem_singleton]
          exact ⟨fun z => z.elim id (fun w => absurd w (by omega)), Or.inl⟩
        unfold up
        simp only [this, if_neg ce]
    · rw [oo 68 (by decide) (by decide) (by decide), g4 e a b]
      have : (2 * e + 1 ∈ Q ++ [2 * d]) ↔ 2 * e + 1 ∈ Q := by
        rw [List.mem_append, List.mem_singleton]
        exact ⟨fun z => z.elim id (fun w => absurd w (by omega)), Or.inl⟩
      simp only [this]
    · rcases List.mem_append.mp hn with q | q
      · exact g5 n q
      · have := List.mem_singleton.mp q
        omega
    · rw [hA3, rI_oth hj, hA2, rI_cell (by decide), hA1, rI_cell (by decide)]
theorem m_rB {s : Nat → Prop} {E : Nat → Nat → Prop} {u : Nat → Bool} {c : Nat → Option Nat} {lo hi : Nat} (h288 : hi ≤ 288) {S : sd_St} {Q : List Nat} {tF : Nat → Option Nat} {tB : Nat → Nat} (h : SR hi s E u c Q tF tB) (g : CQ S lo hi Q tF tB) {d : Nat} (h1 : lo ≤ d) (h2 : d < hi) {y : Nat} (hy : 2 * y ∈ Q) (hp : (y = d ∧ u d = false) ∨ (y ≠ d ∧ u y = true ∧ c y = some d)) : ∃ S2 R tB2, f_X6_reachBack 62 (nI d) (nI y) S = some ((), S2) ∧ SR hi s E u c (Q ++ R) tF tB2 ∧ CQ S2 lo hi (Q ++ R) tF tB2 ∧ 2 * d + 1 ∈ Q ++ R ∧ FQ S S2 ∧ S2.1 69 = S.1 69 := by
  have hal := al6
  obtain ⟨g1, g2, g3, g4, g5⟩ := g
  have hyl := sr_lt h hy
  unfold f_X6_reachBack
  simp only [Nat.reduceAdd]
  rw [sd_ld_ok (by rw [hal.2.2.2.2.2.1]; omega) (sd_al_lt _), g4 d h1 h2]
  by_cases cq : 2 * d + 1 ∈ Q
  · rw [if_pos cq]
    have hne : ¬ nI (tB d) = (-2 : Int32) := by
      obtain ⟨j, hj, ej⟩ := List.getElem_of_mem cq
      obtain ⟨-, j', -, q3, -⟩ := h.2.2 j d (List.getElem?_eq_some_iff.mpr ⟨hj, ej⟩)
      have := sr_lt h (List.mem_of_getElem? q3)
      exact nI_neg2 (by omega)
    rw [if_neg hne]
    refine ⟨S, [], tB, rfl, ?_, ?_, ?_, FQ_rfl, rfl⟩
    · rw [List.append_nil]; exact h
    · rw [List.append_nil]; exact ⟨g1, g2, g3, g4, g5⟩
    · rw [List.append_nil]; exact cq
  · have h' := sr_back h h2 cq hy hp
    have hlen := sr_len h'
    rw [List.length_append] at hlen
    have hlen : Q.length + 1 ≤ 2 * hi := hlen
    rw [if_neg cq, if_pos rfl, hal.2.2.2.2.2.2.2.1, g1, if_neg (show ¬ Int32.ofNat 576 ≤ nI Q.length from nI_ge (b := 576) (by omega) (by omega)), sd_st_ok (by rw [hal.2.2.2.2.2.1]; omega) (sd_al_lt _)]
    obtain ⟨A1, hA1⟩ : ∃ A, A = sd_I S 68 d (nI y) := ⟨_, rfl⟩
    have f1 : A1.1 62 11 = nI Q.length := by rw [hA1, rI_cell (by decide)]; exact g1
    rw [← hA1, f1, nI_sh1 (by omega), nI_or1, sd_st_ok (by rw [hal.2.2.2.2.2.2.2.1]; omega) (sd_al_lt _)]
    obtain ⟨A2, hA2⟩ : ∃ A, A = sd_I A1 70 Q.length (nI (2 * d + 1)) := ⟨_, rfl⟩
    have f2 : A2.1 62 11 = nI Q.length := by rw [hA2, rI_cell (by decide)]; exact f1
    rw [← hA2, f2, nI_1, sd_nm_eq]
    obtain ⟨A3, hA3⟩ : ∃ A, A = sd_I A2 62 11 (nI (Q.length + 1)) := ⟨_, rfl⟩
    rw [← hA3]
    have o68 : ∀ e, A3.1 68 e = if e = d then nI y else S.1 68 e := by
      intro e
      rw [hA3, rI_cell (by decide), hA2, rI_cell (by decide), hA1, rI]; simp
    have o70 : ∀ e, A3.1 70 e = if e = Q.length then nI (2 * d + 1) else S.1 70 e := by
      intro e
      rw [hA3, rI_cell (by decide), hA2, rI, hA1, rI_cell (by decide)]; simp
    have oo : ∀ a, a ≠ 62 → a ≠ 68 → a ≠ 70 → A3.1 a = S.1 a := fun a z1 z2 z3 => by rw [hA3, rI_cell z1, hA2, rI_cell z3, hA1, rI_cell z2]
    refine ⟨A3, [2 * d + 1], up tB d y, rfl, h', ⟨?_, fun i n hi => ?_, fun e a b => ?_, fun e a b => ?_, fun n hn => ?_⟩, List.mem_append_right _ (List.mem_singleton_self _), ⟨⟨fun a ha => oo a (by omega) (by omega) (by omega), fun a _ => by rw [hA3, hA2, hA1]; rfl⟩, fun j hj => ?_⟩, oo 69 (by decide) (by decide) (by decide)⟩
    · rw [hA3, rI_same, List.length_append]; rfl
    · rw [o70]
      rcases app_idx hi with q | ⟨q1, q2⟩
      · have := (List.getElem?_eq_some_iff.mp q).1
        rw [if_neg (by omega)]; exact g2 i n q
      · rw [if_pos q1, q2]
    · rw [oo 67 (by decide) (by decide) (by decide), g3 e a b]
      have : (2 * e ∈ Q ++ [2 * d + 1]) ↔ 2 * e ∈ Q := by
        rw [List.mem_append, List.mem_singleton]
        exact ⟨fun z => z.elim id (fun w => absurd w (by omega)), Or.inl⟩
      simp only [this]
    · rw [o68]
      by_cases ce : e = d
      · rw [if_pos ce, if_pos (by rw [ce]; exact List.mem_append_right _ (List.mem_singleton_self _))]
        unfold up
        rw [if_pos ce]
      · rw [if_neg ce, g4 e a b]
        have : (2 * e + 1 ∈ Q ++ [2 * d + 1]) ↔ 2 * e + 1 ∈ Q := by
          rw [List.mem_append, List.mem_singleton]
          exact ⟨fun z => z.elim id (fun w => absurd w (by omega)), Or.inl⟩
        unfold up
        simp only [this, if_neg ce]
    · rcases List.mem_append.mp hn with q | q
      · exact g5 n q
      · have := List.mem_singleton.mp q
        omega
    · rw [hA3, rI_oth hj, hA2, rI_cell (by decide), hA1, rI_cell (by decide)]
