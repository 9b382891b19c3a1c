/-! THE REFERENCE MEETS FRONTS AND BACKS -/
def mF : Option Nat → Int32
  | none => -2
  | some x => nI (2 * x + 1)
def RQ (S : sd_St) (N : Nat) (Q : List Nat) (tF : Nat → Option Nat) (tB : Nat → Nat) : Prop := S.1 130 28 = nI Q.length ∧ (∀ i n, Q[i]? = some n → S.1 149 i = nI n) ∧ (∀ d, d < N → S.1 148 (2 * d) = if 2 * d ∈ Q then mF (tF d) else -1) ∧ ∀ d, d < N → S.1 148 (2 * d + 1) = if 2 * d + 1 ∈ Q then nI (2 * tB d) else -1
def FRM (S S2 : sd_St) : Prop := frm (fun a => a = 130 ∨ a = 148 ∨ a = 149) S S2 ∧ ∀ j, j ≠ 28 → S2.1 130 j = S.1 130 j
theorem FRM_rfl {S : sd_St} : FRM S S := ⟨frm_rfl, fun _ _ => rfl⟩
theorem FRM_trans {S S2 S3 : sd_St} (h : FRM S S2) (g : FRM S2 S3) : FRM S S3 := ⟨frm_trans h.1 g.1 (fun _ h => h) (fun _ h => h), fun j hj => (g.2 j hj).trans (h.2 j hj)⟩
theorem n_meet0 {S : sd_St} {Q : List Nat} {k : Nat} {v : Int32} (hk : k < 576) (hl : Q.length < 576) (h28 : S.1 130 28 = nI Q.length) (h148 : S.1 148 k = -1) : ∃ S2, f_X12_meets (nI k) v S = some ((), S2) ∧ S2.1 130 28 = nI (Q.length + 1) ∧ (∀ j, S2.1 148 j = if j = k then v else S.1 148 j) ∧ (∀ j, S2.1 149 j = if j = Q.length then nI k else S.1 149 j) ∧ FRM S S2 := by
  have hal := al143
  obtain ⟨A1, hA1⟩ : ∃ A, A = sd_I S 148 k v := ⟨_, rfl⟩
  have f1 : A1.1 130 28 = nI Q.length := by rw [hA1, rI_cell (by decide)]; exact h28
  obtain ⟨A2, hA2⟩ : ∃ A, A = sd_I A1 149 Q.length (nI k) := ⟨_, rfl⟩
  have f2 : A2.1 130 28 = nI Q.length := by rw [hA2, rI_cell (by decide)]; exact f1
  obtain ⟨A3, hA3⟩ : ∃ A, A = sd_I A2 130 28 (nI (Q.length + 1)) := ⟨_, rfl⟩
  refine ⟨A3, ?_, by rw [hA3, rI_same], fun j => ?_, fun j => ?_, ⟨⟨fun a ha => ?_, fun a _ => by rw [hA3, hA2, hA1]; rfl⟩, fun j hj => ?_⟩⟩
  · unfold f_X12_meets
    rw [sd_ld_ok (by rw [hal.2.2.2.2.2.1]; omega) (sd_al_lt _), h148, if_pos rfl, sd_st_ok (by rw [hal.2.2.2.2.2.1]; omega) (sd_al_lt _), ← hA1, f1, sd_st_ok (by rw [hal.2.2.2.2.2.2.1]; omega) (sd_al_lt _), ← hA2, f2, nI_1, sd_nm_eq, ← hA3]
  · rw [hA3, rI_cell (by decide), hA2, rI_cell (by decide), hA1, rI]; simp
  · rw [hA3, rI_cell (by decide), hA2, rI, hA1, rI_cell (by decide)]; simp
  · rw [hA3, rI_cell (by omega), hA2, rI_cell (by omega), hA1, rI_cell (by omega)]
  · rw [hA3, rI_oth hj, hA2, rI_cell (by decide), hA1, rI_cell (by decide)]
theorem n_meetN {S : sd_St} {k : Nat} {v : Int32} (hk : k < 576) (h148 : ¬ S.1 148 k = -1) : f_X12_meets (nI k) v S = some ((), S) := by
  unfold f_X12_meets
  rw [sd_ld_ok (by rw [al143.2.2.2.2.2.1]; omega) (sd_al_lt _), if_neg h148]
theorem mF_ne {p : Option Nat} (h : ∀ x, p = some x → x < 2 ^ 29) : ¬ mF p = (-1 : Int32) := by
  cases p with
  | none => exact (by decide : ¬ (-2 : Int32) = -1)
  | some x => exact nI_neg1 (by have := h x rfl; omega)
theorem n_mF {s : Nat → Prop} {E : Nat → Nat → Prop} {u : Nat → Bool} {c : Nat → Option Nat} {N : Nat} (h288 : N ≤ 288) {S : sd_St} {Q : List Nat} {tF : Nat → Option Nat} {tB : Nat → Nat} (h : SR N s E u c Q tF tB) (g : RQ S N Q tF tB) {d : Nat} (h2 : d < N) {p : Option Nat} (hp : PAR s E u Q p d) : ∃ S2 R tF2, f_X12_meets (nI (2 * d)) (mF p) S = some ((), S2) ∧ SR N s E u c (Q ++ R) tF2 tB ∧ RQ S2 N (Q ++ R) tF2 tB ∧ 2 * d ∈ Q ++ R ∧ FRM S S2 := by
  obtain ⟨g1, g2, g3, g4⟩ := g
  have e148 := g3 d h2
  by_cases cq : 2 * d ∈ Q
  · rw [if_pos cq] at e148
    have hne : ¬ mF (tF d) = (-1 : Int32) := by
      refine mF_ne (fun x hx => ?_)
      obtain ⟨j, hj, ej⟩ := List.getElem_of_mem cq
      obtain ⟨-, q⟩ := h.2.1 j d (List.getElem?_eq_some_iff.mpr ⟨hj, ej⟩)
      rcases q with ⟨q, -⟩ | ⟨x', j', q, -, q3, -⟩
      · rw [hx] at q; cases q
      · rw [hx] at q
        cases q
        have := sr_lt h (List.mem_of_getElem? q3)
        omega
    refine ⟨S, [], tF, n_meetN (by omega) (by rw [e148]; exact hne), ?_, ?_, ?_, FRM_rfl⟩
    · rw [List.append_nil]; exact h
    · rw [List.append_nil]; exact ⟨g1, g2, g3, g4⟩
    · rw [List.append_nil]; exact cq
  · rw [if_neg cq] at e148
    have h' := sr_front h h2 cq hp
    have hlen := sr_len h'
    rw [List.length_append] at hlen
    have hlen : Q.length + 1 ≤ 2 * N := hlen
    obtain ⟨S2, e1, e2, e3, e4, e5⟩ := n_meet0 (Q := Q) (v := mF p) (show 2 * d < 576 by omega) (by omega) g1 e148
    refine ⟨S2, [2 * d], up tF d p, e1, h', ⟨?_, fun i n hi => ?_, fun e b => ?_, fun e b => ?_⟩, List.mem_append_right _ (List.mem_singleton_self _), e5⟩
    · rw [e2, List.length_append]; rfl
    · rw [e4]
      rcases app_idx hi with q | ⟨q1, q2⟩
      · have := (List.getElem?_eq_some_iff.mp q).1
        rw [if_neg (by omega)]; exact g2 i n q
      · rw [if_pos q1, q2]
    · rw [e3]
      by_cases ce : e = d
      · rw [if_pos (by omega), if_pos (by rw [ce]; exact List.mem_append_right _ (List.mem_singleton_self _))]
        unfold up
        rw [if_pos ce]
      · rw [if_neg (by omega), g3 e b]
        have : (2 * e ∈ Q ++ [2 * d]) ↔ 2 * e ∈ Q := by
          rw [List.mem_append, List.mem_singleton]
          exact ⟨fun z => z.elim id (fun w => absurd w (by omega)), Or.inl⟩
        unfold up
        simp only [this, if_neg ce]
    · rw [e3, if_neg (by omega), g4 e b]
      have : (2 * e + 1 ∈ Q ++ [2 * d]) ↔ 2 * e + 1 ∈ Q := by
        rw [List.mem_append, List.mem_singleton]
        exact ⟨fun z => z.elim id (fun w => absurd w (by omega)), Or.inl⟩
      simp only [this]
theorem n_mB {s : Nat → Prop} {E : Nat → Nat → Prop} {u : Nat → Bool} {c : Nat → Option Nat} {N : Nat} (h288 : N ≤ 288) {S : sd_St} {Q : List Nat} {tF : Nat → Option Nat} {tB : Nat → Nat} (h : SR N s E u c Q tF tB) (g : RQ S N Q tF tB) {d : Nat} (h2 : d < N) {y : Nat} (hy : 2 * y ∈ Q) (hp : (y = d ∧ u d = false) ∨ (y ≠ d ∧ u y = true ∧ c y = some d)) : ∃ S2 R tB2, f_X12_meets (nI (2 * d + 1)) (nI (2 * y)) S = some ((), S2) ∧ SR N s E u c (Q ++ R) tF tB2 ∧ RQ S2 N (Q ++ R) tF tB2 ∧ 2 * d + 1 ∈ Q ++ R ∧ FRM S S2 := by
  obtain ⟨g1, g2, g3, g4⟩ := g
  have e148 := g4 d h2
  have hyl := sr_lt h hy
  by_cases cq : 2 * d + 1 ∈ Q
  · rw [if_pos cq] at e148
    have hne : ¬ nI (2 * tB d) = (-1 : Int32) := by
      obtain ⟨j, hj, ej⟩ := List.getElem_of_mem cq
      obtain ⟨-, j', -, q3, -⟩ := h.2.2 j d (List.getElem?_eq_some_iff.mpr ⟨hj, ej⟩)
      have := sr_lt h (List.mem_of_getElem? q3)
      exact nI_neg1 (by omega)
    refine ⟨S, [], tB, n_meetN (by omega) (by rw [e148]; exact hne), ?_, ?_, ?_, FRM_rfl⟩
    · rw [List.append_nil]; exact h
    · rw [List.append_nil]; exact ⟨g1, g2, g3, g4⟩
    · rw [List.append_nil]; exact cq
  · rw [if_neg cq] at e148
    have h' := sr_back h h2 cq hy hp
    have hlen := sr_len h'
    rw [List.length_append] at hlen
    have hlen : Q.length + 1 ≤ 2 * N := hlen
    obtain ⟨S2, e1, e2, e3, e4, e5⟩ := n_meet0 (Q := Q) (v := nI (2 * y)) (show 2 * d + 1 < 576 by omega) (by omega) g1 e148
    refine ⟨S2, [2 * d + 1], up tB d y, e1, h', ⟨?_, fun i n hi => ?_, fun e b => ?_, fun e b => ?_⟩, List.mem_append_right _ (List.mem_singleton_self _), e5⟩
    · rw [e2, List.length_append]; rfl
    · rw [e4]
      rcases app_idx hi with q | ⟨q1, q2⟩
      · have := (List.getElem?_eq_some_iff.mp q).1
        rw [if_neg (by omega)]; exact g2 i n q
      · rw [if_pos q1, q2]
    · rw [e3, if_neg (by omega), g3 e b]
      have : (2 * e ∈ Q ++ [2 * d + 1]) ↔ 2 * e ∈ Q := by
        rw [List.mem_append, List.mem_singleton]
        exact ⟨fun z => z.elim id (fun w => absurd w (by omega)), Or.inl⟩
      simp only [this]
    · rw [e3]
      by_cases ce : e = d
      · rw [if_pos (by omega), if_pos (by rw [ce]; exact List.mem_append_right _ (List.mem_singleton_self _))]
        unfold up
        rw [if_pos ce]
      · rw [if_neg (by omega), g4 e b]
        have : (2 * e + 1 ∈ Q ++ [2 * d + 1]) ↔ 2 * e + 1 ∈ Q := by
          rw [List.mem_append, List.mem_singleton]
          exact ⟨fun z => z.elim id (fun w => absurd w (by omega)), Or.inl⟩
        unfold up
        simp only [this, if_neg ce]
/-- who informs whom -/
def EVs (S : sd_St) (T : TW) (M : List (Nat × Nat)) : Prop := RTg (S.1 136) T ∧ EVR S M ∧ M.length ≤ 288 ∧ (∀ i, i < M.length → dD M i < 4392 ∧ dH M i < tn T) ∧ ∀ i j, i < j → j < M.length → dD M i ≤ dD M j
theorem ev_at {S : sd_St} {M : List (Nat × Nat)} (h : EVR S M) {i : Nat} (hi : i < M.length) : S.1 143 i = nI (dH M i) ∧ S.1 144 i = nI (dD M i) := by
  have e : M[i]? = some (dD M i, dH M i) := by
    unfold dD dH
    rw [List.getElem?_eq_getElem hi, List.getD_eq_getElem?_getD, List.getElem?_eq_getElem hi]
    rfl
  exact h.2 i _ _ e
theorem n_informs {S : sd_St} {T : TW} (hw : wfT T) {M : List (Nat × Nat)} (h : EVs S T M) {d e : Nat} (hd : d < M.length) (he : e < M.length) : ∃ v, f_X12_informs (nI d) (nI e) S = some (v, S) ∧ ((v = 0 ∧ ¬ grE T M d e) ∨ (v = 1 ∧ grE T M d e)) := by
  obtain ⟨h1, h2, h3, h4, h5⟩ := h
  have hal := al143
  have h12 := hw.1
  obtain ⟨d1, d2⟩ := ev_at h2 hd
  obtain ⟨e1, e2⟩ := ev_at h2 he
  obtain ⟨d3, d4⟩ := h4 d hd
  obtain ⟨e3, e4⟩ := h4 e he
  unfold f_X12_informs grE guestB
  rw [sd_ld_ok (by rw [hal.2.1]; omega) (sd_al_lt _), sd_ld_ok (by rw [hal.2.1]; omega) (sd_al_lt _), d2, e2]
  by_cases c : dD M e ≤ dD M d
  · exact ⟨0, by rw [if_pos (nI_le c (by omega))], Or.inl ⟨rfl, fun z => by have := z.2; omega⟩⟩
  · rw [if_neg (nI_ge (by omega) (by omega)), sd_ld_ok (by rw [hal.1]; omega) (sd_al_lt _), sd_ld_ok (by rw [hal.1]; omega) (sd_al_lt _), d1, e1, sd_cl_ok (n_calls h1 hw (by omega) d4)]
    cases cc : (tc T (dH M d)).testBit (dH M e) with
    | false => exact ⟨0, by rw [if_pos (by decide)], Or.inl ⟨rfl, fun z => by cases z.1⟩⟩
    | true =>
      rw [if_neg (by decide), sd_ld_ok (by rw [hal.1]; omega) (sd_al_lt _), sd_ld_ok (by rw [hal.2.1]; omega) (sd_al_lt _), d2, e1, sd_cl_ok (n_isGone h1 hw (by omega) d3)]
      cases cg : goneB T (dH M e) (dD M d) with
      | false => exact ⟨1, by rw [if_pos (by decide)], Or.inr ⟨rfl, rfl, by omega⟩⟩
      | true => exact ⟨0, by rw [if_neg (by decide)], Or.inl ⟨rfl, fun z => by cases z.1⟩⟩
