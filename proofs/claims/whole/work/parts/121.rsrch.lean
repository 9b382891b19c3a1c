/-! THE REFERENCE'S SEARCH, whole -/
def PROr (T : TW) (M : List (Nat × Nat)) (g : Nat) (u : Nat → Bool) (c : Nat → Option Nat) (Q : List Nat) (i : Nat) : Prop := ∀ j, j < i → (∀ d, Q[j]? = some (2 * d) → (u d = false → 2 * d + 1 ∈ Q) ∧ ∀ b, u d = true → c d = some b → 2 * b + 1 ∈ Q) ∧ ∀ d, Q[j]? = some (2 * d + 1) → (∀ e, d < e → e < M.length → grE T M d e → 2 * e ∈ Q ∨ (u e = true ∧ c e = some d)) ∧ (u d = true → 2 * d ∈ Q) ∧ ¬ grT T M g d
theorem PROr_app {T : TW} {M : List (Nat × Nat)} {g : Nat} {u : Nat → Bool} {c : Nat → Option Nat} {Q : List Nat} {i : Nat} (h : PROr T M g u c Q i) (hi' : i ≤ Q.length) (R : List Nat) : PROr T M g u c (Q ++ R) i := by
  intro j hj
  obtain ⟨a, b⟩ := h j hj
  refine ⟨fun d hd => ?_, fun d hd => ?_⟩
  · obtain ⟨a1, a2⟩ := a d (idx_app' (by omega) hd)
    exact ⟨fun z => List.mem_append_left _ (a1 z), fun b z1 z2 => List.mem_append_left _ (a2 b z1 z2)⟩
  · obtain ⟨b1, b2, b3⟩ := b d (idx_app' (by omega) hd)
    refine ⟨fun e z1 z2 z3 => ?_, fun z => List.mem_append_left _ (b2 z), b3⟩
    rcases b1 e z1 z2 z3 with q | q
    · exact Or.inl (List.mem_append_left _ q)
    · exact Or.inr q
/-- from a front -/
theorem n_front {T : TW} {M : List (Nat × Nat)} {b f g : Nat} {u : Nat → Bool} {c : Nat → Option Nat} {tB : Nat → Nat} (hG : GF M.length (grS M b f) (grT T M g) (grE T M) u c) (q98 : Int32 → Int32 → sd_St → Option (Int32 × sd_St)) {x3 : Int32} {i d : Nat} {S : sd_St} {Q : List Nat} {tF : Nat → Option Nat} (hRS : RS T M b f u c S Q tF tB) (hix : Q[i]? = some (2 * d)) : ∃ S2 R tB2, sd_ld S 145 (nI d) (fun v_39 => (if v_39 = 0 then sd_ld S 149 (nI i) (fun v_41 => sd_cl (f_X12_meets (((2 : Int32) * nI d) + (1 : Int32)) v_41 S) (fun _ S_42 => f_X12_findWay_b157 q98 x3 (nI i) (nI d) S_42)) else f_X12_findWay_b157 q98 x3 (nI i) (nI d) S)) = q98 x3 (nI (i + 1)) S2 ∧ RS T M b f u c S2 (Q ++ R) tF tB2 ∧ (u d = false → 2 * d + 1 ∈ Q ++ R) ∧ (∀ b, u d = true → c d = some b → 2 * b + 1 ∈ Q ++ R) ∧ FRM S S2 := by
  have hal := al143
  obtain ⟨h1, h2, h3, h4, h5⟩ := hRS
  have h288 := h3.2.2.1
  have hlen := sr_len h1
  have hil := (List.getElem?_eq_some_iff.mp hix).1
  have hdm := List.mem_of_getElem? hix
  have hd := sr_lt h1 hdm
  have hdN : d < M.length := by omega
  have e149 := h2.2.1 i _ hix
  obtain ⟨u1, u2, u3⟩ := h4.1 d hdN
  have e21 : ∀ a : Nat, (2 : Int32) * nI a + (1 : Int32) = nI (2 * a + 1) := fun a => by rw [show (2 : Int32) = nI 2 from rfl, nI_mul, nI_1]
  rw [sd_ld_ok (by rw [hal.2.2.1]; omega) (sd_al_lt _), u1]
  cases cu : u d with
  | false =>
    obtain ⟨S2, R, tB2, a1, a2, a3, a4, a5⟩ := n_mB (by omega) h1 h2 hdN hdm (Or.inl ⟨rfl, cu⟩)
    refine ⟨S2, R, tB2, ?_, ⟨a2, a3, EVs_fr h3 a5, RFL_fr h4 a5, NX_fr h5 a5⟩, fun _ => a4, fun b z => (by cases z), a5⟩
    rw [if_pos (by decide), sd_ld_ok (by rw [hal.2.2.2.2.2.2.1]; omega) (sd_al_lt _), e149, e21, sd_cl_ok a1]
    unfold f_X12_findWay_b157 f_X12_findWay_b336
    rw [sd_ld_ok (by rw [hal.2.2.1]; omega) (sd_al_lt _), a5.1.1 145 (by decide), u1, cu, if_pos (by decide), nI_1]
  | true =>
    have e147 := u2 cu
    rw [if_neg (by decide)]
    unfold f_X12_findWay_b157 f_X12_findWay_b336
    rw [sd_ld_ok (by rw [hal.2.2.1]; omega) (sd_al_lt _), u1, cu, if_neg (by decide), sd_ld_ok (by rw [hal.2.2.2.2.1]; omega) (sd_al_lt _), e147]
    cases cc : c d with
    | none =>
      refine ⟨S, [], tB, ?_, by rw [List.append_nil]; exact ⟨h1, h2, h3, h4, h5⟩, fun z => (by cases z), fun b _ z => (by cases z), FRM_rfl⟩
      rw [if_pos (show sI none < 0 from by decide), nI_1]
    | some b' =>
      obtain ⟨q1, q2⟩ := hG.2.2.1 d b' cu cc
      have hb' := h4.2 b' q1
      have hne : d ≠ b' := fun z => by have := q2.2; rw [z] at this; omega
      obtain ⟨S2, R, tB2, a1, a2, a3, a4, a5⟩ := n_mB (by omega) h1 h2 hb' hdm (Or.inr ⟨hne, cu, cc⟩)
      refine ⟨S2, R, tB2, ?_, ⟨a2, a3, EVs_fr h3 a5, RFL_fr h4 a5, NX_fr h5 a5⟩, fun z => (by cases z), fun b'' _ z => by cases z; exact a4, a5⟩
      rw [if_neg (show ¬ sI (some b') < 0 from nI_pos (by omega)), sd_ld_ok (by rw [hal.2.2.2.2.1]; omega) (sd_al_lt _), e147, cc, sd_ld_ok (by rw [hal.2.2.2.2.2.2.1]; omega) (sd_al_lt _), e149, show sI (some b') = nI b' from rfl, e21, sd_cl_ok a1, nI_1]
/-- a back that was reached is never the end of a way -/
theorem nx_back {T : TW} {M : List (Nat × Nat)} {b f : Nat} {u : Nat → Bool} {c : Nat → Option Nat} {S : sd_St} {Q : List Nat} {tF : Nat → Option Nat} {tB : Nat → Nat} (hRS : RS T M b f u c S Q tF tB) {i d : Nat} (hix : Q[i]? = some (2 * d + 1)) : ¬ S.1 146 d = (-3 : Int32) := by
  obtain ⟨h1, h2, h3, h4, h5⟩ := hRS
  have h288 := h3.2.2.1
  obtain ⟨hd, j, -, -, q⟩ := h1.2.2 i d hix
  rcases h5 d hd with ⟨-, z⟩ | ⟨z1, -, z3⟩ | ⟨-, e, z, z2, -⟩
  · rw [z]; decide
  · rcases q with ⟨-, q⟩ | ⟨-, q2, q3⟩
    · rw [z1] at q; cases q
    · exact absurd q3 (z3 _ q2)
  · rw [z]
    have := h4.2 e z2
    exact nI_neg3 (by omega)
