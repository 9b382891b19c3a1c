/-! THE REFERENCE'S SEARCH, whole -/
theorem n_findWay {T : TW} (hw : wfT T) {M : List (Nat × Nat)} {b f g : Nat} (hb12 : b < 12) (hf : f < 4392) (hg : g < 12) {u : Nat → Bool} {c : Nat → Option Nat} (hG : GF M.length (grS M b f) (grT T M g) (grE T M) u c) {S : sd_St} (h3 : EVs S T M) (h4 : RFL S M.length u c) (h5 : NX S M.length u c) : (∃ S2, f_X12_findWay (nI b) (nI f) (nI g) S = some (-1, S2) ∧ MXF M.length (grS M b f) (grT T M g) (grE T M) (wo M.length u c) ∧ FRM S S2) ∨ ∃ (S2 : sd_St) (Q : List Nat) (tF : Nat → Option Nat) (tB : Nat → Nat) (j x : Nat), f_X12_findWay (nI b) (nI f) (nI g) S = some (nI (2 * x + 1), S2) ∧ RS T M b f u c S2 Q tF tB ∧ Q[j]? = some (2 * x + 1) ∧ grT T M g x ∧ FRM S S2 := by
  have h288 := h3.2.2.1
  obtain ⟨A1, a1, a2, a3, a4⟩ := n_l3 h288 (x1 := nI b) (x2 := nI f) (x3 := nI g) (2 * M.length) sd_FU 0 S (by omega) (by unfold sd_FU; omega) h3.2.1.1 (fun j hj => absurd hj (Nat.not_lt_zero j))
  have hRS : RS T M b f u c A1 [] (fun _ => none) (fun _ => 0) := ⟨⟨List.nodup_nil, fun i d z => (by cases z), fun i d z => (by cases z)⟩, ⟨by rw [a3]; rfl, fun i n z => (by cases z), fun d hd => by rw [if_neg (fun z => (by cases z))]; exact a2 _ (by omega), fun d hd => by rw [if_neg (fun z => (by cases z))]; exact a2 _ (by omega)⟩, EVs_fr h3 a4, RFL_fr h4 a4, NX_fr h5 a4⟩
  obtain ⟨A2, R, tF, b1, b2, b3, b4⟩ := n_l36 hw hb12 hf (x3 := nI g) (fun e x z1 z2 => by have := hG.1 x (hG.2.2.1 e x z1 z2).1; omega) M.length sd_FU 0 A1 [] _ (by omega) (by unfold sd_FU; omega) hRS (fun e' z => absurd z (Nat.not_lt_zero e'))
  have hpre : ∀ X, f_X12_findWay_l98 sd_FU (nI g) (nI 0) A2 = X → f_X12_findWay (nI b) (nI f) (nI g) S = X := by
    intro X hX
    unfold f_X12_findWay
    exact (a1.trans b1).trans hX
  rcases n_l98 hw hg hG (2 * M.length) sd_FU 0 A2 ([] ++ R) tF _ (by omega) (by unfold sd_FU; omega) (Nat.zero_le _) b2 (fun j hj => absurd hj (Nat.not_lt_zero j)) with ⟨S2, R2, tF2, tB2, y1, y2, y3, y4⟩ | ⟨S2, R2, tF2, tB2, j, x, y1, y2, y3, y4, y5⟩
  · refine Or.inl ⟨S2, hpre _ y1, ?_, FRM_trans (FRM_trans a4 b4) y4⟩
    obtain ⟨Q, hQ⟩ : ∃ Q, Q = [] ++ R ++ R2 := ⟨_, rfl⟩
    rw [← hQ] at y2 y3
    have hPn : ∀ n, n ∈ Q → ∃ j, j < Q.length ∧ Q[j]? = some n := by
      intro n hn
      obtain ⟨j, hj, ej⟩ := List.getElem_of_mem hn
      exact ⟨j, hj, List.getElem?_eq_some_iff.mpr ⟨hj, ej⟩⟩
    let F : Nat → Bool := fun e => decide (2 * e ∈ Q) || (u e && match c e with
      | none => true
      | some d => decide (2 * d + 1 ∈ Q))
    have hF : ∀ e, F e = true ↔ (2 * e ∈ Q ∨ (u e = true ∧ (c e = none ∨ ∃ d, c e = some d ∧ 2 * d + 1 ∈ Q))) := by
      intro e
      show (decide (2 * e ∈ Q) || (u e && _)) = true ↔ _
      cases hc : c e with
      | none => simp
      | some d => simp
    have c1 : ∀ e, e < M.length → grS M b f e → F e = true := fun e z1 z2 => (hF e).mpr (by
      rcases b3 e z1 z2 with q | q
      · exact Or.inl (by rw [hQ]; exact List.mem_append_left _ q)
      · exact Or.inr ⟨q.1, Or.inl q.2⟩)
    have c2 : ∀ d e, d < M.length → e < M.length → decide (2 * d + 1 ∈ Q) = true → grE T M d e → F e = true := by
      intro d e z1 z2 z3 z4
      obtain ⟨j, j1, j2⟩ := hPn _ (of_decide_eq_true z3)
      have hde : d < e := by
        rcases Nat.lt_or_ge d e with q | q
        · exact q
        · exfalso
          have := z4.2
          rcases Nat.lt_or_ge e d with q2 | q2
          · have := h3.2.2.2.2 e d q2 z1; omega
          · have : d = e := by omega
            subst this; omega
      rcases ((y3 j j1).2 d j2).1 e hde z2 z4 with q | q
      · exact (hF e).mpr (Or.inl q)
      · exact (hF e).mpr (Or.inr ⟨q.1, Or.inr ⟨d, q.2, of_decide_eq_true z3⟩⟩)
    have c3 : ∀ d, d < M.length → decide (2 * d + 1 ∈ Q) = true → ¬ grT T M g d := fun d _ z3 => by
      obtain ⟨j, j1, j2⟩ := hPn _ (of_decide_eq_true z3)
      exact ((y3 j j1).2 d j2).2.2
    refine ⟨⟨u, c, hG, rfl⟩, F, fun e => decide (2 * e + 1 ∈ Q), c1, c2, c3, gf_ge hG (F := F) (B := fun e => decide (2 * e + 1 ∈ Q)) (fun e z1 z2 => ?_) (fun e z0 z1 z2 => ?_) (fun e d z1 z2 z3 => ?_)⟩
    · obtain ⟨j, j1, j2⟩ := hPn _ (of_decide_eq_true z2)
      exact (hF e).mpr (Or.inl (((y3 j j1).2 e j2).2.1 z1))
    · rcases (hF e).mp z1 with q | q
      · obtain ⟨j, j1, j2⟩ := hPn _ q
        exact decide_eq_true (((y3 j j1).1 e j2).1 z2)
      · rw [q.1] at z2; cases z2
    · rcases (hF e).mp z1 with q | ⟨-, q | ⟨d', q1, q2⟩⟩
      · obtain ⟨j, j1, j2⟩ := hPn _ q
        exact decide_eq_true (((y3 j j1).1 e j2).2 d z2 z3)
      · rw [z3] at q; cases q
      · rw [z3] at q1; cases q1; exact decide_eq_true q2
  · exact Or.inr ⟨S2, [] ++ R ++ R2, tF2, tB2, j, x, hpre _ y1, y2, y3, y4, FRM_trans (FRM_trans a4 b4) y5⟩
