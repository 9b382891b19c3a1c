/-! THE REFERENCE'S SEARCH: where it starts -/
theorem n_l36 {T : TW} (hw : wfT T) {M : List (Nat × Nat)} {b f : Nat} (hb12 : b < 12) (hf : f < 4392) {u : Nat → Bool} {c : Nat → Option Nat} {tB : Nat → Nat} {x3 : Int32} (hcl : ∀ e x, u e = true → c e = some x → x < 2 ^ 30) : ∀ (m n e : Nat) (S : sd_St) (Q : List Nat) (tF : Nat → Option Nat), e + m = M.length → m < n → RS T M b f u c S Q tF tB → (∀ e', e' < e → grS M b f e' → 2 * e' ∈ Q ∨ (u e' = true ∧ c e' = none)) → ∃ S2 R tF2, f_X12_findWay_l36 n (nI b) (nI f) x3 (nI e) S = f_X12_findWay_l98 sd_FU x3 (0 : Int32) S2 ∧ RS T M b f u c S2 (Q ++ R) tF2 tB ∧ (∀ e', e' < M.length → grS M b f e' → 2 * e' ∈ Q ++ R ∨ (u e' = true ∧ c e' = none)) ∧ FRM S S2 := by
  have hal := al143
  have h12 := hw.1
  intro m
  induction m with
  | zero =>
    intro n e S Q tF he hn hRS hdone
    obtain ⟨n, rfl⟩ : ∃ n', n = n' + 1 := ⟨n - 1, by omega⟩
    have h288 := hRS.2.2.1.2.2.1
    refine ⟨S, [], tF, ?_, by rw [List.append_nil]; exact hRS, ?_, FRM_rfl⟩
    · unfold f_X12_findWay_l36
      rw [hRS.2.2.1.2.1.1, if_pos (nI_le (by omega) (by omega))]
    · rw [List.append_nil]; exact fun e' z1 z2 => hdone e' (by omega) z2
  | succ m ih =>
    intro n e S Q tF he hn hRS hdone
    obtain ⟨n, rfl⟩ : ∃ n', n = n' + 1 := ⟨n - 1, by omega⟩
    have hRS0 := hRS
    obtain ⟨h1, h2, h3, h4, h5⟩ := hRS
    have h288 := h3.2.2.1
    have heN : e < M.length := by omega
    obtain ⟨v1, v2⟩ := ev_at h3.2.1 heN
    obtain ⟨w1, w2⟩ := h3.2.2.2.1 e heN
    obtain ⟨u1, u2, u3⟩ := h4.1 e heN
    have hskip : ∀ S', (grS M b f e → 2 * e ∈ Q ∨ (u e = true ∧ c e = none)) → S' = S → ∃ S2 R tF2, f_X12_findWay_l36 n (nI b) (nI f) x3 (nI (e + 1)) S' = f_X12_findWay_l98 sd_FU x3 (0 : Int32) S2 ∧ RS T M b f u c S2 (Q ++ R) tF2 tB ∧ (∀ e', e' < M.length → grS M b f e' → 2 * e' ∈ Q ++ R ∨ (u e' = true ∧ c e' = none)) ∧ FRM S S2 := by
      intro S' hs hS'
      subst hS'
      refine ih n (e + 1) S' Q tF (by omega) (by omega) hRS0 (fun e' z1 z2 => ?_)
      by_cases ce : e' = e
      · rw [ce] at z2 ⊢; exact hs z2
      · exact hdone e' (by omega) z2
    unfold f_X12_findWay_l36 f_X12_findWay_b89
    rw [h3.2.1.1, if_neg (nI_ge (by omega) (by omega)), sd_ld_ok (by rw [hal.1]; omega) (sd_al_lt _), v1, nI_1]
    by_cases cb : dH M e = b
    · rw [if_pos (by rw [cb]), sd_ld_ok (by rw [hal.2.1]; omega) (sd_al_lt _), v2]
      by_cases cf : dD M e < f
      · rw [if_pos (nI_lt cf (by omega))]
        exact hskip S (fun z => by have := z.2; omega) rfl
      · rw [if_neg (nI_nlt (by omega) (by omega)), sd_ld_ok (by rw [hal.2.2.2.2.1]; omega) (sd_al_lt _)]
        by_cases cl : S.1 147 e = (-2 : Int32)
        · rw [if_pos cl]
          refine hskip S (fun _ => Or.inr ?_) rfl
          cases cu : u e with
          | false => rw [u3 cu] at cl; exact absurd cl (by decide)
          | true =>
            refine ⟨rfl, ?_⟩
            rw [u2 cu] at cl
            cases cc : c e with
            | none => rfl
            | some x =>
              exfalso
              rw [cc] at cl
              exact nI_neg2 (by have := hcl e x cu cc; omega) (show nI x = -2 from cl)
        · rw [if_neg cl]
          obtain ⟨S1, R1, tF1, a1, a2, a3, a4, a5⟩ := n_mF (by omega) h1 h2 heN (p := none) (Or.inl ⟨rfl, cb, by omega⟩)
          rw [show (2 : Int32) * nI e = nI (2 * e) from nI_mul 2 e, sd_cl_ok (show f_X12_meets (nI (2 * e)) (-2 : Int32) S = _ from a1)]
          obtain ⟨S2, R2, tF2, y1, y2, y3, y4⟩ := ih n (e + 1) S1 (Q ++ R1) tF1 (by omega) (by omega) ⟨a2, a3, EVs_fr h3 a5, RFL_fr h4 a5, NX_fr h5 a5⟩ (fun e' z1 z2 => by
            by_cases ce : e' = e
            · rw [ce]; exact Or.inl a4
            · rcases hdone e' (by omega) z2 with q | q
              · exact Or.inl (List.mem_append_left _ q)
              · exact Or.inr q)
          rw [List.append_assoc] at y2 y3
          exact ⟨S2, R1 ++ R2, tF2, y1, y2, y3, FRM_trans a5 y4⟩
    · rw [if_neg (fun z => cb (nI_inj (by omega) (by omega) z))]
      exact hskip S (fun z => absurd z.1 cb) rfl
