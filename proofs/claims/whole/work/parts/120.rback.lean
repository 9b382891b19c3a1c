/-! THE REFERENCE GOES ON from a back -/
def sI : Option Nat → Int32
  | none => -2
  | some x => nI x
def RFL (S : sd_St) (N : Nat) (u : Nat → Bool) (c : Nat → Option Nat) : Prop := (∀ d, d < N → S.1 145 d = bI (u d) ∧ (u d = true → S.1 147 d = sI (c d)) ∧ (u d = false → S.1 147 d = -1)) ∧ ∀ d, u d = true → d < N
def NX (S : sd_St) (N : Nat) (u : Nat → Bool) (c : Nat → Option Nat) : Prop := ∀ d, d < N → (u d = false ∧ S.1 146 d = -1) ∨ (u d = true ∧ S.1 146 d = -3 ∧ ∀ e, u e = true → c e ≠ some d) ∨ (u d = true ∧ ∃ e, S.1 146 d = nI e ∧ u e = true ∧ c e = some d)
def RS (T : TW) (M : List (Nat × Nat)) (b f : Nat) (u : Nat → Bool) (c : Nat → Option Nat) (S : sd_St) (Q : List Nat) (tF : Nat → Option Nat) (tB : Nat → Nat) : Prop := SR M.length (grS M b f) (grE T M) u c Q tF tB ∧ RQ S M.length Q tF tB ∧ EVs S T M ∧ RFL S M.length u c ∧ NX S M.length u c
theorem EVs_fr {S S2 : sd_St} {T : TW} {M : List (Nat × Nat)} (h : EVs S T M) (g : FRM S S2) : EVs S2 T M := by
  obtain ⟨h1, h2, h3⟩ := h
  refine ⟨by rw [g.1.1 136 (by decide)]; exact h1, ⟨by rw [g.2 20 (by decide)]; exact h2.1, ?_⟩, h3⟩
  rw [g.1.1 143 (by decide), g.1.1 144 (by decide)]
  exact h2.2
theorem RFL_fr {S S2 : sd_St} {N : Nat} {u : Nat → Bool} {c : Nat → Option Nat} (h : RFL S N u c) (g : FRM S S2) : RFL S2 N u c := by
  refine ⟨?_, h.2⟩
  rw [g.1.1 145 (by decide), g.1.1 147 (by decide)]
  exact h.1
theorem NX_fr {S S2 : sd_St} {N : Nat} {u : Nat → Bool} {c : Nat → Option Nat} (h : NX S N u c) (g : FRM S S2) : NX S2 N u c := by
  unfold NX
  rw [g.1.1 146 (by decide)]
  exact h
theorem nI_neg3 {a : Nat} (h : a < 2 ^ 31) : ¬ nI a = -3 := by
  intro e
  have h1 := nI_toInt h
  rw [e] at h1
  have h2 : (-3 : Int32).toInt = -3 := by decide
  omega
theorem n_l258 {T : TW} (hw : wfT T) {M : List (Nat × Nat)} {b f : Nat} {u : Nat → Bool} {c : Nat → Option Nat} {tB : Nat → Nat} (q98 : Int32 → Int32 → sd_St → Option (Int32 × sd_St)) {x3 : Int32} {i d : Nat} : ∀ (m n e : Nat) (S : sd_St) (Q : List Nat) (tF : Nat → Option Nat), e + m = M.length → m < n → RS T M b f u c S Q tF tB → Q[i]? = some (2 * d + 1) → d < e → (∀ e', d < e' → e' < e → grE T M d e' → 2 * e' ∈ Q ∨ (u e' = true ∧ c e' = some d)) → ∃ S2 R tF2, f_X12_findWay_l258 q98 n x3 (nI i) (nI d) (nI e) S = q98 x3 (nI (i + 1)) S2 ∧ RS T M b f u c S2 (Q ++ R) tF2 tB ∧ (∀ e', d < e' → e' < M.length → grE T M d e' → 2 * e' ∈ Q ++ R ∨ (u e' = true ∧ c e' = some d)) ∧ (u d = true → 2 * d ∈ Q ++ R) ∧ FRM S S2 := by
  have hal := al143
  intro m
  induction m with
  | zero =>
    intro n e S Q tF he hn hRS hix hde hdone
    obtain ⟨n, rfl⟩ : ∃ n', n = n' + 1 := ⟨n - 1, by omega⟩
    obtain ⟨h1, h2, h3, h4, h5⟩ := hRS
    have h288 := h3.2.2.1
    have hlen := sr_len h1
    have hil := (List.getElem?_eq_some_iff.mp hix).1
    have hdm := List.mem_of_getElem? hix
    have hd := sr_lt h1 hdm
    have hdN : d < M.length := by omega
    have e149 := h2.2.1 i _ hix
    unfold f_X12_findWay_l258 f_X12_findWay_b336
    rw [h3.2.1.1, if_pos (nI_le (by omega) (by omega)), sd_ld_ok (by rw [hal.2.2.1]; omega) (sd_al_lt _), (h4.1 d hdN).1]
    cases cu : u d with
    | false =>
      refine ⟨S, [], tF, ?_, by rw [List.append_nil]; exact ⟨h1, h2, h3, h4, h5⟩, ?_, fun z => (by cases z), FRM_rfl⟩
      · rw [if_pos (by decide), nI_1]
      · rw [List.append_nil]; exact fun e' z1 z2 z3 => hdone e' z1 (by omega) z3
    | true =>
      obtain ⟨S2, R, tF2, a1, a2, a3, a4, a5⟩ := n_mF (by omega) h1 h2 hdN (p := some d) (Or.inr ⟨d, rfl, hdm, Or.inl ⟨rfl, cu⟩⟩)
      refine ⟨S2, R, tF2, ?_, ⟨a2, a3, EVs_fr h3 a5, RFL_fr h4 a5, NX_fr h5 a5⟩, fun e' z1 z2 z3 => ?_, fun _ => a4, a5⟩
      · rw [if_neg (by decide), sd_ld_ok (by rw [hal.2.2.2.2.2.2.1]; omega) (sd_al_lt _), e149, show (2 : Int32) = nI 2 from rfl, nI_mul, sd_cl_ok (show f_X12_meets (nI (2 * d)) (nI (2 * d + 1)) S = _ from a1), nI_1]
      · rcases hdone e' z1 (by omega) z3 with q | q
        · exact Or.inl (List.mem_append_left _ q)
        · exact Or.inr q
  | succ m ih =>
    intro n e S Q tF he hn hRS hix hde hdone
    obtain ⟨n, rfl⟩ : ∃ n', n = n' + 1 := ⟨n - 1, by omega⟩
    have hRS0 := hRS
    obtain ⟨h1, h2, h3, h4, h5⟩ := hRS
    have h288 := h3.2.2.1
    have hlen := sr_len h1
    have hil := (List.getElem?_eq_some_iff.mp hix).1
    have hdm := List.mem_of_getElem? hix
    have hd := sr_lt h1 hdm
    have hdN : d < M.length := by omega
    have heN : e < M.length := by omega
    have e149 := h2.2.1 i _ hix
    unfold f_X12_findWay_l258 f_X12_findWay_b305
    rw [h3.2.1.1, if_neg (nI_ge (by omega) (by omega)), sd_ld_ok (by rw [hal.2.2.2.1]; omega) (sd_al_lt _), nI_1]
    by_cases cn : S.1 146 d = nI e
    · rw [if_pos cn]
      refine ih n (e + 1) S Q tF (by omega) (by omega) hRS0 hix (by omega) (fun e' z1 z2 z3 => ?_)
      by_cases ce : e' = e
      · right
        rcases h5 d hdN with ⟨-, q⟩ | ⟨-, q, -⟩ | ⟨-, e0, q, q2, q3⟩
        · rw [q] at cn; exact absurd cn.symm (nI_neg1 (by omega))
        · rw [q] at cn; exact absurd cn.symm (nI_neg3 (by omega))
        · rw [q] at cn
          have := h4.2 e0 q2
          have := nI_inj (by omega) (by omega) cn
          rw [ce, ← this]
          exact ⟨q2, q3⟩
      · exact hdone e' z1 (by omega) z3
    · rw [if_neg cn]
      obtain ⟨v, v1, v2⟩ := n_informs hw h3 hdN heN
      rw [sd_cl_ok v1]
      rcases v2 with ⟨v2, v3⟩ | ⟨v2, v3⟩
      · rw [v2, if_pos rfl]
        refine ih n (e + 1) S Q tF (by omega) (by omega) hRS0 hix (by omega) (fun e' z1 z2 z3 => ?_)
        by_cases ce : e' = e
        · rw [ce] at z3; exact absurd z3 v3
        · exact hdone e' z1 (by omega) z3
      · obtain ⟨S1, R1, tF1, a1, a2, a3, a4, a5⟩ := n_mF (by omega) h1 h2 heN (p := some d) (Or.inr ⟨d, rfl, hdm, Or.inr ⟨by omega, v3⟩⟩)
        rw [v2, if_neg (by decide), sd_ld_ok (by rw [hal.2.2.2.2.2.2.1]; omega) (sd_al_lt _), e149, show (2 : Int32) = nI 2 from rfl, nI_mul, sd_cl_ok (show f_X12_meets (nI (2 * e)) (nI (2 * d + 1)) S = _ from a1)]
        obtain ⟨S2, R2, tF2, y1, y2, y3, y4, y5⟩ := ih n (e + 1) S1 (Q ++ R1) tF1 (by omega) (by omega) ⟨a2, a3, EVs_fr h3 a5, RFL_fr h4 a5, NX_fr h5 a5⟩ (idx_app hix) (by omega) (fun e' z1 z2 z3 => by
          by_cases ce : e' = e
          · rw [ce]; exact Or.inl a4
          · rcases hdone e' z1 (by omega) z3 with q | q
            · exact Or.inl (List.mem_append_left _ q)
            · exact Or.inr q)
        rw [List.append_assoc] at y2 y3 y4
        exact ⟨S2, R1 ++ R2, tF2, y1, y2, y3, y4, FRM_trans a5 y5⟩
