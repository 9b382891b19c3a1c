/-! town, by the class -/
def sgT (σ : Sg) : Sg := match told σ.2.2.2 with
  | .ok P => (P.1, [], fun _ => none, [])
  | .error _ => (σ.1, σ.2.1, σ.2.2.1, [])
theorem m_wipe3 : ∀ (m n i : Nat) (S : sd_St), i + m = 4 → m < n → (∀ j, j < i → S.1 78 j = 0) → ∃ S2, f_X3_wipe_l2 77 n (nI i) S = some ((), S2) ∧ (∀ j, j < 4 → S2.1 78 j = 0) ∧ frm (fun a => a = 78) S S2 := by
  intro m
  induction m with
  | zero =>
    intro n i S hi hn h
    obtain ⟨n, rfl⟩ : ∃ n', n = n' + 1 := ⟨n - 1, by omega⟩
    refine ⟨S, ?_, fun j hj => h j (by omega), frm_rfl⟩
    unfold f_X3_wipe_l2
    rw [if_pos (show (4 : Int32) ≤ nI i from nI_le (a := 4) (by omega) (by omega))]
  | succ m ih =>
    intro n i S hi hn h
    obtain ⟨n, rfl⟩ : ∃ n', n = n' + 1 := ⟨n - 1, by omega⟩
    obtain ⟨Sa, hSa⟩ : ∃ Sa, Sa = sd_I S 78 i (vp_nar .boolean (0 : Int32)) := ⟨_, rfl⟩
    have fa : frm (fun a => a = 78) S Sa := by rw [hSa]; exact frm_I rfl
    obtain ⟨S2, e1, e2, e3⟩ := ih n (i + 1) Sa (by omega) (by omega) (fun j hj => by
      rw [hSa]
      by_cases c : j = i
      · rw [c, rI_same]; decide
      · rw [rI_oth c]; exact h j (by omega))
    refine ⟨S2, ?_, e2, frm_trans fa e3 (fun _ h => h) (fun _ h => h)⟩
    unfold f_X3_wipe_l2
    simp only [Nat.reduceAdd]
    rw [if_neg (show ¬ (4 : Int32) ≤ nI i from nI_ge (b := 4) (by omega) (by decide)), sd_st_ok (show i < sd_al 78 by rw [show sd_al 78 = 4 from by decide]; omega) (sd_al_lt _), ← hSa, nI_1]
    exact e1
theorem m_town {S : sd_St} {σ : Sg} (hw : WF σ) (h : IC S σ) : ∃ S1, f_X11_town S = some (eI (told σ.2.2.2), S1) ∧ IC S1 (sgT σ) ∧ frm loC S S1 := by
  have hT : TPs S σ.2.2.2 := ⟨h.2.2.2.1, hw.2.2.2.2.1, hw.2.2.2.2.2⟩
  obtain ⟨S1, a1, a2, a3, a4, a5⟩ := m_readTape hT
  unfold f_X11_town sgT
  rw [sd_cl_ok a1]
  cases ht : told σ.2.2.2 with
  | error e =>
    obtain ⟨e0, e1⟩ := a4 e ht
    refine ⟨S1, ?_, ?_, frm_mono a5 (fun a h => by unfold loC; omega)⟩
    · show (if nI e = 0 then _ else _) = some (nI e, S1)
      rw [if_neg (nI_ne0 e0 (by omega))]
      rfl
    · obtain ⟨i1, i2, i3, i4, i5, i6⟩ := h
      exact ⟨CTX_fr i1 (fun a g1 g2 => a5.1 a (by omega)), RC_fr i2 (fun a g1 g2 => a5.1 a (by omega)), MKc_fr i3 (fun a g1 g2 => a5.1 a (by omega)), ⟨a2, fun i c z => (by cases z)⟩, CC_fr hw.1 i5 (by rw [a5.1 0 (by omega)]) (fun a g1 g2 => a5.1 a (by omega)), fun p hp => by rw [a5.1 129 (by omega)]; exact i6 p hp⟩
  | ok P =>
    obtain ⟨d1, d2, d3, d4⟩ := a3 P ht
    have hz : S1.1 2 15 = 0 ∨ S1.1 2 15 = 1 := by
      rw [d1.2.2.2.2.2.2.2]
      have := d4.1.2.2.2.2.2.2.2
      rcases (show tz P.1 = 0 ∨ tz P.1 = 1 by omega) with e | e <;> rw [e]
      · exact Or.inl rfl
      · exact Or.inr rfl
    obtain ⟨S2, b1, b2, b3, b4⟩ := m_copyT (k0 := 17) (k1 := 2) (by decide) (by decide) (by decide) hz
    obtain ⟨S3, hS3⟩ : ∃ S3, S3 = sd_I S2 72 0 0 := ⟨_, rfl⟩
    have f3 : frm (fun a => a = 72) S2 S3 := by rw [hS3]; exact frm_I rfl
    obtain ⟨S4, c1, c2, c3⟩ := m_wipe3 4 sd_FU 0 S3 (by omega) (by unfold sd_FU; omega) (fun j hj => absurd hj (Nat.not_lt_zero j))
    obtain ⟨S5, g1, g2, g3, g4⟩ := m_forgetW S4
    have fA : frm (fun a => a = 0 ∨ a = 72 ∨ a = 78 ∨ a = 129) S2 S5 := frm_trans (frm_trans (e := fun a => a = 0 ∨ a = 72 ∨ a = 78 ∨ a = 129) f3 c3 (fun a h => by omega) (fun a h => by omega)) g4 (fun _ h => h) (fun a h => by omega)
    refine ⟨S5, ?_, ?_, ?_⟩
    · show (if (0 : Int32) = 0 then _ else _) = some ((0 : Int32), S5)
      rw [if_pos rfl, sd_cl_ok b1]
      unfold f_X4_wipe f_X3_wipe
      rw [sd_nm_eq, ← hS3, sd_cl_ok rfl, sd_cl_ok (show f_X3_wipe_l2 77 sd_FU (0 : Int32) S3 = _ from c1), sd_cl_ok g1]
      rfl
    · have hCT2 : CT 17 S2 P.1 := CT_of (by decide) d4.1 d1 b2 b3
      have h12 := d4.1.1
      refine ⟨⟨CT_fr hCT2 (fun a q1 q2 => fA.1 a (by omega)), fun p hp q => ?_, ?_⟩, ?_, fun m hm => Or.inl ⟨rfl, ?_⟩, ⟨?_, fun i c z => (by cases z)⟩, Or.inl g2, fun p hp => Or.inl (g3 p hp)⟩
      · rw [fA.1 22 (by omega)]
        have := b2 5 (by omega) (by omega) p (by rw [show sd_al (17 + 5) = 12 from by decide]; have hp : p < tn P.1 := hp; omega)
        rw [show (17 + 5) = 22 from rfl, show (2 + 5) = 7 from rfl] at this
        rw [this]
        exact d2 p hp q
      · rw [fA.1 17 (by omega), b3 6 (by omega)]
        exact d3
      · refine RC_nil ?_
        rw [g4.1 72 (by omega), c3.1 72 (by decide), hS3, rI_same]
      · rw [g4.1 78 (by omega)]; exact c2 m hm
      · rw [fA.1 13 (by omega), b4.1 13 (by omega)]; exact a2
    · exact frm_trans (frm_trans (e := loC) a5 b4 (fun a h => by unfold loC; omega) (fun a h => by unfold loC; omega)) fA (fun _ h => h) (fun a h => by unfold loC; omega)
/-- what a town told keeps to, whatever is told -/
theorem wf_told {σ : Sg} (hw : WF σ) (h : ∀ P, told σ.2.2.2 = .ok P → PW P) : WF (sgT σ) := by
  unfold sgT
  cases ht : told σ.2.2.2 with
  | error e => exact ⟨hw.1, hw.2.1, hw.2.2.1, hw.2.2.2.1, Nat.zero_le _, fun c hc => (by cases hc)⟩
  | ok P =>
    obtain ⟨p1, p2, -⟩ := h P ht
    exact ⟨p1, p2, ⟨Nat.zero_le _, fun w s t n z => (by cases z)⟩, fun m z r q => (by cases q), Nat.zero_le _, fun c hc => (by cases hc)⟩
theorem told_PW {tp : List Nat} (h1 : tp.length ≤ 1000) (h2 : ∀ c ∈ tp, okC c) {P : Pst} (h : told tp = .ok P) : PW P := by
  have hT : TPs (fun a i => if a = 13 then nI tp.length else nI (tp.getD i 0), fun _ _ => 0) tp := by
    refine ⟨⟨rfl, fun i c hi => ?_⟩, h1, h2⟩
    show nI (tp.getD i 0) = nI c
    rw [List.getD_eq_getElem?_getD, hi]
    rfl
  obtain ⟨S2, -, -, a3, -, -⟩ := m_readTape hT
  exact (a3 P h).2.2.2
theorem wf_sgT {σ : Sg} (hw : WF σ) : WF (sgT σ) := wf_told hw (fun P h => told_PW hw.2.2.2.2.1 hw.2.2.2.2.2 h)
