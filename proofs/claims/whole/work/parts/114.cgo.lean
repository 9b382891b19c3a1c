/-! THE CLASS GOES ON from a front, from a back -/
def FLW (S : sd_St) (lo hi : Nat) (u : Nat → Bool) (c : Nat → Option Nat) : Prop := (∀ d, lo ≤ d → d < hi → S.1 65 d = bI (u d) ∧ (u d = true → S.1 66 d = lkI (c d))) ∧ ∀ d, u d = true → lo ≤ d ∧ d < hi
theorem FLW_FQ {S S2 : sd_St} {lo hi : Nat} {u : Nat → Bool} {c : Nat → Option Nat} (h : FLW S lo hi u c) (g : FQ S S2) : FLW S2 lo hi u c := by
  obtain ⟨a1, a2⟩ := h
  refine ⟨?_, a2⟩
  rw [g.1.1 65 (by omega), g.1.1 66 (by omega)]
  exact a1
/-- all that the class's search holds to -/
def CS (T : TW) (L : List (Nat × Nat)) (b f g : Nat) (u : Nat → Bool) (c : Nat → Option Nat) (S : sd_St) (lo hi : Nat) (Q : List Nat) (tF : Nat → Option Nat) (tB : Nat → Nat) : Prop := SR hi (grS L b f) (grE T L) u c Q tF tB ∧ CQ S lo hi Q tF tB ∧ TKD T L S lo hi ∧ UNO S L lo hi Q ∧ FLW S lo hi u c ∧ S.1 62 2 = nI g
theorem nI_le1 {D a : Nat} (hD : D < 4392) (ha : a < 4392) : nI a ≤ nI D ↔ a < D + 1 := by
  constructor
  · intro z
    rcases Nat.lt_or_ge a (D + 1) with q | q
    · exact q
    · exact absurd z (nI_ge (by omega) (by omega))
  · intro z; exact nI_le (by omega) (by omega)
theorem m_goB_l {T : TW} {L : List (Nat × Nat)} (hk : DOK T L) {b f g : Nat} {u : Nat → Bool} {c : Nat → Option Nat} {lo hi : Nat} {tB : Nat → Nat} {x : Nat} (hx1 : lo ≤ x) (hx2 : x < hi) : ∀ (m n i : Nat) (S : sd_St) (Q : List Nat) (tF : Nat → Option Nat), i + m = 12 → m < n → CS T L b f g u c S lo hi Q tF tB → 2 * x + 1 ∈ Q → (∀ e, lo ≤ e → e < hi → dH L e < i → grE T L x e → 2 * e ∈ Q) → ∃ S2 R tF2, f_X6_goOnFromBack_l2 62 28 n (nI x) (nI i) S = some ((), S2) ∧ CS T L b f g u c S2 lo hi (Q ++ R) tF2 tB ∧ (∀ e, lo ≤ e → e < hi → grE T L x e → 2 * e ∈ Q ++ R) ∧ (u x = true → 2 * x ∈ Q ++ R) ∧ FQ S S2 := by
  have hal := al6
  have hk0 := hk
  obtain ⟨k1, k2, k3⟩ := hk
  intro m
  induction m with
  | zero =>
    intro n i S Q tF hi12 hn hCS hxQ hdone
    obtain ⟨n, rfl⟩ : ∃ n', n = n' + 1 := ⟨n - 1, by omega⟩
    obtain ⟨h1, h2, h3, h4, h5, h6⟩ := hCS
    have hiL := h3.2.2.2.2.1
    have hux := (h5.1 x hx1 hx2).1
    have hd2 : ∀ e, lo ≤ e → e < hi → grE T L x e → 2 * e ∈ Q := fun e a b c => hdone e a b (by have := (k2 e (by omega)).2; omega) c
    unfold f_X6_goOnFromBack_l2
    simp only [Nat.reduceAdd]
    rw [if_pos (show (12 : Int32) ≤ nI i from nI_le (a := 12) (by omega) (by omega)), sd_ld_ok (by rw [hal.2.2.1]; omega) (sd_al_lt _), hux]
    cases cu : u x with
    | false =>
      refine ⟨S, [], tF, ?_, ?_, ?_, fun z => (by cases z), FQ_rfl⟩
      · rw [if_pos (by decide)]
      · rw [List.append_nil]; exact ⟨h1, h2, h3, h4, h5, h6⟩
      · rw [List.append_nil]; exact hd2
    | true =>
      obtain ⟨S2, R, tF2, e1, e2, e3, e4, e5, e6⟩ := m_rF (by omega) h1 h2 hx1 hx2 (p := some x) (Or.inr ⟨x, rfl, hxQ, Or.inl ⟨rfl, cu⟩⟩)
      refine ⟨S2, R, tF2, ?_, ⟨e2, e3, TKD_FQ h3 e5, UNO_app h4 R e6, FLW_FQ h5 e5, by rw [e5.2 2 (by decide)]; exact h6⟩, fun e a b c => List.mem_append_left _ (hd2 e a b c), fun _ => e4, e5⟩
      rw [if_neg (by decide)]
      rw [show lkI (some x) = nI x from rfl] at e1
      rw [sd_cl_ok e1]
  | succ m ih =>
    intro n i S Q tF hi12 hn hCS hxQ hdone
    obtain ⟨n, rfl⟩ : ∃ n', n = n' + 1 := ⟨n - 1, by omega⟩
    have hCS0 := hCS
    obtain ⟨h1, h2, h3, h4, h5, h6⟩ := hCS
    have hiL := h3.2.2.2.2.1
    obtain ⟨v1, v2, v3⟩ := dr_at h3.1 (i := x) (by omega)
    have hdx := (k2 x (by omega)).1
    unfold f_X6_goOnFromBack_l2 f_X6_goOnFromBack_b34
    simp only [Nat.reduceAdd]
    rw [if_neg (show ¬ (12 : Int32) ≤ nI i from nI_ge (b := 12) (by omega) (by decide)), sd_ld_ok (by rw [hal.2.2.2.2.2.2.2.2.2.2]; omega) (sd_al_lt _), sd_cl_ok (m_has _ (by omega) S), v3 i]
    cases cg : guestB T (dD L x) (dH L x) i with
    | false =>
      rw [if_pos (by decide), nI_1]
      exact ih n (i + 1) S Q tF (by omega) (by omega) hCS0 hxQ (fun e a b c d => by
        by_cases ce : dH L e = i
        · have := d.1
          rw [ce, cg] at this; cases this
        · exact hdone e a b (by omega) d)
    | true =>
      obtain ⟨S2, R, tF2, e1, e2, e3, e4, e5, e6⟩ := m_lead hk0 (h := i) (by omega) (x3 := nI (dD L x)) (X := dD L x + 1) (fun a ha => nI_le1 hdx ha) (p := some x) h1 h2 h3 (fun e a b c d => Or.inr ⟨x, rfl, hxQ, Or.inr ⟨fun z => by rw [z] at d; omega, by unfold grE; rw [c]; exact ⟨cg, by omega⟩⟩⟩) h4
      rw [show lkI (some x) = nI x from rfl] at e1
      rw [if_neg (by decide), sd_ld_ok (by rw [hal.2.2.2.2.2.2.2.2.1]; omega) (sd_al_lt _), v1, sd_cl_ok e1, nI_1]
      obtain ⟨S3, R3, tF3, y1, y2, y3, y4, y5⟩ := ih n (i + 1) S2 (Q ++ R) tF2 (by omega) (by omega) ⟨e2, e3, TKD_FQ h3 e6, e4, FLW_FQ h5 e6, by rw [e6.2 2 (by decide)]; exact h6⟩ (List.mem_append_left _ hxQ) (fun e a b c d => by
        by_cases ce : dH L e = i
        · exact e5 e a b ce (by have := d.2; omega)
        · exact List.mem_append_left _ (hdone e a b (by omega) d))
      rw [List.append_assoc] at y2 y3 y4
      exact ⟨S3, R ++ R3, tF3, y1, y2, y3, y4, FQ_trans e6 y5⟩
theorem m_goF {T : TW} {L : List (Nat × Nat)} (hk : DOK T L) {b f g : Nat} {u : Nat → Bool} {c : Nat → Option Nat} {lo hi : Nat} {tB : Nat → Nat} {x : Nat} (hx1 : lo ≤ x) (hx2 : x < hi) {S : sd_St} {Q : List Nat} {tF : Nat → Option Nat} (hCS : CS T L b f g u c S lo hi Q tF tB) (hG : GF hi (grS L b f) (grT T L g) (grE T L) u c) (hxQ : 2 * x ∈ Q) : ∃ S2 R tB2, f_X6_goOnFromFront 62 (nI x) S = some ((), S2) ∧ CS T L b f g u c S2 lo hi (Q ++ R) tF tB2 ∧ (u x = false → 2 * x + 1 ∈ Q ++ R) ∧ (∀ d, u x = true → c x = some d → 2 * d + 1 ∈ Q ++ R) ∧ FQ S S2 := by
  have hal := al6
  have k1 := hk.1
  obtain ⟨h1, h2, h3, h4, h5, h6⟩ := hCS
  have hiL := h3.2.2.2.2.1
  obtain ⟨hu1, hu2⟩ := h5.1 x hx1 hx2
  unfold f_X6_goOnFromFront
  simp only [Nat.reduceAdd]
  rw [sd_ld_ok (by rw [hal.2.2.1]; omega) (sd_al_lt _), hu1]
  cases cu : u x with
  | false =>
    obtain ⟨S2, R, tB2, e1, e2, e3, e4, e5, e6⟩ := m_rB (by omega) h1 h2 hx1 hx2 hxQ (Or.inl ⟨rfl, cu⟩)
    refine ⟨S2, R, tB2, ?_, ⟨e2, e3, TKD_FQ h3 e5, UNO_app h4 R e6, FLW_FQ h5 e5, by rw [e5.2 2 (by decide)]; exact h6⟩, fun _ => e4, fun d z => (by cases z), e5⟩
    rw [if_pos (by decide), sd_cl_ok e1]
  | true =>
    have hc := hu2 cu
    rw [if_neg (by decide), sd_ld_ok (by rw [hal.2.2.2.1]; omega) (sd_al_lt _), hc]
    cases cc : c x with
    | none =>
      refine ⟨S, [], tB, ?_, ?_, fun z => (by cases z), fun d _ z => (by cases z), FQ_rfl⟩
      · rw [if_pos (show lkI none < 0 from by decide)]
      · rw [List.append_nil]; exact ⟨h1, h2, h3, h4, h5, h6⟩
    | some d =>
      obtain ⟨q1, q2⟩ := hG.2.2.1 x d cu cc
      obtain ⟨d1, d2⟩ := h5.2 d q1
      have hne : x ≠ d := fun z => by have := q2.2; rw [z] at this; omega
      obtain ⟨S2, R, tB2, e1, e2, e3, e4, e5, e6⟩ := m_rB (by omega) h1 h2 d1 d2 hxQ (Or.inr ⟨hne, cu, cc⟩)
      refine ⟨S2, R, tB2, ?_, ⟨e2, e3, TKD_FQ h3 e5, UNO_app h4 R e6, FLW_FQ h5 e5, by rw [e5.2 2 (by decide)]; exact h6⟩, fun z => (by cases z), fun d' _ z => by cases z; exact e4, e5⟩
      rw [if_neg (show ¬ lkI (some d) < 0 from nI_pos (by omega)), sd_ld_ok (by rw [hal.2.2.2.1]; omega) (sd_al_lt _), hc, cc, show lkI (some d) = nI d from rfl, sd_cl_ok e1]
