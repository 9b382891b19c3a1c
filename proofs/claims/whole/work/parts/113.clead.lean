/-! THE CLASS LEADS ON from a door -/
/-- behind the door at which the opening of h stands, all of h's doors are reached -/
def UNO (S : sd_St) (L : List (Nat × Nat)) (lo hi : Nat) (Q : List Nat) : Prop := ∀ h, h < 12 → ∃ w, S.1 69 h = lkI w ∧ (∀ d, w = some d → lo ≤ d ∧ d < hi ∧ dH L d = h) ∧ ∀ e, lo ≤ e → e < hi → dH L e = h → (∀ d, w = some d → d < e) → 2 * e ∈ Q
theorem UNO_app {S S2 : sd_St} {L : List (Nat × Nat)} {lo hi : Nat} {Q : List Nat} (h : UNO S L lo hi Q) (R : List Nat) (hs : S2.1 69 = S.1 69) : UNO S2 L lo hi (Q ++ R) := by
  intro k hk
  obtain ⟨w, w1, w2, w3⟩ := h k hk
  exact ⟨w, by rw [hs]; exact w1, w2, fun e a b c d => List.mem_append_left _ (w3 e a b c d)⟩
theorem TKD_FQ {T : TW} {L : List (Nat × Nat)} {S S2 : sd_St} {lo hi : Nat} (h : TKD T L S lo hi) (g : FQ S S2) : TKD T L S2 lo hi := by
  obtain ⟨a1, a2, a3, a4, a5, a6, a7⟩ := h
  refine ⟨DR_fr' a1 (by rw [g.1.1 28 (by omega)]) (g.1.1 30 (by omega)) (g.1.1 31 (by omega)) (g.1.1 32 (by omega)), by rw [g.2 0 (by decide)]; exact a2, by rw [g.2 1 (by decide)]; exact a3, a4, a5, ?_, ?_⟩
  · rw [g.1.1 63 (by omega)]; exact a6
  · rw [g.1.1 64 (by omega)]; exact a7
theorem lk_lt0 {w : Option Nat} (h : ∀ d, w = some d → d < 2 ^ 31) : (lkI w < 0) ↔ w = none := by
  cases w with
  | none => exact ⟨fun _ => rfl, fun _ => (by decide : (-1 : Int32) < 0)⟩
  | some d => exact ⟨fun z => absurd z (nI_pos (h d rfl)), fun z => (by cases z)⟩
theorem m_lead_l {T : TW} {L : List (Nat × Nat)} (hk : DOK T L) {s : Nat → Prop} {E : Nat → Nat → Prop} {u : Nat → Bool} {c : Nat → Option Nat} {lo hi : Nat} {tB : Nat → Nat} {h : Nat} (hh : h < 12) {x3 : Int32} {X : Nat} (hX : ∀ a, a < 4392 → (nI a ≤ x3 ↔ a < X)) {p : Option Nat} : ∀ (m n : Nat) (k : Nat) (w : Option Nat) (S : sd_St) (Q : List Nat) (tF : Nat → Option Nat), (∀ d, w = some d → d < m) → (∀ d, w = some d → d + k < 288) → m < n → SR hi s E u c Q tF tB → CQ S lo hi Q tF tB → TKD T L S lo hi → (∀ e, lo ≤ e → e < hi → dH L e = h → X ≤ dD L e → PAR s E u Q p e) → (∀ h', h' < 12 → h' ≠ h → ∃ w, S.1 69 h' = lkI w ∧ (∀ d, w = some d → lo ≤ d ∧ d < hi ∧ dH L d = h') ∧ ∀ e, lo ≤ e → e < hi → dH L e = h' → (∀ d, w = some d → d < e) → 2 * e ∈ Q) → (∀ d, w = some d → lo ≤ d ∧ d < hi ∧ dH L d = h) → (∀ e, lo ≤ e → e < hi → dH L e = h → (∀ d, w = some d → d < e) → 2 * e ∈ Q) → ∃ S2 R tF2, f_X6_leadTo_l11 62 28 n (nI h) x3 (lkI p) (lkI w) (nI k) S = some ((), S2) ∧ SR hi s E u c (Q ++ R) tF2 tB ∧ CQ S2 lo hi (Q ++ R) tF2 tB ∧ UNO S2 L lo hi (Q ++ R) ∧ (∀ e, lo ≤ e → e < hi → dH L e = h → X ≤ dD L e → 2 * e ∈ Q ++ R) ∧ FQ S S2 := by
  have hal := al6
  obtain ⟨k1, k2, k3⟩ := hk
  -- the end
  have hend : ∀ (w : Option Nat) (S : sd_St) (Q : List Nat) (tF : Nat → Option Nat), (∀ d, w = some d → dD L d < X) → hi ≤ 288 → hi ≤ L.length → SR hi s E u c Q tF tB → CQ S lo hi Q tF tB → (∀ h', h' < 12 → h' ≠ h → ∃ w, S.1 69 h' = lkI w ∧ (∀ d, w = some d → lo ≤ d ∧ d < hi ∧ dH L d = h') ∧ ∀ e, lo ≤ e → e < hi → dH L e = h' → (∀ d, w = some d → d < e) → 2 * e ∈ Q) → (∀ d, w = some d → lo ≤ d ∧ d < hi ∧ dH L d = h) → (∀ e, lo ≤ e → e < hi → dH L e = h → (∀ d, w = some d → d < e) → 2 * e ∈ Q) → ∃ S2 R tF2, f_X6_leadTo_b58 62 28 (nI h) (lkI w) S = some ((), S2) ∧ SR hi s E u c (Q ++ R) tF2 tB ∧ CQ S2 lo hi (Q ++ R) tF2 tB ∧ UNO S2 L lo hi (Q ++ R) ∧ (∀ e, lo ≤ e → e < hi → dH L e = h → X ≤ dD L e → 2 * e ∈ Q ++ R) ∧ FQ S S2 := by
    intro w S Q tF hw hi288 hiL hS hC ho hw2 hw3
    refine ⟨sd_I S 69 h (lkI w), [], tF, ?_, by rw [List.append_nil]; exact hS, ?_, ?_, fun e a b c d => ?_, ⟨frm_I (by omega), fun j _ => by rw [rI_cell (by decide)]⟩⟩
    · unfold f_X6_leadTo_b58
      simp only [Nat.reduceAdd]
      rw [sd_st_ok (by rw [hal.2.2.2.2.2.2.1]; omega) (sd_al_lt _)]
    · rw [List.append_nil]
      obtain ⟨c1, c2, c3, c4, c5⟩ := hC
      refine ⟨by rw [rI_cell (by decide)]; exact c1, by rw [rI_cell (by decide)]; exact c2, by rw [rI_cell (by decide)]; exact c3, by rw [rI_cell (by decide)]; exact c4, c5⟩
    · rw [List.append_nil]
      intro h' hh'
      by_cases ch : h' = h
      · subst ch
        exact ⟨w, rI_same, hw2, hw3⟩
      · obtain ⟨w', q1, q2, q3⟩ := ho h' hh' ch
        exact ⟨w', by rw [rI_oth ch]; exact q1, q2, q3⟩
    · rw [List.append_nil]
      refine hw3 e a b c (fun d' hd' => ?_)
      have q1 := hw d' hd'
      obtain ⟨-, q3, -⟩ := hw2 d' hd'
      rcases Nat.lt_or_ge d' e with z | z
      · exact z
      · exfalso
        rcases Nat.lt_or_ge e d' with z2 | z2
        · have := k3 e d' z2 (by omega)
          omega
        · have : e = d' := by omega
          rw [this] at d; omega
  intro m
  induction m with
  | zero =>
    intro n k w S Q tF hm hk288 hn hS hC hT hpar ho hw2 hw3
    obtain ⟨n, rfl⟩ : ∃ n', n = n' + 1 := ⟨n - 1, by omega⟩
    have hwn : w = none := by
      cases w with
      | none => rfl
      | some d => exact absurd (hm d rfl) (Nat.not_lt_zero d)
    obtain ⟨S2, R, tF2, e1, e2⟩ := hend w S Q tF (fun d hd => absurd (hm d hd) (Nat.not_lt_zero d)) (by have := hT.2.2.2.2.1; omega) hT.2.2.2.2.1 hS hC ho hw2 hw3
    refine ⟨S2, R, tF2, ?_, e2⟩
    unfold f_X6_leadTo_l11
    by_cases ck : (288 : Int32) ≤ nI k
    · rw [if_pos ck]; exact e1
    · rw [if_neg ck, if_pos ((lk_lt0 (fun d hd => by rw [hwn] at hd; cases hd)).mpr hwn)]
      exact e1
  | succ m ih =>
    intro n k w S Q tF hm hk288 hn hS hC hT hpar ho hw2 hw3
    obtain ⟨n, rfl⟩ : ∃ n', n = n' + 1 := ⟨n - 1, by omega⟩
    have hiL := hT.2.2.2.2.1
    cases hwc : w with
    | none =>
      subst hwc
      obtain ⟨S2, R, tF2, e1, e2⟩ := hend none S Q tF (fun d hd => (by cases hd)) (by omega) hiL hS hC ho hw2 hw3
      refine ⟨S2, R, tF2, ?_, e2⟩
      unfold f_X6_leadTo_l11
      by_cases ck : (288 : Int32) ≤ nI k
      · rw [if_pos ck]; exact e1
      · rw [if_neg ck, if_pos (show lkI none < 0 from by decide)]
        exact e1
    | some d =>
      subst hwc
      obtain ⟨d1, d2, d3⟩ := hw2 d rfl
      have hdm := hm d rfl
      have hdk := hk288 d rfl
      obtain ⟨v1, -, -⟩ := dr_at hT.1 (i := d) (by omega)
      have hdD := (k2 d (by omega)).1
      unfold f_X6_leadTo_l11
      simp only [Nat.reduceAdd]
      rw [if_neg (show ¬ (288 : Int32) ≤ nI k from nI_ge (b := 288) (by omega) (by decide)), if_neg (show ¬ lkI (some d) < 0 from nI_pos (by omega)), show lkI (some d) = nI d from rfl, sd_ld_ok (by rw [hal.2.2.2.2.2.2.2.2.1]; omega) (sd_al_lt _), v1]
      by_cases cx : dD L d < X
      · rw [if_pos ((hX _ hdD).mpr cx)]
        exact hend (some d) S Q tF (fun d' hd' => by cases hd'; exact cx) (by omega) hiL hS hC ho hw2 hw3
      · rw [if_neg (fun z => cx ((hX _ hdD).mp z))]
        obtain ⟨S1, R1, tF1, a1, a2, a3, a4, a5, a6⟩ := m_rF (by omega) hS hC d1 d2 (hpar d d1 d2 d3 (by omega))
        have hT1 := TKD_FQ hT a5
        have hv8 := hT1.2.2.2.2.2.2 d d1 d2
        rw [d3] at hv8
        rw [sd_cl_ok a1, sd_ld_ok (by rw [hal.2.1]; omega) (sd_al_lt _), hv8, nI_1]
        obtain ⟨S2, R2, tF2, y1, y2, y3, y4, y5, y6⟩ := ih n (k + 1) (lst L lo d h) S1 (Q ++ R1) tF1 (fun d' hd' => by have := (lst_some hd').2.1; omega) (fun d' hd' => by have := (lst_some hd').2.1; omega) (by omega) a2 a3 hT1 (fun e z1 z2 z3 z4 => PAR_app (hpar e z1 z2 z3 z4) R1) (fun h' hh' hne => by
          obtain ⟨w, w1, w2, w3⟩ := ho h' hh' hne
          exact ⟨w, by rw [a6]; exact w1, w2, fun e z1 z2 z3 z4 => List.mem_append_left _ (w3 e z1 z2 z3 z4)⟩) (fun d' hd' => by
          obtain ⟨q1, q2, q3, -⟩ := lst_some hd'
          exact ⟨q1, by omega, q3⟩) (fun e z1 z2 z3 z4 => by
          by_cases ce : d < e
          · exact List.mem_append_left _ (hw3 e z1 z2 z3 (fun d' hd' => by cases hd'; exact ce))
          · by_cases ce2 : e = d
            · rw [ce2]; exact a4
            · exfalso
              cases hl : lst L lo d h with
              | none => exact lst_none hl e z1 (by omega) z3
              | some d' =>
                have hz := z4 d' hl
                exact (lst_some hl).2.2.2 e hz (by omega) z3)
        rw [List.append_assoc] at y2 y3 y4 y5
        exact ⟨S2, R1 ++ R2, tF2, y1, y2, y3, y4, y5, FQ_trans a5 y6⟩
theorem m_lead {T : TW} {L : List (Nat × Nat)} (hk : DOK T L) {s : Nat → Prop} {E : Nat → Nat → Prop} {u : Nat → Bool} {c : Nat → Option Nat} {lo hi : Nat} {tB : Nat → Nat} {h : Nat} (hh : h < 12) {x3 : Int32} {X : Nat} (hX : ∀ a, a < 4392 → (nI a ≤ x3 ↔ a < X)) {p : Option Nat} {S : sd_St} {Q : List Nat} {tF : Nat → Option Nat} (hS : SR hi s E u c Q tF tB) (hC : CQ S lo hi Q tF tB) (hT : TKD T L S lo hi) (hpar : ∀ e, lo ≤ e → e < hi → dH L e = h → X ≤ dD L e → PAR s E u Q p e) (hU : UNO S L lo hi Q) : ∃ S2 R tF2, f_X6_leadTo 62 28 (nI h) x3 (lkI p) S = some ((), S2) ∧ SR hi s E u c (Q ++ R) tF2 tB ∧ CQ S2 lo hi (Q ++ R) tF2 tB ∧ UNO S2 L lo hi (Q ++ R) ∧ (∀ e, lo ≤ e → e < hi → dH L e = h → X ≤ dD L e → 2 * e ∈ Q ++ R) ∧ FQ S S2 := by
  obtain ⟨w, w1, w2, w3⟩ := hU h hh
  have hiL := hT.2.2.2.2.1
  have h288 := hk.1
  obtain ⟨S2, R, tF2, e1, e2⟩ := m_lead_l hk hh hX (p := p) 288 sd_FU 0 w S Q tF (fun d hd => by have := (w2 d hd).2.1; omega) (fun d hd => by have := (w2 d hd).2.1; omega) (by unfold sd_FU; omega) hS hC hT hpar (fun h' hh' _ => hU h' hh') w2 w3
  refine ⟨S2, R, tF2, ?_, e2⟩
  unfold f_X6_leadTo
  simp only [Nat.reduceAdd]
  rw [sd_ld_ok (by rw [al6.2.2.2.2.2.2.1]; omega) (sd_al_lt _), w1]
  exact e1
