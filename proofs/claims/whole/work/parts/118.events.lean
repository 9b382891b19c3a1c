/-! THE REFERENCE'S EVENTS are the doors up to a date -/
theorem dok_T {T : TW} (hw : wfT T) : DOK T (evs T 4392) := by
  obtain ⟨S, hS⟩ : ∃ S : sd_St, S = (fun a i => if a = 17 then (if i = 0 then nI (tn T) else if i = 7 then nI (ta T) else if i = 11 then nI (ts T) else if i = 14 then nI (tl T) else nI (tz T)) else if a = 18 then nI (tb T i) - 1 else if a = 19 then nI (tm T i) - 1 else if a = 20 then nI (ti T i) else if a = 21 then nI (tc T i) else if a = 23 then nI (tw T i) else if a = 24 then nI (tf T i) else if a = 25 then nI (tt T i) else if a = 26 then nI (tg T i) else nI (tx T i), fun _ _ => 0) := ⟨_, rfl⟩
  have hT : CT 17 S T := by
    rw [hS]
    exact ⟨rfl, fun p hp => ⟨rfl, rfl, rfl, rfl⟩, rfl, fun i hi => ⟨rfl, rfl, rfl⟩, rfl, fun s hs => ⟨rfl, rfl⟩, rfl, rfl⟩
  obtain ⟨S2, L, -, h2, h3, -⟩ := m_openAll (d := 28) (k := 17) (by decide) (by decide) (by decide) hw hT
  rw [EV_eq h3] at h2
  exact dok_evs hw h2
theorem al143 : sd_al 143 = 288 ∧ sd_al 144 = 288 ∧ sd_al 145 = 288 ∧ sd_al 146 = 288 ∧ sd_al 147 = 288 ∧ sd_al 148 = 576 ∧ sd_al 149 = 576 ∧ sd_al 150 = 288 ∧ sd_al 151 = 288 ∧ sd_al 152 = 288 := by decide
def EVR (S : sd_St) (M : List (Nat × Nat)) : Prop := S.1 130 20 = nI M.length ∧ ∀ i t p, M[i]? = some (t, p) → S.1 143 i = nI p ∧ S.1 144 i = nI t
def FRE (S S2 : sd_St) : Prop := frm (fun a => a = 130 ∨ a = 143 ∨ a = 144) S S2 ∧ ∀ j, j ≠ 20 → S2.1 130 j = S.1 130 j
theorem FRE_rfl {S : sd_St} : FRE S S := ⟨frm_rfl, fun _ _ => rfl⟩
theorem FRE_trans {S S2 S3 : sd_St} (h : FRE S S2) (g : FRE S2 S3) : FRE S S3 := ⟨frm_trans h.1 g.1 (fun _ h => h) (fun _ h => h), fun j hj => (g.2 j hj).trans (h.2 j hj)⟩
theorem n_ev_l48 {T : TW} (hw : wfT T) (q11 : Int32 → Int32 → sd_St → Option (Unit × sd_St)) {B t : Nat} {xk : Int32} (ht : t < 4392) (hB : B < 4392) (htB : t ≤ B) : ∀ (m n e : Nat) (S : sd_St) (M : List (Nat × Nat)), e + m = tn T → m < n → RTg (S.1 136) T → EVR S M → (M ++ ((List.range' e m).filter (fun p => freeB T p t)).map (fun p => (t, p))).length ≤ 288 → ∃ S2, f_X12_findEvents_l48 q11 n (nI B) xk (nI t) (nI e) S = q11 (nI B) (xk + 1) S2 ∧ EVR S2 (M ++ ((List.range' e m).filter (fun p => freeB T p t)).map (fun p => (t, p))) ∧ FRE S S2 := by
  have h12 := hw.1
  have hal := al143
  intro m
  induction m with
  | zero =>
    intro n e S M he hn hT hE hl
    obtain ⟨n, rfl⟩ : ∃ n', n = n' + 1 := ⟨n - 1, by omega⟩
    refine ⟨S, ?_, ?_, FRE_rfl⟩
    · unfold f_X12_findEvents_l48 f_X12_findEvents_b109
      rw [sd_cl_ok (n_people hT), if_pos (nI_le (by omega) (by omega))]
    · show EVR S (M ++ [])
      rw [List.append_nil]; exact hE
  | succ m ih =>
    intro n e S M he hn hT hE hl
    obtain ⟨n, rfl⟩ : ∃ n', n = n' + 1 := ⟨n - 1, by omega⟩
    have hen : e < tn T := by omega
    rw [dayT] at hl ⊢
    unfold f_X12_findEvents_l48 f_X12_findEvents_b103
    rw [sd_cl_ok (n_people hT), if_neg (nI_ge hen (by omega)), if_neg (nI_nlt htB (by omega)), sd_cl_ok (n_isFree hT hw hen ht)]
    cases cf : freeB T e t with
    | false =>
      rw [cf] at hl
      rw [if_pos (by decide), nI_1]
      exact ih n (e + 1) S M (by omega) (by omega) hT hE hl
    | true =>
      rw [cf] at hl
      have hl2 : (M ++ [(t, e)] ++ ((List.range' (e + 1) m).filter (fun p => freeB T p t)).map (fun p => (t, p))).length ≤ 288 := by
        rw [List.append_assoc]; exact hl
      have hM : M.length < 288 := by
        rw [List.length_append, List.length_append] at hl2
        have : [(t, e)].length = 1 := rfl
        omega
      rw [if_neg (by decide), hE.1, sd_st_ok (by rw [hal.1]; omega) (sd_al_lt _)]
      obtain ⟨A1, hA1⟩ : ∃ A, A = sd_I S 143 M.length (nI e) := ⟨_, rfl⟩
      have f1 : A1.1 130 20 = nI M.length := by rw [hA1, rI_cell (by decide)]; exact hE.1
      rw [← hA1, f1, sd_st_ok (by rw [hal.2.1]; omega) (sd_al_lt _)]
      obtain ⟨A2, hA2⟩ : ∃ A, A = sd_I A1 144 M.length (nI t) := ⟨_, rfl⟩
      have f2 : A2.1 130 20 = nI M.length := by rw [hA2, rI_cell (by decide)]; exact f1
      rw [← hA2, f2, nI_1, sd_nm_eq, nI_1]
      obtain ⟨A3, hA3⟩ : ∃ A, A = sd_I A2 130 20 (nI (M.length + 1)) := ⟨_, rfl⟩
      rw [← hA3]
      have fr : FRE S A3 := by
        refine ⟨⟨fun a ha => ?_, fun a _ => by rw [hA3, hA2, hA1]; rfl⟩, fun j hj => ?_⟩
        · rw [hA3, rI_cell (by omega), hA2, rI_cell (by omega), hA1, rI_cell (by omega)]
        · rw [hA3, rI_oth hj, hA2, rI_cell (by decide), hA1, rI_cell (by decide)]
      have hE3 : EVR A3 (M ++ [(t, e)]) := by
        refine ⟨by rw [hA3, rI_same, List.length_append]; rfl, fun i t' p' hi => ?_⟩
        rw [hA3, rI_cell (by decide), rI_cell (by decide), hA2, rI_cell (by decide), hA1]
        by_cases ci : i < M.length
        · rw [List.getElem?_append_left ci] at hi
          rw [rI_oth (by omega), rI_oth (by omega), rI_cell (by decide)]
          exact hE.2 i t' p' hi
        · rw [List.getElem?_append_right (by omega)] at hi
          have h0 : i - M.length = 0 := by
            rcases Nat.eq_zero_or_pos (i - M.length) with q | q
            · exact q
            · rw [List.getElem?_eq_none (by simp; omega)] at hi; cases hi
          rw [h0] at hi
          have hi : (t, e) = (t', p') := by simpa using hi
          cases hi
          have : i = M.length := by omega
          rw [this, rI_same, rI_same]
          exact ⟨rfl, rfl⟩
      obtain ⟨S2, e1, e2, e3⟩ := ih n (e + 1) A3 (M ++ [(t, e)]) (by omega) (by omega) (by rw [fr.1.1 136 (by decide)]; exact hT) hE3 hl2
      refine ⟨S2, e1, ?_, FRE_trans fr e3⟩
      rw [List.append_assoc] at e2
      exact e2
theorem n_ev_l11 {T : TW} (hw : wfT T) {D : List Nat} (hmx : ∀ d ∈ D, d < 366) (hl : D.length ≤ 24) {B : Nat} (hB : B < 4392) : ∀ (m n k : Nat) (S : sd_St) (M : List (Nat × Nat)), k + m = 12 * D.length → m < n → RTg (S.1 136) T → DL S D → EVR S M → (M ++ (rev T D k m).filter (fun ev => decide (ev.1 ≤ B))).length ≤ 288 → ∃ S2, f_X12_findEvents_l11 n (nI B) (nI k) S = some ((), S2) ∧ EVR S2 (M ++ (rev T D k m).filter (fun ev => decide (ev.1 ≤ B))) ∧ FRE S S2 := by
  have h12 := hw.1
  intro m
  induction m with
  | zero =>
    intro n k S M hk hn hT hD hE hlen
    obtain ⟨n, rfl⟩ : ∃ n', n = n' + 1 := ⟨n - 1, by omega⟩
    refine ⟨S, ?_, ?_, FRE_rfl⟩
    · unfold f_X12_findEvents_l11
      rw [hD.1, show (12 : Int32) = nI 12 from rfl, nI_mul, if_pos (nI_le (by omega) (by omega))]
    · show EVR S (M ++ [])
      rw [List.append_nil]; exact hE
  | succ m ih =>
    intro n k S M hk hn hT hD hE hlen
    obtain ⟨n, rfl⟩ : ∃ n', n = n' + 1 := ⟨n - 1, by omega⟩
    have h0 : 0 < D.length := by omega
    have hat := tk_at (k := k) h0
    have hm := hmx _ (List.mem_of_getElem? hat)
    have hkl := Nat.mod_lt k h0
    have hkd : k / D.length < 12 := Nat.div_lt_of_lt_mul (by omega)
    have hrv : rev T D k (m + 1) = dayE T (tk D k) ++ rev T D (k + 1) m := by
      unfold rev
      rw [List.range'_succ, List.flatMap_cons]
    have hdy : dayE T (tk D k) = ((List.range' 0 (tn T)).filter (fun p => freeB T p (tk D k))).map (fun p => (tk D k, p)) := by
      unfold dayE
      rw [List.range_eq_range']
    rw [hrv, List.filter_append] at hlen ⊢
    have hnz : ∀ (f : Option (Unit × sd_St)), sd_nz (nI D.length) f = f := fun f => by
      unfold sd_nz
      rw [if_neg (nI_ne0 h0 (by omega))]
    have htl : tk D k < 4392 := by unfold tk; omega
    have hpre : f_X12_findEvents_l11 (n + 1) (nI B) (nI k) S = f_X12_findEvents_l48 (f_X12_findEvents_l11 n) sd_FU (nI B) (nI k) (nI (tk D k)) (nI 0) S := by
      show (if ((12 : Int32) * (S.1 130 16)) ≤ nI k then _ else _) = _
      rw [hD.1, show (12 : Int32) = nI 12 from rfl, nI_mul, if_neg (nI_ge (by omega) (by omega)), hnz, hnz, nI_rem (by omega) h0 (by omega), sd_ld_ok (by rw [al139]; omega) (sd_al_lt _), hD.2 _ _ hat, nI_div (by omega) h0 (by omega), show (366 : Int32) = nI 366 from rfl, nI_mul, nI_add, sd_nm_eq]
      rfl
    rw [hpre]
    by_cases ct : tk D k ≤ B
    · have hfd : (dayE T (tk D k)).filter (fun ev => decide (ev.1 ≤ B)) = dayE T (tk D k) := by
        refine List.filter_eq_self.mpr (fun x hx => ?_)
        obtain ⟨x1, x2⟩ := x
        have := (dayE_mem.mp hx).1
        exact decide_eq_true (by show x1 ≤ B; omega)
      rw [hfd, ← List.append_assoc] at hlen ⊢
      have hl1 : (M ++ dayE T (tk D k)).length ≤ 288 := by
        rw [List.length_append] at hlen
        omega
      rw [hdy] at hl1
      obtain ⟨S1, g1, g2, g3⟩ := n_ev_l48 hw (f_X12_findEvents_l11 n) (xk := nI k) htl hB ct (tn T) sd_FU 0 S M (by omega) (by unfold sd_FU; omega) hT hE hl1
      rw [← hdy] at g2
      rw [g1, nI_1]
      obtain ⟨S2, y1, y2, y3⟩ := ih n (k + 1) S1 (M ++ dayE T (tk D k)) (by omega) (by omega) (by rw [g3.1.1 136 (by decide)]; exact hT) ⟨by rw [g3.2 16 (by decide)]; exact hD.1, fun i d hi => by rw [g3.1.1 139 (by decide)]; exact hD.2 i d hi⟩ g2 hlen
      exact ⟨S2, y1, y2, FRE_trans g3 y3⟩
    · have hfd : (dayE T (tk D k)).filter (fun ev => decide (ev.1 ≤ B)) = [] := by
        refine List.filter_eq_nil_iff.mpr (fun x hx => ?_)
        obtain ⟨x1, x2⟩ := x
        have := (dayE_mem.mp hx).1
        rw [decide_eq_true_iff]
        show ¬ x1 ≤ B
        omega
      rw [hfd, List.nil_append] at hlen ⊢
      obtain ⟨S2, y1, y2, y3⟩ := ih n (k + 1) S M (by omega) (by omega) hT hD hE hlen
      refine ⟨S2, ?_, y2, y3⟩
      rw [← y1]
      show f_X12_findEvents_l48 _ (19999 + 1) _ _ _ _ _ = _
      unfold f_X12_findEvents_l48 f_X12_findEvents_b109
      rw [sd_cl_ok (n_people hT), nI_1]
      by_cases c0 : nI (tn T) ≤ nI 0
      · rw [if_pos c0]
      · rw [if_neg c0, if_pos (nI_lt (by omega) (by omega))]
theorem n_findEvents {T : TW} (hw : wfT T) (hfull : fullT T) {B : Nat} (hB : B < 4392) {S : sd_St} (hT : RTg (S.1 136) T) : ∃ S2, f_X12_findEvents (nI B) S = some ((), S2) ∧ EVR S2 ((evs T 4392).filter (fun ev => decide (ev.1 ≤ B))) ∧ frm (fun a => a = 130 ∨ a = 139 ∨ a = 143 ∨ a = 144) S S2 ∧ ∀ j, j ≠ 16 → j ≠ 20 → S2.1 130 j = S.1 130 j := by
  have hl := (dok_T hw).1
  obtain ⟨A1, hA1⟩ : ∃ A, A = sd_I S 130 20 0 := ⟨_, rfl⟩
  obtain ⟨A2, D, e1, e2, e3, e4, e5, e6, e7⟩ := n_findDays hw hfull (S := A1) (by rw [hA1, rI_cell (by decide)]; exact hT)
  have hmx : ∀ d ∈ D, d < 366 := fun d hd => by
    obtain ⟨_, _, h, _⟩ := (e4 d).mp hd
    exact h
  have hrev := EV_eq (rev_EV e3 e4)
  obtain ⟨S2, y1, y2, y3⟩ := n_ev_l11 hw hmx e5 hB (12 * D.length) sd_FU 0 A2 [] (by omega) (by unfold sd_FU; omega) (by rw [e6.1 136 (by omega), hA1, rI_cell (by decide)]; exact hT) e2 ⟨by rw [e7 20 (by decide), hA1, rI_same]; rfl, fun i t p z => (by cases z)⟩ (by
    rw [hrev, List.nil_append]
    exact Nat.le_trans (List.length_filter_le _ _) hl)
  rw [hrev, List.nil_append] at y2
  refine ⟨S2, ?_, y2, ?_, fun j h1 h2 => ?_⟩
  · unfold f_X12_findEvents
    rw [sd_nm_eq, ← hA1, sd_cl_ok e1]
    exact y1
  · have f1 : frm (fun a => a = 130 ∨ a = 139 ∨ a = 143 ∨ a = 144) S A1 := by rw [hA1]; exact frm_I (Or.inl rfl)
    exact frm_trans (frm_trans (e := fun a => a = 130 ∨ a = 139 ∨ a = 143 ∨ a = 144) f1 e6 (fun _ h => h) (fun a h => by omega)) y3.1 (fun _ h => h) (fun a h => by omega)
  · rw [y3.2 j h2, e7 j h1, hA1, rI_oth h2]
