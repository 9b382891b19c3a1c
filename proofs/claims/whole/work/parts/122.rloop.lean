/-! THE REFERENCE'S SEARCH: its loop -/
theorem n_l98 {T : TW} (hw : wfT T) {M : List (Nat × Nat)} {b f g : Nat} (hg : g < 12) {u : Nat → Bool} {c : Nat → Option Nat} (hG : GF M.length (grS M b f) (grT T M g) (grE T M) u c) : ∀ (m n i : Nat) (S : sd_St) (Q : List Nat) (tF : Nat → Option Nat) (tB : Nat → Nat), 2 * M.length - i ≤ m → m < n → i ≤ Q.length → RS T M b f u c S Q tF tB → PROr T M g u c Q i → (∃ S2 R tF2 tB2, f_X12_findWay_l98 n (nI g) (nI i) S = some (-1, S2) ∧ RS T M b f u c S2 (Q ++ R) tF2 tB2 ∧ PROr T M g u c (Q ++ R) (Q ++ R).length ∧ FRM S S2) ∨ ∃ (S2 : sd_St) (R : List Nat) (tF2 : Nat → Option Nat) (tB2 : Nat → Nat) (j x : Nat), f_X12_findWay_l98 n (nI g) (nI i) S = some (nI (2 * x + 1), S2) ∧ RS T M b f u c S2 (Q ++ R) tF2 tB2 ∧ (Q ++ R)[j]? = some (2 * x + 1) ∧ grT T M g x ∧ FRM S S2 := by
  have hal := al143
  have hfin : ∀ (n i : Nat) (S : sd_St) (Q : List Nat) (tF : Nat → Option Nat) (tB : Nat → Nat), i = Q.length → 0 < n → RS T M b f u c S Q tF tB → PROr T M g u c Q i → (∃ S2 R tF2 tB2, f_X12_findWay_l98 n (nI g) (nI i) S = some (-1, S2) ∧ RS T M b f u c S2 (Q ++ R) tF2 tB2 ∧ PROr T M g u c (Q ++ R) (Q ++ R).length ∧ FRM S S2) := by
    intro n i S Q tF tB hi' hn hRS hP
    obtain ⟨n, rfl⟩ : ∃ n', n = n' + 1 := ⟨n - 1, by omega⟩
    have h288 := hRS.2.2.1.2.2.1
    have hlen := sr_len hRS.1
    refine ⟨S, [], tF, tB, ?_, by rw [List.append_nil]; exact hRS, by rw [List.append_nil, ← hi']; exact hP, FRM_rfl⟩
    unfold f_X12_findWay_l98
    rw [hRS.2.1.1, hi', if_pos (nI_le (Nat.le_refl _) (by omega))]
  intro m
  induction m with
  | zero =>
    intro n i S Q tF tB hm hn hi' hRS hP
    have hlen := sr_len hRS.1
    exact Or.inl (hfin n i S Q tF tB (by omega) (by omega) hRS hP)
  | succ m ih =>
    intro n i S Q tF tB hm hn hi' hRS hP
    by_cases ci : i = Q.length
    · exact Or.inl (hfin n i S Q tF tB ci (by omega) hRS hP)
    · obtain ⟨n, rfl⟩ : ∃ n', n = n' + 1 := ⟨n - 1, by omega⟩
      have hRS0 := hRS
      obtain ⟨h1, h2, h3, h4, h5⟩ := hRS
      have h288 := h3.2.2.1
      have hlen := sr_len h1
      have hil : i < Q.length := by omega
      obtain ⟨q, hq⟩ : ∃ q, Q[i]? = some q := ⟨Q[i], List.getElem?_eq_getElem hil⟩
      have hqm := List.mem_of_getElem? hq
      have hq2 := sr_lt h1 hqm
      have e149 := h2.2.1 i q hq
      obtain ⟨d, hd⟩ : ∃ d, d = q / 2 := ⟨_, rfl⟩
      have hdN : d < M.length := by omega
      have hon : ∀ (S2 : sd_St) (R : List Nat) (tF2 : Nat → Option Nat) (tB2 : Nat → Nat), f_X12_findWay_l98 (n + 1) (nI g) (nI i) S = f_X12_findWay_l98 n (nI g) (nI (i + 1)) S2 → RS T M b f u c S2 (Q ++ R) tF2 tB2 → PROr T M g u c (Q ++ R) (i + 1) → FRM S S2 → ((∃ S2 R tF2 tB2, f_X12_findWay_l98 (n + 1) (nI g) (nI i) S = some (-1, S2) ∧ RS T M b f u c S2 (Q ++ R) tF2 tB2 ∧ PROr T M g u c (Q ++ R) (Q ++ R).length ∧ FRM S S2) ∨ ∃ (S2 : sd_St) (R : List Nat) (tF2 : Nat → Option Nat) (tB2 : Nat → Nat) (j x : Nat), f_X12_findWay_l98 (n + 1) (nI g) (nI i) S = some (nI (2 * x + 1), S2) ∧ RS T M b f u c S2 (Q ++ R) tF2 tB2 ∧ (Q ++ R)[j]? = some (2 * x + 1) ∧ grT T M g x ∧ FRM S S2) := by
        intro S2 R tF2 tB2 e1 e2 e3 e4
        rcases ih n (i + 1) S2 (Q ++ R) tF2 tB2 (by omega) (by omega) (by rw [List.length_append]; omega) e2 e3 with ⟨S3, R3, tF3, tB3, y1, y2, y3, y4⟩ | ⟨S3, R3, tF3, tB3, j, x, y1, y2, y3, y4, y5⟩
        · refine Or.inl ⟨S3, R ++ R3, tF3, tB3, e1.trans y1, ?_, ?_, FRM_trans e4 y4⟩
          · rw [← List.append_assoc]; exact y2
          · rw [← List.append_assoc]; exact y3
        · refine Or.inr ⟨S3, R ++ R3, tF3, tB3, j, x, e1.trans y1, ?_, ?_, y4, FRM_trans e4 y5⟩
          · rw [← List.append_assoc]; exact y2
          · rw [← List.append_assoc]; exact y3
      rcases (show q = 2 * d ∨ q = 2 * d + 1 by omega) with cq | cq
      · rw [cq] at hq hqm e149
        obtain ⟨S2, R, tB2, e1, e2, e3, e4, e5⟩ := n_front hG (f_X12_findWay_l98 n) (x3 := nI g) hRS0 hq
        refine hon S2 R tF tB2 ?_ e2 ?_ e5
        · show (if S.1 130 28 ≤ nI i then _ else _) = _
          rw [h2.1, if_neg (nI_ge (by omega) (by omega)), sd_ld_ok (by rw [hal.2.2.2.2.2.2.1]; omega) (sd_al_lt _), sd_nm_eq, sd_ld_ok (by rw [hal.2.2.2.2.2.2.1]; omega) (sd_al_lt _), e149, show (nI (2 * d)) / (2 : Int32) = nI d from by rw [show (2 : Int32) = nI 2 from rfl, nI_div (by omega) (by omega) (by omega), show 2 * d / 2 = d by omega], show sd_rem (nI (2 * d)) (2 : Int32) = 0 from by rw [show (2 : Int32) = nI 2 from rfl, nI_rem (by omega) (by omega) (by omega), show 2 * d % 2 = 0 by omega]; rfl, if_pos rfl]
          exact e1
        · intro j hj
          by_cases cj : j = i
          · subst cj
            refine ⟨fun d' hd' => ?_, fun d' hd' => ?_⟩
            · have := (idx_app' hil hd').symm.trans hq
              have : d' = d := by have := Option.some.inj this; omega
              subst this
              exact ⟨e3, e4⟩
            · have := Option.some.inj ((idx_app' hil hd').symm.trans hq)
              omega
          · exact PROr_app hP hi' R j (by omega)
      · rw [cq] at hq hqm e149
        have hn3 := nx_back hRS0 hq
        obtain ⟨v1, v2⟩ := ev_at h3.2.1 hdN
        obtain ⟨w1, w2⟩ := h3.2.2.2.1 d hdN
        have h12 := hw.1
        have hpre : f_X12_findWay_l98 (n + 1) (nI g) (nI i) S = (if guestB T (dD M d) (dH M d) g = true then some (nI (2 * d + 1), S) else f_X12_findWay_b252 (f_X12_findWay_l98 n) (nI g) (nI i) (nI d) S) := by
          show (if S.1 130 28 ≤ nI i then _ else _) = _
          rw [h2.1, if_neg (nI_ge (by omega) (by omega)), sd_ld_ok (by rw [hal.2.2.2.2.2.2.1]; omega) (sd_al_lt _), sd_nm_eq, sd_ld_ok (by rw [hal.2.2.2.2.2.2.1]; omega) (sd_al_lt _), e149, show (nI (2 * d + 1)) / (2 : Int32) = nI d from by rw [show (2 : Int32) = nI 2 from rfl, nI_div (by omega) (by omega) (by omega), show (2 * d + 1) / 2 = d by omega], show sd_rem (nI (2 * d + 1)) (2 : Int32) = nI 1 from by rw [show (2 : Int32) = nI 2 from rfl, nI_rem (by omega) (by omega) (by omega), show (2 * d + 1) % 2 = 1 by omega], if_neg (by decide), sd_ld_ok (by rw [hal.2.2.2.1]; omega) (sd_al_lt _), if_neg hn3, sd_ld_ok (by rw [hal.1]; omega) (sd_al_lt _), v1, sd_cl_ok (n_calls h3.1 hw hg w2)]
          unfold guestB
          cases cc : (tc T (dH M d)).testBit g with
          | false => rw [if_pos (by decide), if_neg (by simp)]
          | true =>
            rw [if_neg (by decide), sd_ld_ok (by rw [hal.2.1]; omega) (sd_al_lt _), v2, sd_cl_ok (n_isGone h3.1 hw (by omega) w1)]
            cases cg : goneB T g (dD M d) with
            | false => rw [if_pos (by decide), sd_ld_ok (by rw [hal.2.2.2.2.2.2.1]; omega) (sd_al_lt _), e149, if_pos (by simp)]
            | true => rw [if_neg (by decide), if_neg (by simp)]
        by_cases ct : grT T M g d
        · refine Or.inr ⟨S, [], tF, tB, i, d, ?_, by rw [List.append_nil]; exact hRS0, by rw [List.append_nil]; exact hq, ct, FRM_rfl⟩
          rw [hpre, if_pos (show guestB T (dD M d) (dH M d) g = true from ct)]
        · obtain ⟨S2, R, tF2, e1, e2, e3, e4, e5⟩ := n_l258 hw (f_X12_findWay_l98 n) (x3 := nI g) (i := i) (d := d) (M.length - (d + 1)) sd_FU (d + 1) S Q tF (by omega) (by unfold sd_FU; omega) hRS0 hq (by omega) (fun e' z1 z2 _ => absurd z1 (by omega))
          refine hon S2 R tF2 tB ?_ e2 ?_ e5
          · rw [hpre, if_neg (show ¬ guestB T (dD M d) (dH M d) g = true from ct)]
            unfold f_X12_findWay_b252
            rw [nI_1]
            exact e1
          · intro j hj
            by_cases cj : j = i
            · subst cj
              refine ⟨fun d' hd' => ?_, fun d' hd' => ?_⟩
              · have := Option.some.inj ((idx_app' hil hd').symm.trans hq)
                omega
              · have := (idx_app' hil hd').symm.trans hq
                have : d' = d := by have := Option.some.inj this; omega
                subst this
                exact ⟨e3, e4, ct⟩
            · exact PROr_app hP hi' R j (by omega)
