/-! THE REFERENCE'S SEARCH: its beginning -/
theorem n_l3 {N : Nat} (h288 : N ≤ 288) {x1 x2 x3 : Int32} : ∀ (m n i : Nat) (S : sd_St), i + m = 2 * N → m < n → S.1 130 20 = nI N → (∀ j, j < i → S.1 148 j = -1) → ∃ S2, f_X12_findWay_l3 n x1 x2 x3 (nI i) S = f_X12_findWay_l36 sd_FU x1 x2 x3 (0 : Int32) S2 ∧ (∀ j, j < 2 * N → S2.1 148 j = -1) ∧ S2.1 130 28 = 0 ∧ FRM S S2 := by
  have hal := al143
  intro m
  induction m with
  | zero =>
    intro n i S hi hn h20 h
    obtain ⟨n, rfl⟩ : ∃ n', n = n' + 1 := ⟨n - 1, by omega⟩
    refine ⟨sd_I S 130 28 0, ?_, fun j hj => by rw [rI_cell (by decide)]; exact h j (by omega), rI_same, ⟨frm_I (Or.inl rfl), fun j hj => rI_oth hj⟩⟩
    unfold f_X12_findWay_l3
    rw [h20, show (2 : Int32) * nI N = nI (2 * N) from nI_mul 2 N, if_pos (nI_le (by omega) (by omega)), sd_nm_eq]
  | succ m ih =>
    intro n i S hi hn h20 h
    obtain ⟨n, rfl⟩ : ∃ n', n = n' + 1 := ⟨n - 1, by omega⟩
    obtain ⟨A, hA⟩ : ∃ A, A = sd_I S 148 i (-1) := ⟨_, rfl⟩
    have fr : FRM S A := by rw [hA]; exact ⟨frm_I (Or.inr (Or.inl rfl)), fun j _ => by rw [rI_cell (by decide)]⟩
    obtain ⟨S2, e1, e2, e3, e4⟩ := ih n (i + 1) A (by omega) (by omega) (by rw [fr.2 20 (by decide)]; exact h20) (fun j hj => by
      rw [hA]
      by_cases c : j = i
      · rw [c, rI_same]
      · rw [rI_oth c]; exact h j (by omega))
    refine ⟨S2, ?_, e2, e3, FRM_trans fr e4⟩
    unfold f_X12_findWay_l3
    rw [h20, show (2 : Int32) * nI N = nI (2 * N) from nI_mul 2 N, if_neg (nI_ge (by omega) (by omega)), sd_st_ok (by rw [hal.2.2.2.2.2.1]; omega) (sd_al_lt _), ← hA, nI_1]
    exact e1
