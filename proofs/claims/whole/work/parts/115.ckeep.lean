/-! THE CLASS KEEPS A WAY -/
theorem m_keep_s {s : Nat → Prop} {E : Nat → Nat → Prop} {u : Nat → Bool} {c : Nat → Option Nat} {lo hi : Nat} (h288 : hi ≤ 288) {Q : List Nat} {tF : Nat → Option Nat} {tB : Nat → Nat} (h : SR hi s E u c Q tF tB) (hlo : ∀ n ∈ Q, 2 * lo ≤ n) {S : sd_St} (h67 : ∀ d, lo ≤ d → d < hi → 2 * d ∈ Q → S.1 67 d = lkI (tF d)) (h68 : ∀ d, lo ≤ d → d < hi → 2 * d + 1 ∈ Q → S.1 68 d = nI (tB d)) {i x k n : Nat} (hix : Q[i]? = some (2 * x + 1)) (hk : k < 288) : ∃ S1, f_X6_keepWay_l4 62 (n + 1) (nI x) (nI k) S = f_X6_keepWay_l4 62 n (lkI (tF (tB x))) (nI (k + 1)) S1 ∧ (∀ e, S1.1 65 e = if tF (tB x) = some (tB x) ∧ e = tB x then 0 else if tB x = x ∧ e = x then 1 else S.1 65 e) ∧ (∀ e, S1.1 66 e = if tF (tB x) ≠ some (tB x) ∧ e = tB x then lkI (tF (tB x)) else S.1 66 e) ∧ frm (fun a => a = 65 ∨ a = 66) S S1 := by
  have hal := al6
  have hxm := List.mem_of_getElem? hix
  have hx2 := sr_lt h hxm
  have hx1 := hlo _ hxm
  obtain ⟨-, j, j1, j2, j3⟩ := h.2.2 i x hix
  obtain ⟨v, hv⟩ : ∃ v, v = tB x := ⟨_, rfl⟩
  rw [← hv] at j2 j3 ⊢
  have hvm := List.mem_of_getElem? j2
  have hv2 := sr_lt h hvm
  have hv1 := hlo _ hvm
  have e68 : S.1 68 x = nI v := by rw [hv]; exact h68 x (by omega) (by omega) hxm
  have e67 : S.1 67 v = lkI (tF v) := h67 v (by omega) (by omega) hvm
  have hlt : ∀ x', tF v = some x' → x' < hi := by
    intro x' hx'
    rcases (h.2.1 j v j2).2 with ⟨q, -⟩ | ⟨x2, j2', q, -, q3, -⟩
    · rw [hx'] at q; cases q
    · rw [hx'] at q
      cases q
      have := sr_lt h (List.mem_of_getElem? q3)
      omega
  have heq : (lkI (tF v) = nI v) ↔ tF v = some v := by
    cases ht : tF v with
    | none => exact ⟨fun z => absurd z.symm (nI_neg1 (by omega)), fun z => (by cases z)⟩
    | some x' =>
      have := hlt x' ht
      exact ⟨fun z => by rw [nI_inj (by omega) (by omega) (show nI x' = nI v from z)], fun z => by cases z; rfl⟩
  have hnar0 : vp_nar .boolean (0 : Int32) = 0 := by decide
  have hnar1 : vp_nar .boolean (1 : Int32) = 1 := by decide
  -- the second half
  have hB : ∀ S0 : sd_St, S0.1 67 = S.1 67 → ∃ S1, f_X6_keepWay_b42 (f_X6_keepWay_l4 62 n) 62 (nI k) (nI v) S0 = f_X6_keepWay_l4 62 n (lkI (tF v)) (nI (k + 1)) S1 ∧ (∀ e, S1.1 65 e = if tF v = some v ∧ e = v then 0 else S0.1 65 e) ∧ (∀ e, S1.1 66 e = if tF v ≠ some v ∧ e = v then lkI (tF v) else S0.1 66 e) ∧ frm (fun a => a = 65 ∨ a = 66) S0 S1 := by
    intro S0 o67
    unfold f_X6_keepWay_b42 f_X6_keepWay_b78
    simp only [Nat.reduceAdd]
    rw [sd_ld_ok (by rw [hal.2.2.2.2.1]; omega) (sd_al_lt _), o67, e67, nI_1]
    by_cases cv : tF v = some v
    · rw [if_pos (heq.mpr cv), sd_st_ok (by rw [hal.2.2.1]; omega) (sd_al_lt _), hnar0]
      refine ⟨_, rfl, fun e => ?_, fun e => ?_, frm_I (Or.inl rfl)⟩
      · by_cases ce : e = v
        · rw [if_pos ⟨cv, ce⟩, ce, rI_same]
        · rw [if_neg (fun z => ce z.2), rI_oth ce]
      · rw [if_neg (fun z => z.1 cv), rI_cell (by decide)]
    · rw [if_neg (fun z => cv (heq.mp z)), sd_st_ok (by rw [hal.2.2.2.1]; omega) (sd_al_lt _)]
      refine ⟨_, rfl, fun e => ?_, fun e => ?_, frm_I (Or.inr rfl)⟩
      · rw [if_neg (fun z => cv z.1), rI_cell (by decide)]
      · by_cases ce : e = v
        · rw [if_pos ⟨cv, ce⟩, ce, rI_same]
        · rw [if_neg (fun z => ce z.2), rI_oth ce]
  have hpre : f_X6_keepWay_l4 62 (n + 1) (nI x) (nI k) S = (if nI v = nI x then f_X6_keepWay_b42 (f_X6_keepWay_l4 62 n) 62 (nI k) (nI v) (sd_I S 65 x 1) else f_X6_keepWay_b42 (f_X6_keepWay_l4 62 n) 62 (nI k) (nI v) S) := by
    show (if (288 : Int32) ≤ nI k then _ else _) = _
    simp only [Nat.reduceAdd]
    rw [if_neg (show ¬ (288 : Int32) ≤ nI k from nI_ge (b := 288) (by omega) (by decide)), if_neg (nI_pos (by omega)), sd_ld_ok (by rw [hal.2.2.2.2.2.1]; omega) (sd_al_lt _), e68, if_pos (nI_pos' (by omega)), sd_st_ok (by rw [hal.2.2.1]; omega) (sd_al_lt _), hnar1]
  rw [hpre]
  by_cases cx : v = x
  · obtain ⟨S1, a1, a2, a3, a4⟩ := hB (sd_I S 65 x 1) (rI_cell (by decide))
    rw [if_pos (by rw [cx])]
    refine ⟨S1, a1, fun e => ?_, fun e => ?_, frm_trans (frm_I (c := fun a => a = 65 ∨ a = 66) (Or.inl rfl)) a4 (fun _ h => h) (fun _ h => h)⟩
    · rw [a2]
      by_cases c1 : tF v = some v ∧ e = v
      · rw [if_pos c1, if_pos c1]
      · rw [if_neg c1, if_neg c1]
        by_cases ce : e = x
        · rw [if_pos ⟨cx, ce⟩, ce, rI_same]
        · rw [if_neg (fun z => ce z.2), rI_oth ce]
    · rw [a3, rI_cell (by decide)]
  · obtain ⟨S1, a1, a2, a3, a4⟩ := hB S rfl
    rw [if_neg (fun z => cx (nI_inj (by omega) (by omega) z))]
    refine ⟨S1, a1, fun e => ?_, a3, a4⟩
    rw [a2]
    by_cases c1 : tF v = some v ∧ e = v
    · rw [if_pos c1, if_pos c1]
    · rw [if_neg c1, if_neg c1, if_neg (fun z => cx z.1)]
def CK (S S2 : sd_St) (tF : Nat → Option Nat) (tB : Nat → Nat) (onF onB : Nat → Prop) : Prop := (∀ e, onF e → tF e = some e → S2.1 65 e = 0) ∧ (∀ e, onB e → tB e = e → S2.1 65 e = 1) ∧ (∀ e, ¬ (onF e ∧ tF e = some e) → ¬ (onB e ∧ tB e = e) → S2.1 65 e = S.1 65 e) ∧ (∀ e, onF e → tF e ≠ some e → S2.1 66 e = lkI (tF e)) ∧ (∀ e, ¬ (onF e ∧ tF e ≠ some e) → S2.1 66 e = S.1 66 e) ∧ frm (fun a => a = 65 ∨ a = 66) S S2
theorem m_keep_l {s : Nat → Prop} {E : Nat → Nat → Prop} {u : Nat → Bool} {c : Nat → Option Nat} {lo hi : Nat} (h288 : hi ≤ 288) {Q : List Nat} {tF : Nat → Option Nat} {tB : Nat → Nat} (h : SR hi s E u c Q tF tB) (hlo : ∀ n ∈ Q, 2 * lo ≤ n) : ∀ (m n i x k : Nat) (S : sd_St), i < m → m < n → Q[i]? = some (2 * x + 1) → i + 2 * k < 576 → (∀ d, lo ≤ d → d < hi → 2 * d ∈ Q → S.1 67 d = lkI (tF d)) → (∀ d, lo ≤ d → d < hi → 2 * d + 1 ∈ Q → S.1 68 d = nI (tB d)) → ∃ S2 onF onB, f_X6_keepWay_l4 62 n (nI x) (nI k) S = some ((), S2) ∧ WAY hi s E u c tF tB onF onB x ∧ RK Q onF onB i ∧ CK S S2 tF tB onF onB := by
  intro m
  induction m with
  | zero => intro n i x k S hm; omega
  | succ m ih =>
    intro n i x k S hm hn hix hik h67 h68
    obtain ⟨n, rfl⟩ : ∃ n', n = n' + 1 := ⟨n - 1, by omega⟩
    obtain ⟨S1, a1, a2, a3, a4⟩ := m_keep_s h288 h hlo h67 h68 (n := n) hix (k := k) (by omega)
    obtain ⟨-, j, j1, j2, j3⟩ := h.2.2 i x hix
    obtain ⟨-, hv⟩ := h.2.1 j (tB x) j2
    have hvu : tF (tB x) = some (tB x) → u (tB x) = true := by
      intro z
      rcases hv with ⟨q, -⟩ | ⟨x2, j2', q, -, -, q4⟩
      · rw [z] at q; cases q
      · rw [z] at q
        cases q
        rcases q4 with ⟨-, q4⟩ | ⟨q4, -⟩
        · exact q4
        · exact absurd rfl q4
    have hxu : tB x = x → u x = false := by
      intro z
      rcases j3 with ⟨-, q⟩ | ⟨q, -⟩
      · exact q
      · exact absurd z q
    have hnc : ∀ e, tF (tB x) = some (tB x) ∧ e = tB x → ¬ (tB x = x) := by
      intro e z w
      have q1 := hvu z.1
      have q2 := hxu w
      rw [w, q2] at q1
      cases q1
    cases ht : tF (tB x) with
    | none =>
      obtain ⟨W, R⟩ := way_one h hix ht
      refine ⟨S1, _, _, ?_, W, R, ?_⟩
      · rw [a1, ht]
        obtain ⟨n, rfl⟩ : ∃ n', n = n' + 1 := ⟨n - 1, by omega⟩
        unfold f_X6_keepWay_l4
        by_cases ck : (288 : Int32) ≤ nI (k + 1)
        · rw [if_pos ck]
        · rw [if_neg ck, if_pos (show lkI none < 0 from by decide)]
      · refine ⟨fun e z1 z2 => ?_, fun e z1 z2 => ?_, fun e z1 z2 => ?_, fun e z1 z2 => ?_, fun e z1 => ?_, a4⟩
        · have z1 : e = tB x := z1
          rw [z1, ht] at z2; cases z2
        · have z1 : e = x := z1
          rw [z1] at z2
          rw [a2, if_neg (fun z => by rw [ht] at z; cases z.1), if_pos ⟨z2, z1⟩]
        · rw [a2, if_neg (fun z => by rw [ht] at z; cases z.1), if_neg (fun z => z2 ⟨z.2, by rw [z.2]; exact z.1⟩)]
        · have z1 : e = tB x := z1
          rw [a3, if_pos ⟨by rw [ht]; exact fun z => (by cases z), z1⟩, z1]
        · rw [a3, if_neg (fun z => z1 ⟨z.2, by rw [z.2, ht]; exact fun w => (by cases w)⟩)]
    | some x' =>
      rcases hv with ⟨q, -⟩ | ⟨x2, i', q, i1, i2, -⟩
      · rw [ht] at q; cases q
      · rw [ht] at q
        cases q
        obtain ⟨S2, onF, onB, y1, y2, y3, b1, b2, b3, b4, b5, b6⟩ := ih n i' x' (k + 1) S1 (by omega) (by omega) i2 (by omega) (fun d z1 z2 z3 => by rw [a4.1 67 (by omega)]; exact h67 d z1 z2 z3) (fun d z1 z2 z3 => by rw [a4.1 68 (by omega)]; exact h68 d z1 z2 z3)
        obtain ⟨W, R, nF, nB⟩ := way_more h hix j2 j1 ht i2 i1 y2 y3
        have nvB : tF (tB x) = some (tB x) → ¬ (onB (tB x) ∧ tB (tB x) = tB x) := by
          intro z w
          have q1 := hvu z
          rcases (y2.1 _ w.1).2.2 with ⟨-, q2⟩ | ⟨q2, -⟩
          · rw [q1] at q2; cases q2
          · exact q2 w.2
        refine ⟨S2, _, _, ?_, W, R, ?_⟩
        · rw [a1, ht]; exact y1
        · refine ⟨fun e z1 z2 => ?_, fun e z1 z2 => ?_, fun e z1 z2 => ?_, fun e z1 z2 => ?_, fun e z1 => ?_, frm_trans a4 b6 (fun _ h => h) (fun _ h => h)⟩
          · rcases z1 with z1 | z1
            · exact b1 e z1 z2
            · rw [z1] at z2 ⊢
              rw [b3 _ (fun z => nF z.1) (nvB z2), a2, if_pos ⟨z2, rfl⟩]
          · rcases z1 with z1 | z1
            · exact b2 e z1 z2
            · rw [z1] at z2 ⊢
              rw [b3 _ (fun z => nF (by rw [z2]; exact z.1)) (fun z => nB z.1), a2, if_neg (fun z => hnc x z z2), if_pos ⟨z2, rfl⟩]
          · rw [b3 e (fun z => z1 ⟨Or.inl z.1, z.2⟩) (fun z => z2 ⟨Or.inl z.1, z.2⟩), a2, if_neg (fun z => z1 ⟨Or.inr z.2, by rw [z.2]; exact z.1⟩), if_neg (fun z => z2 ⟨Or.inr z.2, by rw [z.2]; exact z.1⟩)]
          · rcases z1 with z1 | z1
            · exact b4 e z1 z2
            · rw [z1] at z2 ⊢
              rw [b5 _ (fun z => nF z.1), a3, if_pos ⟨z2, rfl⟩]
          · rw [b5 e (fun z => z1 ⟨Or.inl z.1, z.2⟩), a3, if_neg (fun z => z1 ⟨Or.inr z.2, by rw [z.2]; exact z.1⟩)]
