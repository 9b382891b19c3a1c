/-! person, count -/
theorem n_person_l {S : sd_St} {T : TW} (hw : wfT T) (hT : RTg (S.1 136) T) {p : Nat} (hp : p < tn T) {x2 : Int32} : ∀ (m n q : Nat), q + m = tn T → m < n → f_X12_person_l29 n (nI p) x2 (msk q (fun q => (tc T q).testBit p)) (nI q) S = f_X12_person_l29 1 (nI p) x2 (msk (tn T) (fun q => (tc T q).testBit p)) (nI (tn T)) S := by
  have h12 := hw.1
  intro m
  induction m with
  | zero =>
    intro n q hq hn
    obtain ⟨n, rfl⟩ : ∃ n', n = n' + 1 := ⟨n - 1, by omega⟩
    rw [show tn T = q by omega]
    unfold f_X12_person_l29
    rw [sd_cl_ok (n_people hT), if_pos (nI_le (by omega) (by omega)), sd_cl_ok (n_people hT), if_pos (nI_le (by omega) (by omega))]
  | succ m ih =>
    intro n q hq hn
    obtain ⟨n, rfl⟩ : ∃ n', n = n' + 1 := ⟨n - 1, by omega⟩
    have ih := ih n (q + 1) (by omega) (by omega)
    rw [msk_succ] at ih
    rw [← ih]
    conv => lhs; unfold f_X12_person_l29 f_X12_person_b57
    rw [sd_cl_ok (n_people hT), if_neg (nI_ge (by omega) (by omega)), sd_cl_ok (n_calls hT hw (by omega) (by omega)), sd_nm_eq, sd_nm_eq, nI_1]
    cases c : (tc T q).testBit p with
    | true => rfl
    | false =>
      have : ∀ x : Int32, x ||| 0 = x := fun x => by apply hb_ext; intro q _; rw [hb_or, hb_0, Bool.or_false]
      rw [this]
      rfl
theorem ag_person (x1 x2 : Int32) : AG (f_X11_person x1 x2) (f_X12_person x1 x2) := by
  intro σ hw
  have hw1 := hw.1
  have h12 := hw1.1
  rcases ix_or x1 (wf31 hw1).1 with ⟨p, hp, rfl⟩ | c1
  · rcases ix_or x2 (show 5 < 2 ^ 31 by decide) with ⟨k, hk, rfl⟩ | c2
    · have hn : ∀ S, IR S σ → f_X12_person (nI p) (nI k) S = f_X12_person_l29 1 (nI p) (nI k) (msk (tn σ.1) (fun q => (tc σ.1 q).testBit p)) (nI (tn σ.1)) (sd_I S 130 0 0) := by
        intro S h
        have t1 := (IR_thr h).1
        unfold f_X12_person
        rw [sd_nm_eq, sd_cl_ok (n_isPerson (IR_T t1) hw1 hp), if_neg (by decide), show (4 : Int32) = nI 4 from rfl, sd_cl_ok (n_within (by omega) (by decide)), if_neg (by decide)]
        exact n_person_l hw1 (IR_T t1) hp (tn σ.1) sd_FU 0 (by omega) (by unfold sd_FU; omega)
      have hal : sd_al 18 = 12 ∧ sd_al 19 = 12 ∧ sd_al 20 = 12 ∧ sd_al 21 = 12 ∧ sd_al 22 = 12 := by decide
      rcases (show k = 0 ∨ k = 1 ∨ k = 2 ∨ k = 3 ∨ k = 4 by omega) with rfl | rfl | rfl | rfl | rfl
      · refine AG_none hw (v := nI (tb σ.1 p) - 1) (fun S h => ?_) (fun S h => ?_)
        · unfold f_X11_person
          rw [sd_cl_ok (m_isPerson (IC_T h) hw1 hp), if_neg (by decide), if_pos (by decide), sd_ld_ok (by omega) (sd_al_lt _), ((IC_T h).2.1 p hp).1]
        · rw [hn S h]
          have t1 := (IR_thr h).1
          unfold f_X12_person_l29
          rw [sd_cl_ok (n_people (IR_T t1)), if_pos (nI_le (by omega) (by omega)), ix4, sd_nm_eq, if_neg (by decide), if_neg (by decide), nI_add, ldT (by omega), Nat.add_zero, ((IR_T t1).2.2.2.1 p hp).1]
      · refine AG_none hw (v := nI (tm σ.1 p) - 1) (fun S h => ?_) (fun S h => ?_)
        · unfold f_X11_person
          rw [sd_cl_ok (m_isPerson (IC_T h) hw1 hp), if_neg (by decide), if_neg (by decide), if_pos (by decide), sd_ld_ok (by omega) (sd_al_lt _), ((IC_T h).2.1 p hp).2.1]
        · rw [hn S h]
          have t1 := (IR_thr h).1
          unfold f_X12_person_l29
          rw [sd_cl_ok (n_people (IR_T t1)), if_pos (nI_le (by omega) (by omega)), ix4, sd_nm_eq, if_neg (by decide), if_pos (by decide), nI_1, ldT (by omega), ((IR_T t1).2.2.2.1 p hp).2.1]
      · refine AG_none hw (v := nI (ti σ.1 p)) (fun S h => ?_) (fun S h => ?_)
        · unfold f_X11_person
          rw [sd_cl_ok (m_isPerson (IC_T h) hw1 hp), if_neg (by decide), if_neg (by decide), if_neg (by decide), if_pos (by decide), sd_ld_ok (by omega) (sd_al_lt _), ((IC_T h).2.1 p hp).2.2.1]
        · rw [hn S h]
          have t1 := (IR_thr h).1
          unfold f_X12_person_l29
          rw [sd_cl_ok (n_people (IR_T t1)), if_pos (nI_le (by omega) (by omega)), ix4, sd_nm_eq, if_neg (by decide), if_neg (by decide), nI_add, ldT (by omega), ((IR_T t1).2.2.2.1 p hp).2.2.1]
      · refine AG_none hw (v := nI (tc σ.1 p)) (fun S h => ?_) (fun S h => ?_)
        · unfold f_X11_person
          rw [sd_cl_ok (m_isPerson (IC_T h) hw1 hp), if_neg (by decide), if_neg (by decide), if_neg (by decide), if_neg (by decide), if_pos (by decide), sd_ld_ok (by omega) (sd_al_lt _), ((IC_T h).2.1 p hp).2.2.2]
        · rw [hn S h]
          have t1 := (IR_thr h).1
          unfold f_X12_person_l29
          rw [sd_cl_ok (n_people (IR_T t1)), if_pos (nI_le (by omega) (by omega)), ix4, sd_nm_eq, if_neg (by decide), if_neg (by decide), nI_add, ldT (by omega), ((IR_T t1).2.2.2.1 p hp).2.2.2]
      · refine AG_none hw (v := msk (tn σ.1) (fun q => (tc σ.1 q).testBit p)) (fun S h => ?_) (fun S h => ?_)
        · unfold f_X11_person
          rw [sd_cl_ok (m_isPerson (IC_T h) hw1 hp), if_neg (by decide), if_neg (by decide), if_neg (by decide), if_neg (by decide), if_neg (by decide), if_pos (by decide), sd_ld_ok (by omega) (sd_al_lt _)]
          have : S.1 22 p = msk (tn σ.1) (fun q => (tc σ.1 q).testBit p) := by
            apply hb_ext
            intro q _
            rw [h.1.2.1 p hp q, hb_msk _ (by omega)]
          rw [this]
        · rw [hn S h]
          have t1 := (IR_thr h).1
          unfold f_X12_person_l29
          rw [sd_cl_ok (n_people (IR_T t1)), if_pos (nI_le (by omega) (by omega)), sd_nm_eq, if_pos (by decide)]
    · have c3 : ∀ j : Nat, j < 5 → ¬ x2 = nI j := by
        intro j hj z
        subst z
        rcases c2 with c | c
        · exact nI_pos (by omega) c
        · exact nI_ge hj (by decide) c
      refine AG_none hw (v := -1) (fun S h => ?_) (fun S h => ?_)
      · unfold f_X11_person
        rw [sd_cl_ok (m_isPerson (IC_T h) hw1 hp), if_neg (by decide), if_neg (show ¬ x2 = (0 : Int32) from c3 0 (by decide)), if_neg (show ¬ x2 = (1 : Int32) from c3 1 (by decide)), if_neg (show ¬ x2 = (2 : Int32) from c3 2 (by decide)), if_neg (show ¬ x2 = (3 : Int32) from c3 3 (by decide)), if_neg (show ¬ x2 = (4 : Int32) from c3 4 (by decide))]
      · unfold f_X12_person
        rw [sd_nm_eq, sd_cl_ok (n_isPerson (IR_T (IR_thr h).1) hw1 hp), if_neg (by decide), show (4 : Int32) = nI 4 from rfl, sd_cl_ok (n_within_n (by decide) c2), if_pos rfl]
  · refine AG_none hw (v := -1) (fun S h => ?_) (fun S h => ?_)
    · unfold f_X11_person
      rw [sd_cl_ok (m_isPerson_n (IC_T h) c1), if_pos rfl]
    · unfold f_X12_person
      rw [sd_nm_eq, sd_cl_ok (n_isPerson_n (IR_T (IR_thr h).1) c1), if_pos rfl]
def cnB (x : Int32) (n : Nat) : Nat := ((List.range n).filter (fun q => hb x q)).length
theorem cnB_succ (x : Int32) (n : Nat) : cnB x (n + 1) = cnB x n + (if hb x n then 1 else 0) := by
  unfold cnB
  rw [List.range_succ, List.filter_append, List.length_append]
  cases c : hb x n <;> simp [List.filter_cons, c]
theorem cnB_le (x : Int32) (n : Nat) : cnB x n ≤ n := by
  unfold cnB
  exact Nat.le_trans (List.length_filter_le _ _) (by simp)
theorem n_bits_l {S : sd_St} {x : Int32} : ∀ (m n q : Nat), q + m = 12 → m < n → f_X12_bits_l4 n x (nI (cnB x q)) (nI q) S = some (nI (cnB x 12), S) := by
  intro m
  induction m with
  | zero =>
    intro n q hq hn
    obtain ⟨n, rfl⟩ : ∃ n', n = n' + 1 := ⟨n - 1, by omega⟩
    have : q = 12 := by omega
    subst this
    unfold f_X12_bits_l4
    rw [if_pos (by decide)]
  | succ m ih =>
    intro n q hq hn
    obtain ⟨n, rfl⟩ : ∃ n', n = n' + 1 := ⟨n - 1, by omega⟩
    have ih := ih n (q + 1) (by omega) (by omega)
    unfold f_X12_bits_l4
    rw [if_neg (show ¬ (12 : Int32) ≤ nI q from nI_ge (b := 12) (by omega) (by decide)), sd_nm_eq, nI_1]
    rw [cnB_succ] at ih
    cases c : hb x q with
    | true =>
      rw [c, if_pos rfl] at ih
      rw [(bit1 x (by omega)).mpr c, nI_1]
      exact ih
    | false =>
      rw [c] at ih
      rw [(hb_has x (by omega)).mpr c, show (0 : Int32) = nI 0 from rfl, nI_add]
      exact ih
theorem n_bits {S : sd_St} (x : Int32) : f_X12_bits x S = some (nI (cnB x 12), S) := by
  unfold f_X12_bits
  exact n_bits_l 12 sd_FU 0 (by omega) (by decide)
def pcq (T : TW) (n : Nat) : Nat := ((List.range n).map (fun q => ((List.range 12).filter (fun p => (tc T q).testBit p)).length)).sum
theorem pcq_succ (T : TW) (n : Nat) : pcq T (n + 1) = pcq T n + ((List.range 12).filter (fun p => (tc T n).testBit p)).length := by
  unfold pcq
  rw [List.range_succ (n := n), List.map_append, List.sum_append]
  simp only [List.map_cons, List.map_nil, List.sum_cons, List.sum_nil, Nat.add_zero]
theorem cnB_nI (b : Nat) : cnB (nI b) 12 = ((List.range 12).filter (fun p => b.testBit p)).length := by
  unfold cnB
  congr 1
  apply List.filter_congr
  intro q hq
  exact hb_nI (by have := List.mem_range.mp hq; omega)
theorem n_count_l {S : sd_St} {T : TW} (hw : wfT T) (hT : RTg (S.1 136) T) : ∀ (m n q : Nat), q + m = tn T → m < n → f_X12_count_l68 n (nI (pcq T q)) (nI q) S = some (nI (pcs T), S) := by
  have h12 := hw.1
  intro m
  induction m with
  | zero =>
    intro n q hq hn
    obtain ⟨n, rfl⟩ : ∃ n', n = n' + 1 := ⟨n - 1, by omega⟩
    unfold f_X12_count_l68
    rw [sd_cl_ok (n_people hT), if_pos (nI_le (by omega) (by omega)), show q = tn T by omega]
    rfl
  | succ m ih =>
    intro n q hq hn
    obtain ⟨n, rfl⟩ : ∃ n', n = n' + 1 := ⟨n - 1, by omega⟩
    have ih := ih n (q + 1) (by omega) (by omega)
    unfold f_X12_count_l68
    rw [sd_cl_ok (n_people hT), if_neg (nI_ge (by omega) (by omega)), sd_cl_ok (n_callers hT hw (by omega)), sd_cl_ok (n_bits _), sd_nm_eq, nI_1, nI_add, cnB_nI, ← pcq_succ]
    exact ih
theorem ag_count (x1 : Int32) : AG (f_X11_count x1) (f_X12_count x1) := by
  intro σ hw
  have hw1 := hw.1
  have h12 := hw1.1
  by_cases c0 : x1 = 0
  · subst c0
    refine AG_none hw (v := nI (tn σ.1)) (fun S h => ?_) (fun S h => ?_)
    · unfold f_X11_count
      rw [if_pos rfl, (IC_T h).1]
    · unfold f_X12_count
      rw [sd_nm_eq, if_pos rfl, sd_cl_ok (n_people (IR_T (IR_thr h).1))]
  by_cases c1 : x1 = 1
  · subst c1
    refine AG_none hw (v := nI (ts σ.1)) (fun S h => ?_) (fun S h => ?_)
    · unfold f_X11_count
      rw [if_neg (by decide), if_pos rfl, (IC_T h).2.2.2.2.1]
    · unfold f_X12_count
      rw [sd_nm_eq, if_neg (by decide), if_pos rfl, sd_cl_ok (n_secrets (IR_T (IR_thr h).1))]
  by_cases c2 : x1 = 2
  · subst c2
    refine AG_none hw (v := nI (pcs σ.1)) (fun S h => ?_) (fun S h => ?_)
    · unfold f_X11_count
      rw [if_neg (by decide), if_neg (by decide), if_pos rfl, h.1.2.2]
    · unfold f_X12_count
      rw [sd_nm_eq, if_neg (by decide), if_neg (by decide), if_pos rfl]
      exact n_count_l hw1 (IR_T (IR_thr h).1) (tn σ.1) sd_FU 0 (by omega) (by unfold sd_FU; omega)
  by_cases c3 : x1 = 3
  · subst c3
    refine AG_none hw (v := nI (ta σ.1)) (fun S h => ?_) (fun S h => ?_)
    · unfold f_X11_count
      rw [if_neg (by decide), if_neg (by decide), if_neg (by decide), if_pos rfl, (IC_T h).2.2.1]
    · unfold f_X12_count
      rw [sd_nm_eq, if_neg (by decide), if_neg (by decide), if_neg (by decide), if_pos rfl, show (51 : Int32) = nI 51 from rfl, ldT (by decide), (IR_T (IR_thr h).1).2.2.2.2.1]
  by_cases c4 : x1 = 4
  · subst c4
    refine AG_none hw (v := nI (tl σ.1)) (fun S h => ?_) (fun S h => ?_)
    · unfold f_X11_count
      rw [if_neg (by decide), if_neg (by decide), if_neg (by decide), if_neg (by decide), if_pos rfl, (IC_T h).2.2.2.2.2.2.1]
    · unfold f_X12_count
      rw [sd_nm_eq, if_neg (by decide), if_neg (by decide), if_neg (by decide), if_neg (by decide), if_pos rfl, show (0 : Int32) = nI 0 from rfl, ldT (by decide)]
      have := (IR_T (IR_thr h).1).1
      rw [show (0 : Int32) = nI 0 from rfl] at this
      rw [this]
  by_cases c5 : x1 = 5
  · subst c5
    refine AG_none hw (v := nI (tz σ.1)) (fun S h => ?_) (fun S h => ?_)
    · have hz := hw1.2.2.2.2.2.2.2
      unfold f_X11_count
      rw [if_neg (by decide), if_neg (by decide), if_neg (by decide), if_neg (by decide), if_neg (by decide), if_pos rfl, (IC_T h).2.2.2.2.2.2.2]
      rcases (show tz σ.1 = 0 ∨ tz σ.1 = 1 by omega) with c | c
      · rw [c]; rfl
      · rw [c]; rfl
    · unfold f_X12_count
      rw [sd_nm_eq, if_neg (by decide), if_neg (by decide), if_neg (by decide), if_neg (by decide), if_neg (by decide), if_pos rfl, show (1 : Int32) = nI 1 from rfl, ldT (by decide), (IR_T (IR_thr h).1).2.1]
  by_cases c6 : x1 = 6
  · subst c6
    refine AG_none hw (v := nI σ.2.1.length) (fun S h => ?_) (fun S h => ?_)
    · unfold f_X11_count
      rw [if_neg (by decide), if_neg (by decide), if_neg (by decide), if_neg (by decide), if_neg (by decide), if_neg (by decide), if_pos rfl, h.2.1.1]
    · unfold f_X12_count f_X12_reports
      rw [sd_nm_eq, if_neg (by decide), if_neg (by decide), if_neg (by decide), if_neg (by decide), if_neg (by decide), if_neg (by decide), if_pos rfl, show (97 : Int32) = nI 97 from rfl, ldT (by decide), (IR_thr h).1.1.2.1]
      rfl
  by_cases c7 : x1 = 7
  · subst c7
    refine AG_none hw (v := nI σ.2.2.2.length) (fun S h => ?_) (fun S h => ?_)
    · unfold f_X11_count
      rw [if_neg (by decide), if_neg (by decide), if_neg (by decide), if_neg (by decide), if_neg (by decide), if_neg (by decide), if_neg (by decide), if_pos rfl, h.2.2.2.1.1]
    · unfold f_X12_count
      rw [sd_nm_eq, if_neg (by decide), if_neg (by decide), if_neg (by decide), if_neg (by decide), if_neg (by decide), if_neg (by decide), if_neg (by decide), if_pos rfl, (IR_thr h).1.2.2.1.1]
  refine AG_none hw (v := -1) (fun S h => ?_) (fun S h => ?_)
  · unfold f_X11_count
    rw [if_neg c0, if_neg c1, if_neg c2, if_neg c3, if_neg c4, if_neg c5, if_neg c6, if_neg c7]
  · unfold f_X12_count
    rw [sd_nm_eq, if_neg c0, if_neg c1, if_neg c2, if_neg c3, if_neg c4, if_neg c5, if_neg c6, if_neg c7]
