/-! THE NEWCOMER: the town with one more, and the class -/
def nwP (T : TW) (c1 c2 k : Nat) : TW := fun i j => if i = 0 ∧ j = 0 then T 0 0 + 1 else if (i = 1 ∨ i = 2 ∨ i = 3) ∧ j = T 0 0 then 0 else if i = 4 ∧ j = T 0 0 then c2 % 2 ^ k else if i = 4 ∧ j < k ∧ c1.testBit j = true then T 4 j ||| 2 ^ T 0 0 else T i j
theorem nw_n (T : TW) (c1 c2 k : Nat) : tn (nwP T c1 c2 k) = tn T + 1 := by
  show nwP T c1 c2 k 0 0 = _
  unfold nwP
  rw [if_pos ⟨rfl, rfl⟩]
theorem nw_hi {T : TW} {c1 c2 k i : Nat} (hi : 5 ≤ i) : nwP T c1 c2 k i = T i := by
  funext j
  unfold nwP
  rw [if_neg (by omega), if_neg (by omega), if_neg (by omega), if_neg (by omega)]
theorem nw_new {T : TW} {c1 c2 k i : Nat} (hi : i = 1 ∨ i = 2 ∨ i = 3) : nwP T c1 c2 k i (tn T) = 0 := by
  unfold nwP
  rw [if_neg (by omega), if_pos ⟨hi, rfl⟩]
theorem nw_old {T : TW} {c1 c2 k i j : Nat} (hi : i = 1 ∨ i = 2 ∨ i = 3) (hj : j ≠ tn T) : nwP T c1 c2 k i j = T i j := by
  unfold nwP
  rw [if_neg (by omega), if_neg (fun z => hj z.2), if_neg (by omega), if_neg (by omega)]
theorem nw_c {T : TW} {c1 c2 k : Nat} : tc (nwP T c1 c2 k) (tn T) = c2 % 2 ^ k := by
  show nwP T c1 c2 k 4 (tn T) = _
  unfold nwP
  rw [if_neg (by omega), if_neg (by omega), if_pos ⟨rfl, rfl⟩]
theorem nw_cq {T : TW} {c1 c2 k q : Nat} (hq : q ≠ tn T) : tc (nwP T c1 c2 k) q = if q < k ∧ c1.testBit q = true then tc T q ||| 2 ^ tn T else tc T q := by
  show nwP T c1 c2 k 4 q = _
  unfold nwP
  rw [if_neg (by omega), if_neg (by omega), if_neg (fun z => hq z.2)]
  by_cases c : q < k ∧ c1.testBit q = true
  · rw [if_pos ⟨rfl, c⟩, if_pos c]
  · rw [if_neg (fun z => c z.2), if_neg c]
theorem wf_nw {T : TW} (hw : wfT T) (hn : tn T < 12) {c1 c2 k : Nat} (hc2 : c2 < 2 ^ tn T) (hk : k ≤ tn T) : wfT (nwP T c1 c2 k) := by
  obtain ⟨h1, h2, h3, h4, h5, h6, h7, h8⟩ := hw
  have r5 : nwP T c1 c2 k 5 = T 5 := nw_hi (by omega)
  have r6 : nwP T c1 c2 k 6 = T 6 := nw_hi (by omega)
  have r7 : nwP T c1 c2 k 7 = T 7 := nw_hi (by omega)
  have r8 : nwP T c1 c2 k 8 = T 8 := nw_hi (by omega)
  have r9 : nwP T c1 c2 k 9 = T 9 := nw_hi (by omega)
  have r10 : nwP T c1 c2 k 10 = T 10 := nw_hi (by omega)
  have r11 : nwP T c1 c2 k 11 = T 11 := nw_hi (by omega)
  have r12 : nwP T c1 c2 k 12 = T 12 := nw_hi (by omega)
  have r13 : nwP T c1 c2 k 13 = T 13 := nw_hi (by omega)
  refine ⟨by rw [nw_n]; omega, fun p hp => ?_, by show nwP T c1 c2 k 5 0 ≤ 12; rw [r5]; exact h3, fun i hi => ?_, by show nwP T c1 c2 k 9 0 ≤ 4; rw [r9]; exact h5, fun s hs => ?_, by show nwP T c1 c2 k 12 0 ≤ 3; rw [r12]; exact h7, by show nwP T c1 c2 k 13 0 ≤ 1; rw [r13]; exact h8⟩
  · rw [nw_n] at hp ⊢
    by_cases c : p = tn T
    · subst c
      have e1 : tb (nwP T c1 c2 k) (tn T) = 0 := nw_new (Or.inl rfl)
      have e2 : tm (nwP T c1 c2 k) (tn T) = 0 := nw_new (Or.inr (Or.inl rfl))
      have e3 : ti (nwP T c1 c2 k) (tn T) = 0 := nw_new (Or.inr (Or.inr rfl))
      rw [e1, e2, e3, nw_c]
      refine ⟨by omega, by omega, by omega, ?_, ?_⟩
      · have := Nat.mod_le c2 (2 ^ k)
        have h2n : 2 ^ tn T < 2 ^ (tn T + 1) := Nat.pow_lt_pow_right (by decide) (by omega)
        omega
      · rw [Nat.testBit_mod_two_pow]
        have : c2.testBit (tn T) = false := Nat.testBit_lt_two_pow hc2
        rw [this, Bool.and_false]
    · have e1 : tb (nwP T c1 c2 k) p = tb T p := nw_old (Or.inl rfl) c
      have e2 : tm (nwP T c1 c2 k) p = tm T p := nw_old (Or.inr (Or.inl rfl)) c
      have e3 : ti (nwP T c1 c2 k) p = ti T p := nw_old (Or.inr (Or.inr rfl)) c
      obtain ⟨a1, a2, a3, a4, a5⟩ := h2 p (by omega)
      have h2n : 2 ^ tn T < 2 ^ (tn T + 1) := Nat.pow_lt_pow_right (by decide) (by omega)
      rw [e1, e2, e3, nw_cq c]
      by_cases cc : p < k ∧ c1.testBit p = true
      · rw [if_pos cc]
        refine ⟨a1, a2, a3, Nat.or_lt_two_pow (by omega) h2n, ?_⟩
        rw [Nat.testBit_or, a5, Nat.testBit_two_pow]
        simp
        omega
      · rw [if_neg cc]
        exact ⟨a1, a2, a3, by omega, a5⟩
  · have hi : i < nwP T c1 c2 k 5 0 := hi
    rw [r5] at hi
    obtain ⟨a1, a2, a3⟩ := h4 i hi
    show nwP T c1 c2 k 6 i < tn (nwP T c1 c2 k) ∧ nwP T c1 c2 k 7 i ≤ nwP T c1 c2 k 8 i ∧ nwP T c1 c2 k 8 i < 4392
    rw [r6, r7, r8, nw_n]
    exact ⟨Nat.lt_succ_of_lt a1, a2, a3⟩
  · have hs : s < nwP T c1 c2 k 9 0 := hs
    rw [r9] at hs
    obtain ⟨a1, a2⟩ := h6 s hs
    show nwP T c1 c2 k 10 s < tn (nwP T c1 c2 k) ∧ nwP T c1 c2 k 11 s < 4392
    rw [r10, r11, nw_n]
    exact ⟨Nat.lt_succ_of_lt a1, a2⟩
/-- one more call -/
theorem m_addCall {k : Nat} (hk : sd_kd k = 8) {S : sd_St} {c h : Nat} (hc : c < 12) (hh : h < 12) : ∃ S2, f_X8_addCall k (nI c) (nI h) S = some ((), S2) ∧ (∀ q, S2.1 (k + 4) q = if q = h then S.1 (k + 4) h ||| nI (2 ^ c) else S.1 (k + 4) q) ∧ (∀ q, S2.1 (k + 5) q = if q = c then S.1 (k + 5) c ||| nI (2 ^ h) else S.1 (k + 5) q) ∧ (∀ j, S2.1 k j = if j = 6 then S.1 k 6 + 1 else S.1 k j) ∧ frm (fun a => a = k ∨ a = k + 4 ∨ a = k + 5) S S2 := by
  have hal := al8 hk
  obtain ⟨A1, hA1⟩ : ∃ A, A = sd_I S (k + 4) h (S.1 (k + 4) h ||| nI (2 ^ c)) := ⟨_, rfl⟩
  obtain ⟨A2, hA2⟩ : ∃ A, A = sd_I A1 (k + 5) c (A1.1 (k + 5) c ||| nI (2 ^ h)) := ⟨_, rfl⟩
  obtain ⟨A3, hA3⟩ : ∃ A, A = sd_I A2 k 6 (A2.1 k 6 + 1) := ⟨_, rfl⟩
  have e5 : A1.1 (k + 5) = S.1 (k + 5) := by rw [hA1, rI_cell (by omega)]
  have ek : A2.1 k = S.1 k := by rw [hA2, rI_cell (by omega), hA1, rI_cell (by omega)]
  refine ⟨A3, ?_, fun q => ?_, fun q => ?_, fun j => ?_, ?_⟩
  · unfold f_X8_addCall
    rw [shl_nI (by omega), shl_nI (by omega), sd_ld_ok (by omega) (sd_al_lt _), sd_st_ok (by omega) (sd_al_lt _), ← hA1, sd_ld_ok (by omega) (sd_al_lt _), sd_st_ok (by omega) (sd_al_lt _), ← hA2, sd_nm_eq, ← hA3]
  · rw [hA3, rI_cell (by omega), hA2, rI_cell (by omega), hA1]
    by_cases c1 : q = h
    · rw [c1, if_pos rfl, rI_same]
    · rw [if_neg c1, rI_oth c1]
  · rw [hA3, rI_cell (by omega), hA2]
    by_cases c1 : q = c
    · rw [c1, if_pos rfl, rI_same, e5]
    · rw [if_neg c1, rI_oth c1, e5]
  · rw [hA3]
    by_cases c1 : j = 6
    · rw [c1, if_pos rfl, rI_same, ek]
    · rw [if_neg c1, rI_oth c1, ek]
  · rw [hA3, hA2, hA1]
    exact frm_trans (frm_trans (e := fun a => a = k ∨ a = k + 4 ∨ a = k + 5) (frm_I (c := fun a => a = k + 4) rfl) (frm_I (c := fun a => a = k + 5) rfl) (fun a h => by omega) (fun a h => by omega)) (frm_I (c := fun a => a = k) rfl) (fun _ h => h) (fun a h => by omega)
theorem mod_bit (c k : Nat) : c % 2 ^ (k + 1) = if c.testBit k then c % 2 ^ k ||| 2 ^ k else c % 2 ^ k := by
  apply Nat.eq_of_testBit_eq
  intro i
  by_cases cb : c.testBit k = true
  · rw [if_pos cb, Nat.testBit_or, Nat.testBit_mod_two_pow, Nat.testBit_mod_two_pow, Nat.testBit_two_pow]
    by_cases ci : i = k
    · subst ci; simp [cb]
    · have h1 : (i < k + 1) = (i < k) := by simp; omega
      have h2 : (k = i) = False := by simp; omega
      simp [h1, h2]
  · rw [if_neg cb, Nat.testBit_mod_two_pow, Nat.testBit_mod_two_pow]
    by_cases ci : i = k
    · subst ci; simp at cb; simp [cb]
    · have h1 : (i < k + 1) = (i < k) := by simp; omega
      simp [h1]
/-- a town's row 4 changes at a place -/
theorem CT_4 {k : Nat} {S S2 : sd_St} {T T2 : TW} (hT : CT k S T) (hr : ∀ i, i ≠ 4 → T2 i = T i) (h4 : ∀ q, q < tn T → S2.1 (k + 4) q = nI (tc T2 q)) (h6 : ∀ j, j ≠ 6 → S2.1 k j = S.1 k j) (hs : ∀ a, k + 1 ≤ a → a ≤ k + 10 → a ≠ k + 4 → a ≠ k + 5 → S2.1 a = S.1 a) : CT k S2 T2 := by
  obtain ⟨t1, t2, t3, t4, t5, t6, t7, t8⟩ := hT
  unfold CT
  rw [show tn T2 = tn T from by show T2 0 0 = T 0 0; rw [hr 0 (by decide)]]
  refine ⟨by rw [h6 0 (by decide)]; exact t1, fun p hp => ?_, ?_, fun i hi => ?_, ?_, fun s hs2 => ?_, ?_, ?_⟩
  · obtain ⟨a1, a2, a3, -⟩ := t2 p hp
    refine ⟨?_, ?_, ?_, h4 p hp⟩
    · rw [hs (k + 1) (by omega) (by omega) (by omega) (by omega)]; show _ = nI (T2 1 p) - 1; rw [hr 1 (by decide)]; exact a1
    · rw [hs (k + 2) (by omega) (by omega) (by omega) (by omega)]; show _ = nI (T2 2 p) - 1; rw [hr 2 (by decide)]; exact a2
    · rw [hs (k + 3) (by omega) (by omega) (by omega) (by omega)]; show _ = nI (T2 3 p); rw [hr 3 (by decide)]; exact a3
  · rw [h6 7 (by decide)]; show _ = nI (T2 5 0); rw [hr 5 (by decide)]; exact t3
  · have hi : i < T2 5 0 := hi
    rw [hr 5 (by decide)] at hi
    rw [hs (k + 6) (by omega) (by omega) (by omega) (by omega), hs (k + 7) (by omega) (by omega) (by omega) (by omega), hs (k + 8) (by omega) (by omega) (by omega) (by omega)]
    show _ = nI (T2 6 i) ∧ _ = nI (T2 7 i) ∧ _ = nI (T2 8 i)
    rw [hr 6 (by decide), hr 7 (by decide), hr 8 (by decide)]
    exact t4 i hi
  · rw [h6 11 (by decide)]; show _ = nI (T2 9 0); rw [hr 9 (by decide)]; exact t5
  · have hs2 : s < T2 9 0 := hs2
    rw [hr 9 (by decide)] at hs2
    rw [hs (k + 9) (by omega) (by omega) (by omega) (by omega), hs (k + 10) (by omega) (by omega) (by omega) (by omega)]
    show _ = nI (T2 10 s) ∧ _ = nI (T2 11 s)
    rw [hr 10 (by decide), hr 11 (by decide)]
    exact t6 s hs2
  · rw [h6 14 (by decide)]; show _ = nI (T2 12 0); rw [hr 12 (by decide)]; exact t7
  · rw [h6 15 (by decide)]; show _ = nI (T2 13 0); rw [hr 13 (by decide)]; exact t8
theorem nw_rows {T : TW} {c1 c2 k l i : Nat} (hi : i ≠ 4) : nwP T c1 c2 l i = nwP T c1 c2 k i := by
  funext j
  unfold nwP
  by_cases h1 : i = 0 ∧ j = 0
  · rw [if_pos h1, if_pos h1]
  · rw [if_neg h1, if_neg h1]
    by_cases h2 : (i = 1 ∨ i = 2 ∨ i = 3) ∧ j = T 0 0
    · rw [if_pos h2, if_pos h2]
    · rw [if_neg h2, if_neg h2, if_neg (fun z => hi z.1), if_neg (fun z => hi z.1), if_neg (fun z => hi z.1), if_neg (fun z => hi z.1)]
/-- the newcomer's calls, one person after the other -/
theorem m_nw33 {T : TW} (hw : wfT T) (hn : tn T < 12) {c1 c2 s p : Nat} (hc2 : c2 < 2 ^ tn T) : ∀ (m n k : Nat) (S : sd_St), k + m = tn T → m < n → CT 102 S (nwP T c1 c2 k) → ∃ S2, f_X10_tryNewcomer_l33 101 17 n (nI c1) (nI c2) (nI s) (nI p) (nI (tn T)) (nI k) S = sd_cl (f_X1_openAll 113 102 S2) (fun _ S_25 => sd_nm (sd_I S_25 101 6 (-1 : Int32)) (fun S_27 => sd_nm (sd_I S_27 101 7 (-1 : Int32)) (fun S_28 => f_X10_tryNewcomer_l115 101 17 sd_FU (nI s) (nI p) (nI (tn T)) (4391 : Int32) (0 : Int32) S_28))) ∧ CT 102 S2 (nwP T c1 c2 (tn T)) ∧ frm (fun a => 102 ≤ a ∧ a ≤ 107) S S2 := by
  intro m
  induction m with
  | zero =>
    intro n k S hk hm hT
    obtain ⟨n, rfl⟩ : ∃ n', n = n' + 1 := ⟨n - 1, by omega⟩
    refine ⟨S, ?_, by rw [show tn T = k by omega]; exact hT, frm_rfl⟩
    unfold f_X10_tryNewcomer_l33
    simp only [Nat.reduceAdd]
    rw [if_pos (nI_le (by omega) (by omega))]
  | succ m ih =>
    intro n k S hk hm hT
    obtain ⟨n, rfl⟩ : ∃ n', n = n' + 1 := ⟨n - 1, by omega⟩
    have hkn : k < tn T := by omega
    have hc4 : ∀ q, q < tn T + 1 → S.1 106 q = nI (tc (nwP T c1 c2 k) q) := fun q hq => (hT.2.1 q (by rw [nw_n]; exact hq)).2.2.2
    -- the first call
    obtain ⟨S1, e1, f1, g1, g2⟩ : ∃ S1, (∀ R : sd_St → Option (Unit × sd_St), (if (if hb (nI c1) k then (1 : Int32) else 0) = 0 then R S else sd_cl (f_X8_addCall 102 (nI (tn T)) (nI k) S) (fun _ S_32 => R S_32)) = R S1) ∧ frm (fun a => 102 ≤ a ∧ a ≤ 107) S S1 ∧ (∀ q, S1.1 106 q = if q = k ∧ c1.testBit k = true then nI (tc (nwP T c1 c2 k) k ||| 2 ^ tn T) else S.1 106 q) ∧ (∀ j, j ≠ 6 → S1.1 102 j = S.1 102 j) ∧ ∀ a, 103 ≤ a → a ≤ 112 → a ≠ 106 → a ≠ 107 → S1.1 a = S.1 a := by
      rw [hb_nI (by omega)]
      by_cases cb : c1.testBit k = true
      · obtain ⟨S1, a1, a2, a3, a4, a5⟩ := m_addCall (k := 102) (by decide) (S := S) (c := tn T) (h := k) hn (by omega)
        refine ⟨S1, fun R => ?_, frm_mono a5 (fun a h => by omega), fun q => ?_, fun j hj => ?_, fun a q1 q2 q3 q4 => a5.1 a (by omega)⟩
        · rw [if_pos cb, if_neg (by decide), sd_cl_ok a1]
        · have := a2 q
          rw [this, show (102 + 4) = 106 from rfl, hc4 k (by omega), nI_or]
          by_cases cq : q = k
          · rw [if_pos cq, if_pos ⟨cq, cb⟩]
          · rw [if_neg cq, if_neg (fun z => cq z.1)]
        · rw [a4 j, if_neg hj]
      · refine ⟨S, fun R => ?_, frm_rfl, fun q => ?_, fun _ _ => rfl, fun _ _ _ _ _ => rfl⟩
        · rw [if_neg cb, if_pos rfl]
        · rw [if_neg (fun z => cb z.2)]
    -- the second
    obtain ⟨S2, e2, f2, h1, h2⟩ : ∃ S2, (∀ R : sd_St → Option (Unit × sd_St), (if (if hb (nI c2) k then (1 : Int32) else 0) = 0 then R S1 else sd_cl (f_X8_addCall 102 (nI k) (nI (tn T)) S1) (fun _ S_32 => R S_32)) = R S2) ∧ frm (fun a => 102 ≤ a ∧ a ≤ 107) S1 S2 ∧ (∀ q, S2.1 106 q = if q = tn T ∧ c2.testBit k = true then nI (c2 % 2 ^ k ||| 2 ^ k) else S1.1 106 q) ∧ (∀ j, j ≠ 6 → S2.1 102 j = S1.1 102 j) ∧ ∀ a, 103 ≤ a → a ≤ 112 → a ≠ 106 → a ≠ 107 → S2.1 a = S1.1 a := by
      rw [hb_nI (by omega)]
      by_cases cb : c2.testBit k = true
      · obtain ⟨S2, a1, a2, a3, a4, a5⟩ := m_addCall (k := 102) (by decide) (S := S1) (c := k) (h := tn T) (by omega) hn
        refine ⟨S2, fun R => ?_, frm_mono a5 (fun a h => by omega), fun q => ?_, fun j hj => ?_, fun a q1 q2 q3 q4 => a5.1 a (by omega)⟩
        · rw [if_pos cb, if_neg (by decide), sd_cl_ok a1]
        · have := a2 q
          rw [show (102 + 4) = 106 from rfl] at this
          rw [this]
          by_cases cq : q = tn T
          · rw [if_pos cq, if_pos ⟨cq, cb⟩, g1 (tn T), if_neg (fun z => by omega), hc4 (tn T) (by omega), nw_c, nI_or]
          · rw [if_neg cq, if_neg (fun z => cq z.1)]
        · rw [a4 j, if_neg hj]
      · refine ⟨S1, fun R => ?_, frm_rfl, fun q => ?_, fun _ _ => rfl, fun _ _ _ _ _ => rfl⟩
        · rw [if_neg cb, if_pos rfl]
        · rw [if_neg (fun z => cb z.2)]
    have hT2 : CT 102 S2 (nwP T c1 c2 (k + 1)) := by
      refine CT_4 hT (fun i hi => nw_rows hi) (fun q hq => ?_) (fun j hj => by rw [h2.1 j hj, g2.1 j hj]) (fun a q1 q2 q3 q4 => by rw [h2.2 a (by omega) (by omega) (by omega) (by omega), g2.2 a (by omega) (by omega) (by omega) (by omega)])
      rw [nw_n] at hq
      show S2.1 106 q = _
      rw [h1 q]
      by_cases cq : q = tn T
      · subst cq
        rw [nw_c, mod_bit]
        by_cases cb : c2.testBit k = true
        · rw [if_pos ⟨rfl, cb⟩, if_pos cb]
        · rw [if_neg (fun z => cb z.2), if_neg cb, g1, if_neg (by omega), hc4 _ (by omega), nw_c]
      · have r1 : tc (nwP T c1 c2 (k + 1)) q = _ := nw_cq cq
        have r0 : tc (nwP T c1 c2 k) q = _ := nw_cq cq
        rw [if_neg (fun z => cq z.1), g1 q, r1]
        by_cases ck : q = k
        · subst ck
          rw [if_neg (show ¬ (q < q ∧ c1.testBit q = true) by omega)] at r0
          rw [r0]
          by_cases cb : c1.testBit q = true
          · rw [if_pos ⟨rfl, cb⟩, if_pos ⟨by omega, cb⟩]
          · rw [if_neg (fun z => cb z.2), if_neg (fun z => cb z.2), hc4 q hq, r0]
        · rw [if_neg (fun z => ck z.1), hc4 q hq, r0]
          by_cases cc : q < k ∧ c1.testBit q = true
          · rw [if_pos cc, if_pos ⟨by omega, cc.2⟩]
          · rw [if_neg cc, if_neg (fun z => cc ⟨by omega, z.2⟩)]
    obtain ⟨S3, y1, y2, y3⟩ := ih n (k + 1) S2 (by omega) (by omega) hT2
    refine ⟨S3, ?_, y2, frm_trans f1 (frm_trans f2 y3 (fun _ h => h) (fun _ h => h)) (fun _ h => h) (fun _ h => h)⟩
    have pre : ∀ R, f_X10_tryNewcomer_l33 101 17 n (nI c1) (nI c2) (nI s) (nI p) (nI (tn T)) (nI (k + 1)) S2 = R → f_X10_tryNewcomer_l33 101 17 (n + 1) (nI c1) (nI c2) (nI s) (nI p) (nI (tn T)) (nI k) S = R := by
      intro R hR
      unfold f_X10_tryNewcomer_l33 f_X10_tryNewcomer_b60
      simp only [Nat.reduceAdd]
      rw [if_neg (nI_ge hkn (by omega)), sd_cl_ok (m_has (nI c1) (by omega) S), e1 (fun S_29 => sd_cl (f_X11_has (nI c2) (nI k) S_29) (fun r_2 S_1 => (if r_2 = 0 then f_X10_tryNewcomer_b80 (f_X10_tryNewcomer_l33 101 17 n) 101 17 (nI c1) (nI c2) (nI s) (nI p) (nI (tn T)) (nI k) S_1 else sd_cl (f_X8_addCall 102 (nI k) (nI (tn T)) S_1) (fun _ S_4 => f_X10_tryNewcomer_b80 (f_X10_tryNewcomer_l33 101 17 n) 101 17 (nI c1) (nI c2) (nI s) (nI p) (nI (tn T)) (nI k) S_4))))]
      rw [sd_cl_ok (m_has (nI c2) (by omega) S1), e2 (fun S_1 => f_X10_tryNewcomer_b80 (f_X10_tryNewcomer_l33 101 17 n) 101 17 (nI c1) (nI c2) (nI s) (nI p) (nI (tn T)) (nI k) S_1)]
      unfold f_X10_tryNewcomer_b80
      rw [nI_1]
      exact hR
    exact pre _ y1
