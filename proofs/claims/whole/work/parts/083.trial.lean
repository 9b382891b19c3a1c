/-! THE TRIAL TOWN, THE DAYS THAT TURN -/
def PRc (k0 k1 : Nat) (S S2 : sd_St) (n : Nat) (J : List Nat) : Prop := frm (fun a => k0 ≤ a ∧ a ≤ k0 + 10) S S2 ∧ (∀ i, 1 ≤ i → i ≤ n → ∀ j, j < sd_al (k0 + i) → S2.1 (k0 + i) j = S.1 (k1 + i) j) ∧ ∀ j, j ∈ J → S2.1 k0 j = S.1 k1 j
theorem kd8_dis {k0 k1 : Nat} (h0 : sd_kd k0 = 8) (h1 : sd_kd k1 = 8) (hne : k0 ≠ k1) : k0 + 10 < k1 ∨ k1 + 10 < k0 := by
  rcases kd_8 h0 with rfl | rfl | rfl <;> rcases kd_8 h1 with rfl | rfl | rfl <;> omega
theorem kd8_al {k : Nat} (h : sd_kd k = 8) : ∀ i, 1 ≤ i → i ≤ 10 → sd_al (k + i) = if i ≤ 8 then 12 else 4 := by
  have hal := al8 h
  intro i h1 h2
  rcases (show i = 1 ∨ i = 2 ∨ i = 3 ∨ i = 4 ∨ i = 5 ∨ i = 6 ∨ i = 7 ∨ i = 8 ∨ i = 9 ∨ i = 10 by omega) with e | e | e | e | e | e | e | e | e | e <;> subst e <;> simp <;> omega
theorem PRc_0 {k0 k1 : Nat} {S : sd_St} : PRc k0 k1 S S 0 [] := ⟨frm_rfl, fun i h1 h2 => by omega, fun j h => by cases h⟩
theorem PRc_I {k0 k1 : Nat} (hd : k0 + 10 < k1 ∨ k1 + 10 < k0) {S S2 S3 : sd_St} {n : Nat} {J : List Nat} (h : PRc k0 k1 S S2 n J) (j : Nat) (e : S3 = sd_I S2 k0 j (S2.1 k1 j)) : PRc k0 k1 S S3 n (j :: J) := by
  subst e
  obtain ⟨h1, h2, h3⟩ := h
  refine ⟨frm_trans h1 (frm_I (c := fun a => a = k0) rfl) (fun _ h => h) (fun a h => by omega), fun i hi hi2 x hx => ?_, fun x hx => ?_⟩
  · rw [rI_cell (by omega)]; exact h2 i hi hi2 x hx
  · by_cases c : x = j
    · subst c; rw [rI_same, h1.1 k1 (by omega)]
    · rw [rI_oth c]
      rcases List.mem_cons.mp hx with q | q
      · exact absurd q c
      · exact h3 x q
theorem PRc_A {k0 k1 : Nat} (h0 : sd_kd k0 = 8) (hd : k0 + 10 < k1 ∨ k1 + 10 < k0) {S S2 S3 : sd_St} {n : Nat} {J : List Nat} (h : PRc k0 k1 S S2 n J) {i m : Nat} (hi : i = n + 1) (hi2 : i ≤ 10) (hm : m = if i ≤ 8 then 12 else 4) (e : S3 = sd_A S2 (k0 + i) (va_cpy (S2.1 (k1 + i)) (S2.1 (k0 + i)) 0 0 m)) : PRc k0 k1 S S3 i J := by
  subst e
  obtain ⟨g1, g2, g3⟩ := h
  have hal := kd8_al h0 i (by omega) hi2
  refine ⟨frm_trans g1 (frm_A (c := fun a => a = k0 + i) rfl) (fun _ h => h) (fun a h => by omega), fun x hx hx2 j hj => ?_, fun x hx => ?_⟩
  · by_cases c : x = i
    · subst c
      rw [rA_same, pk_cpy_in (Nat.zero_le _) (by omega), g1.1 (k1 + x) (by omega)]
      simp
    · rw [rA_cell (by omega)]; exact g2 x hx (by omega) j hj
  · rw [rA_cell (by omega)]; exact g3 x hx
theorem m_copyT {k0 k1 : Nat} (h0 : sd_kd k0 = 8) (h1 : sd_kd k1 = 8) (hne : k0 ≠ k1) {S : sd_St} (hz : S.1 k1 15 = 0 ∨ S.1 k1 15 = 1) : ∃ S2, f_X8_copyFrom k0 k1 S = some ((), S2) ∧ (∀ i, 1 ≤ i → i ≤ 10 → ∀ j, j < sd_al (k0 + i) → S2.1 (k0 + i) j = S.1 (k1 + i) j) ∧ (∀ j, j = 0 ∨ j = 6 ∨ j = 7 ∨ j = 11 ∨ j = 14 ∨ j = 15 → S2.1 k0 j = S.1 k1 j) ∧ frm (fun a => k0 ≤ a ∧ a ≤ k0 + 10) S S2 := by
  have hd := kd8_dis h0 h1 hne
  have hal0 := al8 h0
  have hal1 := al8 h1
  have s0 : PRc k0 k1 S S 0 [] := PRc_0
  obtain ⟨A1, hA1⟩ : ∃ A, A = sd_I S k0 0 (S.1 k1 0) := ⟨_, rfl⟩
  have s1 := PRc_I hd s0 0 hA1
  obtain ⟨A2, hA2⟩ : ∃ A, A = sd_A A1 (k0 + 1) (va_cpy (A1.1 (k1 + 1)) (A1.1 (k0 + 1)) 0 0 12) := ⟨_, rfl⟩
  have s2 := PRc_A h0 hd s1 (i := 1) (m := 12) rfl (by decide) (by decide) hA2
  obtain ⟨A3, hA3⟩ : ∃ A, A = sd_A A2 (k0 + 2) (va_cpy (A2.1 (k1 + 2)) (A2.1 (k0 + 2)) 0 0 12) := ⟨_, rfl⟩
  have s3 := PRc_A h0 hd s2 (i := 2) (m := 12) rfl (by decide) (by decide) hA3
  obtain ⟨A4, hA4⟩ : ∃ A, A = sd_A A3 (k0 + 3) (va_cpy (A3.1 (k1 + 3)) (A3.1 (k0 + 3)) 0 0 12) := ⟨_, rfl⟩
  have s4 := PRc_A h0 hd s3 (i := 3) (m := 12) rfl (by decide) (by decide) hA4
  obtain ⟨A5, hA5⟩ : ∃ A, A = sd_A A4 (k0 + 4) (va_cpy (A4.1 (k1 + 4)) (A4.1 (k0 + 4)) 0 0 12) := ⟨_, rfl⟩
  have s5 := PRc_A h0 hd s4 (i := 4) (m := 12) rfl (by decide) (by decide) hA5
  obtain ⟨A6, hA6⟩ : ∃ A, A = sd_A A5 (k0 + 5) (va_cpy (A5.1 (k1 + 5)) (A5.1 (k0 + 5)) 0 0 12) := ⟨_, rfl⟩
  have s6 := PRc_A h0 hd s5 (i := 5) (m := 12) rfl (by decide) (by decide) hA6
  obtain ⟨A7, hA7⟩ : ∃ A, A = sd_I A6 k0 6 (A6.1 k1 6) := ⟨_, rfl⟩
  have s7 := PRc_I hd s6 6 hA7
  obtain ⟨A8, hA8⟩ : ∃ A, A = sd_I A7 k0 7 (A7.1 k1 7) := ⟨_, rfl⟩
  have s8 := PRc_I hd s7 7 hA8
  obtain ⟨A9, hA9⟩ : ∃ A, A = sd_A A8 (k0 + 6) (va_cpy (A8.1 (k1 + 6)) (A8.1 (k0 + 6)) 0 0 12) := ⟨_, rfl⟩
  have s9 := PRc_A h0 hd s8 (i := 6) (m := 12) rfl (by decide) (by decide) hA9
  obtain ⟨A10, hA10⟩ : ∃ A, A = sd_A A9 (k0 + 7) (va_cpy (A9.1 (k1 + 7)) (A9.1 (k0 + 7)) 0 0 12) := ⟨_, rfl⟩
  have s10 := PRc_A h0 hd s9 (i := 7) (m := 12) rfl (by decide) (by decide) hA10
  obtain ⟨A11, hA11⟩ : ∃ A, A = sd_A A10 (k0 + 8) (va_cpy (A10.1 (k1 + 8)) (A10.1 (k0 + 8)) 0 0 12) := ⟨_, rfl⟩
  have s11 := PRc_A h0 hd s10 (i := 8) (m := 12) rfl (by decide) (by decide) hA11
  obtain ⟨A12, hA12⟩ : ∃ A, A = sd_I A11 k0 11 (A11.1 k1 11) := ⟨_, rfl⟩
  have s12 := PRc_I hd s11 11 hA12
  obtain ⟨A13, hA13⟩ : ∃ A, A = sd_A A12 (k0 + 9) (va_cpy (A12.1 (k1 + 9)) (A12.1 (k0 + 9)) 0 0 4) := ⟨_, rfl⟩
  have s13 := PRc_A h0 hd s12 (i := 9) (m := 4) rfl (by decide) (by decide) hA13
  obtain ⟨A14, hA14⟩ : ∃ A, A = sd_A A13 (k0 + 10) (va_cpy (A13.1 (k1 + 10)) (A13.1 (k0 + 10)) 0 0 4) := ⟨_, rfl⟩
  have s14 := PRc_A h0 hd s13 (i := 10) (m := 4) rfl (by decide) (by decide) hA14
  obtain ⟨A15, hA15⟩ : ∃ A, A = sd_I A14 k0 14 (A14.1 k1 14) := ⟨_, rfl⟩
  have s15 := PRc_I hd s14 14 hA15
  obtain ⟨A16, hA16⟩ : ∃ A, A = sd_I A15 k0 15 (A15.1 k1 15) := ⟨_, rfl⟩
  have s16 := PRc_I hd s15 15 hA16
  refine ⟨A16, ?_, s16.2.1, fun j hj => s16.2.2 j (by simp; omega), s16.1⟩
  unfold f_X8_copyFrom
  have e0 : (0 : Int32) = nI 0 := rfl
  have e12 : (12 : Int32) = nI 12 := rfl
  have e4 : (4 : Int32) = nI 4 := rfl
  have hz' := s15.1.1 k1 (by omega)
  rw [e0, e12, e4]
  rw [sd_nm_eq, ← hA1]
  rw [sd_cp_ok (by omega) (by omega), ← hA2]
  rw [sd_cp_ok (by omega) (by omega), ← hA3]
  rw [sd_cp_ok (by omega) (by omega), ← hA4]
  rw [sd_cp_ok (by omega) (by omega), ← hA5]
  rw [sd_cp_ok (by omega) (by omega), ← hA6]
  rw [sd_nm_eq, ← hA7]
  rw [sd_nm_eq, ← hA8]
  rw [sd_cp_ok (by omega) (by omega), ← hA9]
  rw [sd_cp_ok (by omega) (by omega), ← hA10]
  rw [sd_cp_ok (by omega) (by omega), ← hA11]
  rw [sd_nm_eq, ← hA12]
  rw [sd_cp_ok (by omega) (by omega), ← hA13]
  rw [sd_cp_ok (by omega) (by omega), ← hA14]
  rw [sd_nm_eq, ← hA15]
  unfold sd_ckz
  rw [if_pos (by rw [hz']; exact hz), sd_nm_eq, ← hA16]
theorem CT_of {k0 k1 : Nat} (h0 : sd_kd k0 = 8) {S S2 : sd_St} {T : TW} (hw : wfT T) (hT : CT k1 S T) (ha : ∀ i, 1 ≤ i → i ≤ 10 → ∀ j, j < sd_al (k0 + i) → S2.1 (k0 + i) j = S.1 (k1 + i) j) (hb : ∀ j, j = 0 ∨ j = 6 ∨ j = 7 ∨ j = 11 ∨ j = 14 ∨ j = 15 → S2.1 k0 j = S.1 k1 j) : CT k0 S2 T := by
  have hal := al8 h0
  have h12 := hw.1
  have ha12 := hw.2.2.1
  have h4 := hw.2.2.2.2.1
  obtain ⟨t1, t2, t3, t4, t5, t6, t7, t8⟩ := hT
  refine ⟨by rw [hb 0 (by omega)]; exact t1, fun p hp => ?_, by rw [hb 7 (by omega)]; exact t3, fun i hi => ?_, by rw [hb 11 (by omega)]; exact t5, fun s hs => ?_, by rw [hb 14 (by omega)]; exact t7, by rw [hb 15 (by omega)]; exact t8⟩
  · rw [ha 1 (by omega) (by omega) p (by omega), ha 2 (by omega) (by omega) p (by omega), ha 3 (by omega) (by omega) p (by omega), ha 4 (by omega) (by omega) p (by omega)]
    exact t2 p hp
  · rw [ha 6 (by omega) (by omega) i (by omega), ha 7 (by omega) (by omega) i (by omega), ha 8 (by omega) (by omega) i (by omega)]
    exact t4 i hi
  · rw [ha 9 (by omega) (by omega) s (by omega), ha 10 (by omega) (by omega) s (by omega)]
    exact t6 s hs
/-! days that turn -/
def trnB (T : TW) (d : Nat) : Bool := d == 59 || ((List.range' 0 (tn T)).any (fun p => tb T p == d + 1 || tm T p == d + 1) || ((List.range' 0 (ta T)).any (fun i => tf T i % 366 == d || tt T i % 366 == d) || (List.range' 0 (ts T)).any (fun s => tx T s % 366 == d)))
def TQ (P : Nat → Bool) (S : sd_St) : Prop := ∀ d, d < 366 → S.1 128 d = bI (P d)
theorem al128 : sd_al 128 = 366 := by decide
theorem TQ_set {P : Nat → Bool} {S : sd_St} {x : Nat} (h : TQ P S) : TQ (fun d => P d || d == x) (sd_I S 128 x (vp_nar .boolean (1 : Int32))) := by
  intro d hd
  by_cases c : d = x
  · subst c
    rw [rI_same, show vp_nar .boolean (1 : Int32) = bI true from nar_b true]
    simp
  · rw [rI_oth c, h d hd]
    have : (d == x) = false := by simpa using c
    simp [this]
theorem TQ_c {P Q : Nat → Bool} {S : sd_St} (h : TQ P S) (e : ∀ d, d < 366 → P d = Q d) : TQ Q S := fun d hd => by rw [h d hd, e d hd]
theorem nI_rem366 {a : Nat} (ha : a < 2 ^ 31) : sd_rem (nI a) (366 : Int32) = nI (a % 366) := nI_rem (d := 366) ha (by decide) (by decide)
theorem m_mt130 {T : TW} (hw : wfT T) : ∀ (m n i : Nat) (S : sd_St) (P : Nat → Bool), i + m = ts T → m < n → CT 17 S T → TQ P S → ∃ S2, f_X10_markTurns_l130 101 17 n (nI i) S = some ((), S2) ∧ TQ (fun d => P d || (List.range' i m).any (fun s => tx T s % 366 == d)) S2 ∧ frm (fun a => a = 128) S S2 := by
  have h4 := hw.2.2.2.2.1
  intro m
  induction m with
  | zero =>
    intro n i S P hi hn hT hP
    obtain ⟨n, rfl⟩ : ∃ n', n = n' + 1 := ⟨n - 1, by omega⟩
    refine ⟨S, ?_, TQ_c hP (fun d _ => by simp), frm_rfl⟩
    unfold f_X10_markTurns_l130
    rw [hT.2.2.2.2.1, if_pos (nI_le (by omega) (by omega))]
  | succ m ih =>
    intro n i S P hi hn hT hP
    obtain ⟨n, rfl⟩ : ∃ n', n = n' + 1 := ⟨n - 1, by omega⟩
    have hx := (hw.2.2.2.2.2.1 i (by omega)).2
    have f1 : frm (fun a => a = 128) S (sd_I S 128 (tx T i % 366) (vp_nar .boolean (1 : Int32))) := frm_I rfl
    obtain ⟨S2, e1, e2, e3⟩ := ih n (i + 1) _ _ (by omega) (by omega) (CT_fr hT (fun a q1 q2 => f1.1 a (by omega))) (TQ_set (x := tx T i % 366) hP)
    refine ⟨S2, ?_, TQ_c e2 (fun d _ => ?_), frm_trans f1 e3 (fun _ h => h) (fun _ h => h)⟩
    · unfold f_X10_markTurns_l130
      simp only [Nat.reduceAdd]
      rw [hT.2.2.2.2.1, if_neg (nI_ge (by omega) (by omega)), sd_ld_ok (show i < sd_al 27 by rw [show sd_al 27 = 4 from by decide]; omega) (sd_al_lt _), (hT.2.2.2.2.2.1 i (by omega)).2, nI_rem366 (by omega), sd_st_ok (by rw [al128]; omega) (sd_al_lt _), nI_1]
      exact e1
    · rw [List.range'_succ, List.any_cons]
      rw [show (d == tx T i % 366) = (tx T i % 366 == d) from Bool.beq_comm]
      simp [Bool.or_assoc]
theorem m_mt82 {T : TW} (hw : wfT T) : ∀ (m n i : Nat) (S : sd_St) (P : Nat → Bool), i + m = ta T → m < n → CT 17 S T → TQ P S → ∃ S2, f_X10_markTurns_l82 101 17 n (nI i) S = some ((), S2) ∧ TQ (fun d => P d || ((List.range' i m).any (fun i => tf T i % 366 == d || tt T i % 366 == d) || (List.range' 0 (ts T)).any (fun s => tx T s % 366 == d))) S2 ∧ frm (fun a => a = 128) S S2 := by
  have h4 := hw.2.2.2.2.1
  have h12 := hw.2.2.1
  intro m
  induction m with
  | zero =>
    intro n i S P hi hn hT hP
    obtain ⟨n, rfl⟩ : ∃ n', n = n' + 1 := ⟨n - 1, by omega⟩
    obtain ⟨S2, e1, e2, e3⟩ := m_mt130 hw (ts T) sd_FU 0 S P (by omega) (by unfold sd_FU; omega) hT hP
    refine ⟨S2, ?_, TQ_c e2 (fun d _ => by simp), e3⟩
    unfold f_X10_markTurns_l82
    rw [hT.2.2.1, if_pos (nI_le (by omega) (by omega))]
    exact e1
  | succ m ih =>
    intro n i S P hi hn hT hP
    obtain ⟨n, rfl⟩ : ∃ n', n = n' + 1 := ⟨n - 1, by omega⟩
    obtain ⟨hx1, hx2, hx3⟩ := hw.2.2.2.1 i (by omega)
    obtain ⟨q1, q2, q3⟩ := hT.2.2.2.1 i (by omega)
    obtain ⟨Sa, hSa⟩ : ∃ Sa, Sa = sd_I S 128 (tf T i % 366) (vp_nar .boolean (1 : Int32)) := ⟨_, rfl⟩
    have f0 : frm (fun a => a = 128) S Sa := by rw [hSa]; exact frm_I rfl
    have hP1 : TQ (fun d => P d || d == tf T i % 366) Sa := by rw [hSa]; exact TQ_set hP
    obtain ⟨Sb, hSb⟩ : ∃ Sb, Sb = sd_I Sa 128 (tt T i % 366) (vp_nar .boolean (1 : Int32)) := ⟨_, rfl⟩
    have f1 : frm (fun a => a = 128) Sa Sb := by rw [hSb]; exact frm_I rfl
    have hP2 : TQ (fun d => (P d || d == tf T i % 366) || d == tt T i % 366) Sb := by rw [hSb]; exact TQ_set hP1
    obtain ⟨S2, e1, e2, e3⟩ := ih n (i + 1) Sb _ (by omega) (by omega) (CT_fr hT (fun a q1 q2 => by rw [f1.1 a (by omega), f0.1 a (by omega)])) hP2
    refine ⟨S2, ?_, TQ_c e2 (fun d _ => ?_), frm_trans f0 (frm_trans f1 e3 (fun _ h => h) (fun _ h => h)) (fun _ h => h) (fun _ h => h)⟩
    · unfold f_X10_markTurns_l82
      simp only [Nat.reduceAdd]
      rw [hT.2.2.1, if_neg (nI_ge (by omega) (by omega)), sd_ld_ok (show i < sd_al 24 by rw [show sd_al 24 = 12 from by decide]; omega) (sd_al_lt _), q2, nI_rem366 (by omega), sd_st_ok (by rw [al128]; omega) (sd_al_lt _), ← hSa, sd_ld_ok (show i < sd_al 25 by rw [show sd_al 25 = 12 from by decide]; omega) (sd_al_lt _), f0.1 25 (by decide), q3, nI_rem366 (by omega), sd_st_ok (by rw [al128]; omega) (sd_al_lt _), ← hSb, nI_1]
      exact e1
    · rw [List.range'_succ, List.any_cons]
      rw [show (d == tf T i % 366) = (tf T i % 366 == d) from Bool.beq_comm, show (d == tt T i % 366) = (tt T i % 366 == d) from Bool.beq_comm]
      simp [Bool.or_assoc]
theorem m_mt32 {T : TW} (hw : wfT T) (hfull : fullT T) : ∀ (m n i : Nat) (S : sd_St) (P : Nat → Bool), i + m = tn T → m < n → CT 17 S T → TQ P S → ∃ S2, f_X10_markTurns_l32 101 17 n (nI i) S = some ((), S2) ∧ TQ (fun d => P d || ((List.range' i m).any (fun p => tb T p == d + 1 || tm T p == d + 1) || ((List.range' 0 (ta T)).any (fun i => tf T i % 366 == d || tt T i % 366 == d) || (List.range' 0 (ts T)).any (fun s => tx T s % 366 == d)))) S2 ∧ frm (fun a => a = 128) S S2 := by
  have h12 := hw.1
  have ha12 := hw.2.2.1
  intro m
  induction m with
  | zero =>
    intro n i S P hi hn hT hP
    obtain ⟨n, rfl⟩ : ∃ n', n = n' + 1 := ⟨n - 1, by omega⟩
    obtain ⟨S2, e1, e2, e3⟩ := m_mt82 hw (ta T) sd_FU 0 S P (by omega) (by unfold sd_FU; omega) hT hP
    refine ⟨S2, ?_, TQ_c e2 (fun d _ => by simp), e3⟩
    unfold f_X10_markTurns_l32
    rw [hT.1, if_pos (nI_le (by omega) (by omega))]
    exact e1
  | succ m ih =>
    intro n i S P hi hn hT hP
    obtain ⟨n, rfl⟩ : ∃ n', n = n' + 1 := ⟨n - 1, by omega⟩
    obtain ⟨hx1, hx2, -⟩ := hw.2.1 i (by omega)
    have hx0 := hfull i (by omega)
    obtain ⟨q1, q2, -⟩ := hT.2.1 i (by omega)
    obtain ⟨Sa, hSa⟩ : ∃ Sa, Sa = sd_I S 128 (tb T i - 1) (vp_nar .boolean (1 : Int32)) := ⟨_, rfl⟩
    have f0 : frm (fun a => a = 128) S Sa := by rw [hSa]; exact frm_I rfl
    have hP1 : TQ (fun d => P d || d == tb T i - 1) Sa := by rw [hSa]; exact TQ_set hP
    have hTa : CT 17 Sa T := CT_fr hT (fun a q1 q2 => f0.1 a (by omega))
    have eb : ∀ d, (d == tb T i - 1) = (tb T i == d + 1) := fun d => by
      rw [Bool.eq_iff_iff]; simp; omega
    have pre : ∀ R, (if nI (tm T i) - 1 = (-1 : Int32) then f_X10_markTurns_b74 (f_X10_markTurns_l32 101 17 n) 101 17 (nI i) Sa else sd_ld Sa 19 (nI i) (fun v_14 => sd_st Sa 128 v_14 (vp_nar .boolean (1 : Int32)) (fun S_15 => f_X10_markTurns_b74 (f_X10_markTurns_l32 101 17 n) 101 17 (nI i) S_15))) = R → f_X10_markTurns_l32 101 17 (n + 1) (nI i) S = R := by
      intro R hR
      unfold f_X10_markTurns_l32
      simp only [Nat.reduceAdd]
      rw [hT.1, if_neg (nI_ge (by omega) (by omega)), sd_ld_ok (show i < sd_al 18 by rw [show sd_al 18 = 12 from by decide]; omega) (sd_al_lt _), q1, nI_s1 hx0, sd_st_ok (by rw [al128]; omega) (sd_al_lt _), ← hSa, sd_ld_ok (show i < sd_al 19 by rw [show sd_al 19 = 12 from by decide]; omega) (sd_al_lt _), f0.1 19 (by decide), q2]
      exact hR
    by_cases c : tm T i = 0
    · obtain ⟨S2, e1, e2, e3⟩ := ih n (i + 1) Sa _ (by omega) (by omega) hTa hP1
      refine ⟨S2, pre _ ?_, TQ_c e2 (fun d _ => ?_), frm_trans f0 e3 (fun _ h => h) (fun _ h => h)⟩
      · rw [if_pos (by rw [c]; decide)]
        unfold f_X10_markTurns_b74
        rw [nI_1]
        exact e1
      · rw [List.range'_succ, List.any_cons, eb, c]
        simp [Bool.or_assoc]
    · obtain ⟨Sb, hSb⟩ : ∃ Sb, Sb = sd_I Sa 128 (tm T i - 1) (vp_nar .boolean (1 : Int32)) := ⟨_, rfl⟩
      have f1 : frm (fun a => a = 128) Sa Sb := by rw [hSb]; exact frm_I rfl
      have hP2 : TQ (fun d => (P d || d == tb T i - 1) || d == tm T i - 1) Sb := by rw [hSb]; exact TQ_set hP1
      have em : ∀ d, (d == tm T i - 1) = (tm T i == d + 1) := fun d => by
        rw [Bool.eq_iff_iff]; simp; omega
      obtain ⟨S2, e1, e2, e3⟩ := ih n (i + 1) Sb _ (by omega) (by omega) (CT_fr hTa (fun a q1 q2 => f1.1 a (by omega))) hP2
      refine ⟨S2, pre _ ?_, TQ_c e2 (fun d _ => ?_), frm_trans f0 (frm_trans f1 e3 (fun _ h => h) (fun _ h => h)) (fun _ h => h) (fun _ h => h)⟩
      · rw [nI_s1 (by omega), if_neg (nI_neg1 (by omega)), sd_ld_ok (show i < sd_al 19 by rw [show sd_al 19 = 12 from by decide]; omega) (sd_al_lt _), f0.1 19 (by decide), q2, nI_s1 (by omega), sd_st_ok (by rw [al128]; omega) (sd_al_lt _), ← hSb]
        unfold f_X10_markTurns_b74
        rw [nI_1]
        exact e1
      · rw [List.range'_succ, List.any_cons, eb, em]
        simp [Bool.or_assoc]
theorem m_mt2 {T : TW} (hw : wfT T) (hfull : fullT T) : ∀ (m n i : Nat) (S : sd_St), i + m = 366 → m < n → CT 17 S T → (∀ d, d < i → S.1 128 d = 0) → ∃ S2, f_X10_markTurns_l2 101 17 n (nI i) S = some ((), S2) ∧ TQ (trnB T) S2 ∧ frm (fun a => a = 128) S S2 := by
  have h12 := hw.1
  intro m
  induction m with
  | zero =>
    intro n i S hi hn hT hz
    obtain ⟨n, rfl⟩ : ∃ n', n = n' + 1 := ⟨n - 1, by omega⟩
    obtain ⟨Sa, hSa⟩ : ∃ Sa, Sa = sd_I S 128 59 (vp_nar .boolean (1 : Int32)) := ⟨_, rfl⟩
    have f0 : frm (fun a => a = 128) S Sa := by rw [hSa]; exact frm_I rfl
    have hP1 : TQ (fun d => (fun _ => false) d || d == 59) Sa := by rw [hSa]; exact TQ_set (fun d hd => hz d (by omega))
    obtain ⟨S2, e1, e2, e3⟩ := m_mt32 hw hfull (tn T) sd_FU 0 Sa _ (by omega) (by unfold sd_FU; omega) (CT_fr hT (fun a q1 q2 => f0.1 a (by omega))) hP1
    refine ⟨S2, ?_, TQ_c e2 (fun d _ => ?_), frm_trans f0 e3 (fun _ h => h) (fun _ h => h)⟩
    · unfold f_X10_markTurns_l2
      simp only [Nat.reduceAdd]
      rw [if_pos (show (366 : Int32) ≤ nI i from nI_le (a := 366) (by omega) (by omega)), show (59 : Int32) = nI 59 from rfl, sd_st_ok (by rw [al128]; omega) (sd_al_lt _), ← hSa]
      exact e1
    · unfold trnB
      simp
  | succ m ih =>
    intro n i S hi hn hT hz
    obtain ⟨n, rfl⟩ : ∃ n', n = n' + 1 := ⟨n - 1, by omega⟩
    obtain ⟨Sa, hSa⟩ : ∃ Sa, Sa = sd_I S 128 i (vp_nar .boolean (0 : Int32)) := ⟨_, rfl⟩
    have f0 : frm (fun a => a = 128) S Sa := by rw [hSa]; exact frm_I rfl
    obtain ⟨S2, e1, e2, e3⟩ := ih n (i + 1) Sa (by omega) (by omega) (CT_fr hT (fun a q1 q2 => f0.1 a (by omega))) (fun d hd => by
      rw [hSa]
      by_cases c : d = i
      · rw [c, rI_same]; decide
      · rw [rI_oth c]; exact hz d (by omega))
    refine ⟨S2, ?_, e2, frm_trans f0 e3 (fun _ h => h) (fun _ h => h)⟩
    unfold f_X10_markTurns_l2
    simp only [Nat.reduceAdd]
    rw [if_neg (show ¬ (366 : Int32) ≤ nI i from nI_ge (b := 366) (by omega) (by decide)), sd_st_ok (by rw [al128]; omega) (sd_al_lt _), ← hSa, nI_1]
    exact e1
theorem m_markTurns {T : TW} (hw : wfT T) (hfull : fullT T) {S : sd_St} (hT : CT 17 S T) : ∃ S2, f_X10_markTurns 101 17 S = some ((), S2) ∧ TQ (trnB T) S2 ∧ frm (fun a => a = 128) S S2 := by
  unfold f_X10_markTurns
  exact m_mt2 hw hfull 366 sd_FU 0 S (by omega) (by unfold sd_FU; omega) hT (fun d hd => absurd hd (Nat.not_lt_zero d))
theorem m_unlike {P : Nat → Bool} {S : sd_St} (h : TQ P S) {d : Nat} (hd : d < 366) : f_X10_isUnlikeDayBefore 101 (nI d) S = some (bI (d == 0 || (P d || P (d - 1))), S) := by
  unfold f_X10_isUnlikeDayBefore
  simp only [Nat.reduceAdd]
  by_cases c : d = 0
  · subst c
    rw [if_pos (show nI 0 = 0 from rfl)]
    rfl
  · rw [if_neg (nI_ne0 (by omega) (by omega)), sd_ld_ok (by rw [al128]; exact hd) (sd_al_lt _), h d hd, nI_s1 (by omega), sd_ld_ok (by rw [al128]; omega) (sd_al_lt _), h (d - 1) (by omega)]
    have e0 : (d == 0) = false := by simpa using c
    rw [e0, Bool.false_or]
    cases c1 : P d with
    | true => rw [if_neg (by decide)]; rfl
    | false =>
      rw [if_pos (by decide)]
      cases c2 : P (d - 1) with
      | true => rw [if_neg (by decide)]; rfl
      | false => rw [if_pos (by decide)]; rfl
theorem trn_qd {T : TW} {p d : Nat} (h : trnB T d = false) : qd T p d := by
  unfold trnB at h
  rw [Bool.or_eq_false_iff, Bool.or_eq_false_iff, Bool.or_eq_false_iff, List.any_eq_false, List.any_eq_false, List.any_eq_false] at h
  obtain ⟨a1, a2, a3, a4⟩ := h
  refine ⟨fun q hq _ => ?_, fun q hq => ?_, fun i hi => ?_, fun s hs => ?_, by simpa using a1⟩
  · have := a2 q (List.mem_range'_1.mpr ⟨by omega, by omega⟩)
    simp at this
    exact this.1
  · have := a2 q (List.mem_range'_1.mpr ⟨by omega, by omega⟩)
    simp at this
    exact this.2
  · have := a3 i (List.mem_range'_1.mpr ⟨by omega, by omega⟩)
    simp at this
    exact this
  · have := a4 s (List.mem_range'_1.mpr ⟨by omega, by omega⟩)
    simp at this
    exact this
