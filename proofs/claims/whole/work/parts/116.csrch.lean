/-! THE CLASS'S SEARCH, whole -/
def MXF (N : Nat) (s t : Nat → Prop) (E : Nat → Nat → Prop) (n : Nat) : Prop := (∃ u c, GF N s t E u c ∧ wo N u c = n) ∧ ∃ F B : Nat → Bool, (∀ e, e < N → s e → F e = true) ∧ (∀ d e, d < N → e < N → B d = true → E d e → F e = true) ∧ (∀ d, d < N → B d = true → ¬ t d) ∧ cn N (fun e => F e && !B e) ≤ n
theorem mxf_uniq {N : Nat} {s t : Nat → Prop} {E : Nat → Nat → Prop} {n m : Nat} (h : MXF N s t E n) (g : MXF N s t E m) : n = m := by
  obtain ⟨⟨u, c, h1, h2⟩, F, B, h3, h4, h5, h6⟩ := h
  obtain ⟨⟨u', c', g1, g2⟩, F', B', g3, g4, g5, g6⟩ := g
  have a := gf_le h1 g3 g4 g5
  have b := gf_le g1 h3 h4 h5
  omega
def PRO (T : TW) (L : List (Nat × Nat)) (g lo hi : Nat) (u : Nat → Bool) (c : Nat → Option Nat) (Q : List Nat) (i : Nat) : Prop := ∀ j, j < i → (∀ d, Q[j]? = some (2 * d) → (u d = false → 2 * d + 1 ∈ Q) ∧ ∀ b, u d = true → c d = some b → 2 * b + 1 ∈ Q) ∧ ∀ d, Q[j]? = some (2 * d + 1) → (∀ e, lo ≤ e → e < hi → grE T L d e → 2 * e ∈ Q) ∧ (u d = true → 2 * d ∈ Q) ∧ ¬ grT T L g d
theorem idx_app' {Q R : List Nat} {i m : Nat} (hi : i < Q.length) (h : (Q ++ R)[i]? = some m) : Q[i]? = some m := by
  rw [List.getElem?_append_left hi] at h; exact h
theorem PRO_app {T : TW} {L : List (Nat × Nat)} {g lo hi : Nat} {u : Nat → Bool} {c : Nat → Option Nat} {Q : List Nat} {i : Nat} (h : PRO T L g lo hi u c Q i) (hi' : i ≤ Q.length) (R : List Nat) : PRO T L g lo hi u c (Q ++ R) i := by
  intro j hj
  obtain ⟨a, b⟩ := h j hj
  refine ⟨fun d hd => ?_, fun d hd => ?_⟩
  · obtain ⟨a1, a2⟩ := a d (idx_app' (by omega) hd)
    exact ⟨fun z => List.mem_append_left _ (a1 z), fun b z1 z2 => List.mem_append_left _ (a2 b z1 z2)⟩
  · obtain ⟨b1, b2, b3⟩ := b d (idx_app' (by omega) hd)
    exact ⟨fun e z1 z2 z3 => List.mem_append_left _ (b1 e z1 z2 z3), fun z => List.mem_append_left _ (b2 z), b3⟩
def FW (S S2 : sd_St) : Prop := frm (fun a => a = 62 ∨ (65 ≤ a ∧ a ≤ 70)) S S2 ∧ ∀ j, j ≠ 11 → S2.1 62 j = S.1 62 j
theorem FQ_FW {S S2 : sd_St} (h : FQ S S2) : FW S S2 := ⟨frm_mono h.1 (fun a ha => by omega), h.2⟩
theorem FW_trans {S S2 S3 : sd_St} (h : FW S S2) (g : FW S2 S3) : FW S S3 := ⟨frm_trans h.1 g.1 (fun _ h => h) (fun _ h => h), fun j hj => (g.2 j hj).trans (h.2 j hj)⟩
theorem TKD_FW {T : TW} {L : List (Nat × Nat)} {S S2 : sd_St} {lo hi : Nat} (h : TKD T L S lo hi) (g : FW S S2) : TKD T L S2 lo hi := by
  obtain ⟨a1, a2, a3, a4, a5, a6, a7⟩ := h
  refine ⟨DR_fr' a1 (by rw [g.1.1 28 (by omega)]) (g.1.1 30 (by omega)) (g.1.1 31 (by omega)) (g.1.1 32 (by omega)), by rw [g.2 0 (by decide)]; exact a2, by rw [g.2 1 (by decide)]; exact a3, a4, a5, ?_, ?_⟩
  · rw [g.1.1 63 (by omega)]; exact a6
  · rw [g.1.1 64 (by omega)]; exact a7
theorem bI_ne0 (b : Bool) : decide (¬ bI b = 0) = b := by cases b <;> decide
/-- a way kept is a flow worth one more -/
theorem m_keep {T : TW} {L : List (Nat × Nat)} (hk : DOK T L) {b f g : Nat} {u : Nat → Bool} {c : Nat → Option Nat} {lo hi : Nat} (hG : GF hi (grS L b f) (grT T L g) (grE T L) u c) {S : sd_St} {Q : List Nat} {tF : Nat → Option Nat} {tB : Nat → Nat} (hCS : CS T L b f g u c S lo hi Q tF tB) {i x : Nat} (hix : Q[i]? = some (2 * x + 1)) (ht : grT T L g x) : ∃ S2 u' c', f_X6_keepWay 62 (nI x) S = some ((), S2) ∧ FLW S2 lo hi u' c' ∧ GF hi (grS L b f) (grT T L g) (grE T L) u' c' ∧ wo hi u' c' = wo hi u c + 1 ∧ FW S S2 := by
  obtain ⟨h1, h2, h3, h4, h5, h6⟩ := hCS
  have hiL := h3.2.2.2.2.1
  have h288 := hk.1
  have hlen := sr_len h1
  have hil := (List.getElem?_eq_some_iff.mp hix).1
  obtain ⟨S2, onF, onB, y1, W, R, k1, k2, k3, k4, k5, k6⟩ := m_keep_l (by omega) h1 h2.2.2.2.2 576 sd_FU i x 0 S (by omega) (by unfold sd_FU; omega) hix (by omega) (fun d a b c => by rw [h2.2.2.1 d a b, if_pos c]) (fun d a b c => by rw [h2.2.2.2.1 d a b, if_pos c])
  have rF : ∀ e, onF e → lo ≤ e ∧ e < hi := by
    intro e he
    obtain ⟨j, -, hj⟩ := R.2 e he
    have := h2.2.2.2.2 _ (List.mem_of_getElem? hj)
    exact ⟨by omega, (W.2.1 e he).1⟩
  have rB : ∀ e, onB e → lo ≤ e ∧ e < hi := by
    intro e he
    obtain ⟨j, -, hj⟩ := R.1 e he
    have := h2.2.2.2.2 _ (List.mem_of_getElem? hj)
    exact ⟨by omega, (W.1 e he).1⟩
  have hFu : ∀ e, onF e → tF e = some e → u e = true := by
    intro e he z
    rcases (W.2.1 e he).2 with ⟨q, -⟩ | ⟨d, q, -, q3⟩
    · rw [z] at q; cases q
    · rw [z] at q
      cases q
      rcases q3 with ⟨-, q3⟩ | ⟨q3, -⟩
      · exact q3
      · exact absurd rfl q3
  have hBu : ∀ e, onB e → tB e = e → u e = false ∧ onF e := by
    intro e he z
    obtain ⟨-, q1, q2⟩ := W.1 e he
    rw [z] at q1 q2
    rcases q2 with ⟨-, q2⟩ | ⟨q2, -⟩
    · exact ⟨q2, q1⟩
    · exact absurd rfl q2
  obtain ⟨u', hu'⟩ : ∃ u' : Nat → Bool, u' = fun e => decide (lo ≤ e ∧ e < hi) && decide (¬ S2.1 65 e = 0) := ⟨_, rfl⟩
  obtain ⟨c', hc'⟩ : ∃ c' : Nat → Option Nat, c' = fun e => @ite _ (onF e ∧ tF e ≠ some e) (Classical.propDecidable _) (tF e) (c e) := ⟨_, rfl⟩
  have uin : ∀ e, lo ≤ e → e < hi → u' e = decide (¬ S2.1 65 e = 0) := by
    intro e a b
    rw [hu']
    show (decide (lo ≤ e ∧ e < hi) && _) = _
    rw [decide_eq_true ⟨a, b⟩]
    rfl
  have uout : ∀ e, ¬ (lo ≤ e ∧ e < hi) → u' e = false := by
    intro e a
    rw [hu']
    show (decide (lo ≤ e ∧ e < hi) && _) = _
    rw [decide_eq_false a]
    rfl
  have U1 : ∀ e, onF e → tF e = some e → u' e = false := by
    intro e he z
    rw [uin e (rF e he).1 (rF e he).2, k1 e he z]; rfl
  have U2 : ∀ e, onB e → tB e = e → u' e = true := by
    intro e he z
    rw [uin e (rB e he).1 (rB e he).2, k2 e he z]; rfl
  have U3 : ∀ e, ¬ (onF e ∧ tF e = some e) → ¬ (onB e ∧ tB e = e) → u' e = u e := by
    intro e z1 z2
    by_cases hr : lo ≤ e ∧ e < hi
    · rw [uin e hr.1 hr.2, k3 e z1 z2, (h5.1 e hr.1 hr.2).1]
      exact bI_ne0 _
    · rw [uout e hr]
      cases hu : u e with
      | false => rfl
      | true => exact absurd (h5.2 e hu) hr
  have V1 : ∀ e, onF e → tF e ≠ some e → c' e = tF e := by
    intro e z1 z2
    rw [hc']
    exact if_pos ⟨z1, z2⟩
  have V2 : ∀ e, ¬ (onF e ∧ tF e ≠ some e) → c' e = c e := by
    intro e z
    rw [hc']
    exact if_neg z
  obtain ⟨G1, G2⟩ := gf_aug hG W ht (u' := u') (c' := c') ⟨U1, U2, U3, V1, fun e z _ => V2 e z⟩
  refine ⟨S2, u', c', y1, ⟨fun d a b => ⟨?_, fun hu => ?_⟩, fun d hd => ?_⟩, G1, G2, ⟨frm_mono k6 (fun a h => by omega), fun j _ => by rw [k6.1 62 (by omega)]⟩⟩
  · by_cases c1 : onF d ∧ tF d = some d
    · rw [k1 d c1.1 c1.2, U1 d c1.1 c1.2]; rfl
    · by_cases c2 : onB d ∧ tB d = d
      · rw [k2 d c2.1 c2.2, U2 d c2.1 c2.2]; rfl
      · rw [k3 d c1 c2, U3 d c1 c2, (h5.1 d a b).1]
  · by_cases c1 : onF d ∧ tF d ≠ some d
    · rw [k4 d c1.1 c1.2, V1 d c1.1 c1.2]
    · rw [k5 d c1, V2 d c1]
      refine (h5.1 d a b).2 ?_
      by_cases c2 : onB d ∧ tB d = d
      · obtain ⟨q1, q2⟩ := hBu d c2.1 c2.2
        exfalso
        refine c1 ⟨q2, fun z => ?_⟩
        rw [hFu d q2 z] at q1; cases q1
      · by_cases c3 : onF d ∧ tF d = some d
        · rw [U1 d c3.1 c3.2] at hu; cases hu
        · rw [← U3 d c3 c2]; exact hu
  · by_cases hr : lo ≤ d ∧ d < hi
    · exact hr
    · rw [uout d hr] at hd; cases hd
theorem m_srch_l {T : TW} {L : List (Nat × Nat)} (hk : DOK T L) {b f g : Nat} (hg : g < 12) {u : Nat → Bool} {c : Nat → Option Nat} {lo hi : Nat} (hG : GF hi (grS L b f) (grT T L g) (grE T L) u c) : ∀ (m n i : Nat) (S : sd_St) (Q : List Nat) (tF : Nat → Option Nat) (tB : Nat → Nat), 2 * hi - i ≤ m → m < n → i ≤ Q.length → CS T L b f g u c S lo hi Q tF tB → PRO T L g lo hi u c Q i → (∃ S2 R tF2 tB2, f_X6_addWay_l72 62 28 n (nI i) S = some (0, S2) ∧ CS T L b f g u c S2 lo hi (Q ++ R) tF2 tB2 ∧ PRO T L g lo hi u c (Q ++ R) (Q ++ R).length ∧ FW S S2) ∨ ∃ S2 u' c', f_X6_addWay_l72 62 28 n (nI i) S = some (1, S2) ∧ FLW S2 lo hi u' c' ∧ GF hi (grS L b f) (grT T L g) (grE T L) u' c' ∧ wo hi u' c' = wo hi u c + 1 ∧ FW S S2 := by
  have hal := al6
  have k1 := hk.1
  -- all is done
  have hfin : ∀ (n i : Nat) (S : sd_St) (Q : List Nat) (tF : Nat → Option Nat) (tB : Nat → Nat), i = Q.length → 0 < n → CS T L b f g u c S lo hi Q tF tB → PRO T L g lo hi u c Q i → (∃ S2 R tF2 tB2, f_X6_addWay_l72 62 28 n (nI i) S = some (0, S2) ∧ CS T L b f g u c S2 lo hi (Q ++ R) tF2 tB2 ∧ PRO T L g lo hi u c (Q ++ R) (Q ++ R).length ∧ FW S S2) := by
    intro n i S Q tF tB hi' hn hCS hP
    obtain ⟨n, rfl⟩ : ∃ n', n = n' + 1 := ⟨n - 1, by omega⟩
    have hiL := hCS.2.2.1.2.2.2.2.1
    have hlen := sr_len hCS.1
    refine ⟨S, [], tF, tB, ?_, by rw [List.append_nil]; exact hCS, by rw [List.append_nil, ← hi']; exact hP, FQ_FW FQ_rfl⟩
    unfold f_X6_addWay_l72
    rw [hCS.2.1.1, hi', if_pos (nI_le (Nat.le_refl _) (by omega))]
  intro m
  induction m with
  | zero =>
    intro n i S Q tF tB hm hn hi' hCS hP
    have hlen := sr_len hCS.1
    exact Or.inl (hfin n i S Q tF tB (by omega) (by omega) hCS hP)
  | succ m ih =>
    intro n i S Q tF tB hm hn hi' hCS hP
    by_cases ci : i = Q.length
    · exact Or.inl (hfin n i S Q tF tB ci (by omega) hCS hP)
    · obtain ⟨n, rfl⟩ : ∃ n', n = n' + 1 := ⟨n - 1, by omega⟩
      have hCS0 := hCS
      obtain ⟨h1, h2, h3, h4, h5, h6⟩ := hCS
      have hiL := h3.2.2.2.2.1
      have hlen := sr_len h1
      have hil : i < Q.length := by omega
      obtain ⟨q, hq⟩ : ∃ q, Q[i]? = some q := ⟨Q[i], List.getElem?_eq_getElem hil⟩
      have hqm := List.mem_of_getElem? hq
      have hq2 := sr_lt h1 hqm
      have hq1 := h2.2.2.2.2 q hqm
      have e70 := h2.2.1 i q hq
      obtain ⟨d, hd⟩ : ∃ d, d = q / 2 := ⟨_, rfl⟩
      have hd1 : lo ≤ d := by omega
      have hd2 : d < hi := by omega
      have hnI : nI q >>> ((1 : Int32) &&& 31) = nI d := by rw [nI_sr1 (by omega), hd]
      have pre : ∀ X, (if (nI (q % 2) : Int32) = 0 then f_X6_addWay_b119 (f_X6_addWay_l72 62 28 n) 62 28 (nI i) (nI d) (0 : Int32) S else f_X6_addWay_b119 (f_X6_addWay_l72 62 28 n) 62 28 (nI i) (nI d) (1 : Int32) S) = X → f_X6_addWay_l72 62 28 (n + 1) (nI i) S = X := by
        intro X hX
        show (if S.1 62 11 ≤ nI i then _ else _) = X
        simp only [Nat.reduceAdd]
        rw [h2.1, if_neg (nI_ge (by omega) (by omega)), hal.2.2.2.2.2.2.2.1, if_neg (show ¬ Int32.ofNat 576 ≤ nI i from nI_ge (b := 576) (by omega) (by omega)), sd_ld_ok (by rw [hal.2.2.2.2.2.2.2.1]; omega) (sd_al_lt _), sd_nm_eq, sd_ld_ok (by rw [hal.2.2.2.2.2.2.2.1]; omega) (sd_al_lt _), e70, hnI, nI_and1 (by omega)]
        exact hX
      -- go on
      have hon : ∀ (S2 : sd_St) (R : List Nat) (tF2 : Nat → Option Nat) (tB2 : Nat → Nat), f_X6_addWay_l72 62 28 (n + 1) (nI i) S = f_X6_addWay_l72 62 28 n (nI (i + 1)) S2 → CS T L b f g u c S2 lo hi (Q ++ R) tF2 tB2 → PRO T L g lo hi u c (Q ++ R) (i + 1) → FQ S S2 → ((∃ S2 R tF2 tB2, f_X6_addWay_l72 62 28 (n + 1) (nI i) S = some (0, S2) ∧ CS T L b f g u c S2 lo hi (Q ++ R) tF2 tB2 ∧ PRO T L g lo hi u c (Q ++ R) (Q ++ R).length ∧ FW S S2) ∨ ∃ S2 u' c', f_X6_addWay_l72 62 28 (n + 1) (nI i) S = some (1, S2) ∧ FLW S2 lo hi u' c' ∧ GF hi (grS L b f) (grT T L g) (grE T L) u' c' ∧ wo hi u' c' = wo hi u c + 1 ∧ FW S S2) := by
        intro S2 R tF2 tB2 e1 e2 e3 e4
        rcases ih n (i + 1) S2 (Q ++ R) tF2 tB2 (by omega) (by omega) (by rw [List.length_append]; omega) e2 e3 with ⟨S3, R3, tF3, tB3, y1, y2, y3, y4⟩ | ⟨S3, u', c', y1, y2, y3, y4, y5⟩
        · refine Or.inl ⟨S3, R ++ R3, tF3, tB3, e1.trans y1, ?_, ?_, FW_trans (FQ_FW e4) y4⟩
          · rw [← List.append_assoc]; exact y2
          · rw [← List.append_assoc]; exact y3
        · exact Or.inr ⟨S3, u', c', e1.trans y1, y2, y3, y4, FW_trans (FQ_FW e4) y5⟩
      rcases (show q = 2 * d ∨ q = 2 * d + 1 by omega) with cq | cq
      · -- a front
        rw [cq] at hq hqm
        obtain ⟨S2, R, tB2, e1, e2, e3, e4, e5⟩ := m_goF hk hd1 hd2 hCS0 hG hqm
        refine hon S2 R tF tB2 (pre _ ?_) e2 ?_ e5
        · rw [if_pos (by rw [cq, show 2 * d % 2 = 0 by omega]; rfl)]
          unfold f_X6_addWay_b119 f_X6_addWay_b151 f_X6_addWay_b172
          rw [if_pos rfl, if_pos rfl, sd_cl_ok e1, nI_1]
        · intro j hj
          by_cases cj : j = i
          · subst cj
            refine ⟨fun d' hd' => ?_, fun d' hd' => ?_⟩
            · have := (idx_app' hil hd').symm.trans hq
              have : d' = d := by have := Option.some.inj this; omega
              subst this
              exact ⟨e3, e4⟩
            · have := (idx_app' hil hd').symm.trans hq
              have := Option.some.inj this
              omega
          · exact PRO_app hP hi' R j (by omega)
      · -- a back
        rw [cq] at hq hqm
        obtain ⟨-, -, v3⟩ := dr_at h3.1 (i := d) (by omega)
        have hrest : ¬ grT T L g d → f_X6_addWay_b119 (f_X6_addWay_l72 62 28 n) 62 28 (nI i) (nI d) (1 : Int32) S = f_X6_addWay_b151 (f_X6_addWay_l72 62 28 n) 62 28 (nI i) (nI d) (1 : Int32) S := by
          intro hng
          unfold f_X6_addWay_b119
          simp only [Nat.reduceAdd]
          rw [if_neg (show ¬ (1 : Int32) = 0 by decide), sd_ld_ok (by rw [hal.2.2.2.2.2.2.2.2.2.2]; omega) (sd_al_lt _), h6, sd_cl_ok (m_has _ (by omega) S), v3 g]
          cases cg : guestB T (dD L d) (dH L d) g with
          | true => exact absurd cg hng
          | false => rw [if_pos (by decide)]
        have hpr : (if (nI (q % 2) : Int32) = 0 then f_X6_addWay_b119 (f_X6_addWay_l72 62 28 n) 62 28 (nI i) (nI d) (0 : Int32) S else f_X6_addWay_b119 (f_X6_addWay_l72 62 28 n) 62 28 (nI i) (nI d) (1 : Int32) S) = f_X6_addWay_b119 (f_X6_addWay_l72 62 28 n) 62 28 (nI i) (nI d) (1 : Int32) S := by
          rw [if_neg (by rw [cq, show (2 * d + 1) % 2 = 1 by omega]; decide)]
        by_cases ct : grT T L g d
        · obtain ⟨S2, u', c', e1, e2, e3, e4, e5⟩ := m_keep hk hG hCS0 hq ct
          refine Or.inr ⟨S2, u', c', pre _ ?_, e2, e3, e4, e5⟩
          rw [hpr]
          unfold f_X6_addWay_b119
          simp only [Nat.reduceAdd]
          rw [if_neg (show ¬ (1 : Int32) = 0 by decide), sd_ld_ok (by rw [hal.2.2.2.2.2.2.2.2.2.2]; omega) (sd_al_lt _), h6, sd_cl_ok (m_has _ (by omega) S), v3 g, show guestB T (dD L d) (dH L d) g = true from ct, if_neg (by decide), sd_cl_ok e1]
        · obtain ⟨S2, R, tF2, e1, e2, e3, e4, e5⟩ := m_goB_l hk hd1 hd2 12 sd_FU 0 S Q tF (by omega) (by unfold sd_FU; omega) hCS0 hqm (fun e a b c => absurd c (Nat.not_lt_zero _))
          refine hon S2 R tF2 tB (pre _ ?_) e2 ?_ e5
          · rw [hpr, hrest ct]
            unfold f_X6_addWay_b151 f_X6_addWay_b172 f_X6_goOnFromBack
            rw [if_neg (show ¬ (1 : Int32) = 0 by decide), sd_cl_ok (show f_X6_goOnFromBack_l2 62 28 sd_FU (nI d) (0 : Int32) S = _ from e1), nI_1]
          · intro j hj
            by_cases cj : j = i
            · subst cj
              refine ⟨fun d' hd' => ?_, fun d' hd' => ?_⟩
              · have := (idx_app' hil hd').symm.trans hq
                have := Option.some.inj this
                omega
              · have := (idx_app' hil hd').symm.trans hq
                have : d' = d := by have := Option.some.inj this; omega
                subst this
                exact ⟨e3, e4, ct⟩
            · exact PRO_app hP hi' R j (by omega)
