/-! meet -/
def bsT : Option (Nat × Nat) → Nat
  | none => FARN
  | some (v, _) => v
def bst (h1 h2 : Nat → Nat) : Nat → Option (Nat × Nat)
  | 0 => none
  | p + 1 => if max (h1 p) (h2 p) < bsT (bst h1 h2 p) then some (max (h1 p) (h2 p), p) else bst h1 h2 p
theorem bst_y {h1 h2 : Nat → Nat} {p : Nat} (h : max (h1 p) (h2 p) < bsT (bst h1 h2 p)) : bst h1 h2 (p + 1) = some (max (h1 p) (h2 p), p) := by
  conv => lhs; unfold bst
  rw [if_pos h]
theorem bst_n {h1 h2 : Nat → Nat} {p : Nat} (h : ¬ max (h1 p) (h2 p) < bsT (bst h1 h2 p)) : bst h1 h2 (p + 1) = bst h1 h2 p := by
  conv => lhs; unfold bst
  rw [if_neg h]
def b1I : Option (Nat × Nat) → Int32
  | none => -1
  | some (v, _) => nI v
def b2I : Option (Nat × Nat) → Int32
  | none => -1
  | some (_, q) => nI q
theorem bst_ok {h1 h2 : Nat → Nat} : ∀ {p : Nat}, bsT (bst h1 h2 p) ≤ FARN ∧ ∀ {v q : Nat}, bst h1 h2 p = some (v, q) → v < FARN ∧ q < p := by
  intro p
  induction p with
  | zero => exact ⟨Nat.le_refl _, fun h => by cases h⟩
  | succ p ih =>
    by_cases c : max (h1 p) (h2 p) < bsT (bst h1 h2 p)
    · rw [bst_y c]
      have := ih.1
      refine ⟨show max (h1 p) (h2 p) ≤ FARN by omega, fun h => ?_⟩
      cases h
      exact ⟨by omega, by omega⟩
    · rw [bst_n c]
      exact ⟨ih.1, fun h => ⟨(ih.2 h).1, by have := (ih.2 h).2; omega⟩⟩
theorem mx_nI {a b : Nat} (ha : a < 2 ^ 30) (hb : b < 2 ^ 30) : sd_mx (nI a) (nI b) = nI (max a b) := by
  unfold sd_mx
  by_cases c : a < b
  · rw [if_pos (nI_lt c (by omega)), Nat.max_eq_right (by omega)]
  · rw [if_neg (nI_nlt (by omega) (by omega)), Nat.max_eq_left (by omega)]
theorem m_meet_l {S : sd_St} {T : TW} (hw : wfT T) (hT : CT 17 S T) {s1 s2 : Nat} (hs1 : s1 < ts T) (hs2 : s2 < ts T) {b1 f1 b2 f2 : Nat} {h1 h2 : Nat → Nat} (hR1 : RM (34 + 5 * s1) S b1 h1) (hh1 : hok T b1 f1 h1) (hR2 : RM (34 + 5 * s2) S b2 h2) (hh2 : hok T b2 f2 h2) {x3 : Int32} : ∀ (m n p : Nat), p + m = tn T → m < n → f_X11_meet_l43 n (nI s1) (nI s2) x3 (b1I (bst h1 h2 p)) (b2I (bst h1 h2 p)) (nI p) S = some (if x3 = 0 then b1I (bst h1 h2 (tn T)) else b2I (bst h1 h2 (tn T)), S) := by
  have h12 := hw.1
  have h4 := hw.2.2.2.2.1
  have k1 := hh1.1
  have k2 := hh2.1
  have v1 := hh1.2.2.2.1
  have v2 := hh2.2.2.2.1
  intro m
  induction m with
  | zero =>
    intro n p hp hn
    obtain ⟨n, rfl⟩ : ∃ n', n = n' + 1 := ⟨n - 1, by omega⟩
    unfold f_X11_meet_l43
    rw [hT.1, if_pos (nI_le (by omega) (by omega)), show tn T = p by omega]
    by_cases c : x3 = 0
    · rw [if_pos c, if_pos c]
    · rw [if_neg c, if_neg c]
  | succ m ih =>
    intro n p hp hn
    obtain ⟨n, rfl⟩ : ∃ n', n = n' + 1 := ⟨n - 1, by omega⟩
    have ih := ih n (p + 1) (by omega) (by omega)
    unfold f_X11_meet_l43 f_X11_meet_b115 f_X11_meet_b123
    rw [hT.1, if_neg (nI_ge (by omega) (by omega)), rum_ix (by omega), sd_cl_ok (m_had (kd_r (by omega)) hR1 hh1 (by omega) (by omega)), rum_ix (by omega), sd_cl_ok (m_had (kd_r (by omega)) hR2 hh2 (by omega) (by omega)), sd_nm_eq, nI_1]
    unfold hadI
    have hno : ¬ (max (h1 p) (h2 p) < FARN) → bst h1 h2 (p + 1) = bst h1 h2 p := by
      intro z
      exact bst_n (fun y => z (Nat.lt_of_lt_of_le y bst_ok.1))
    by_cases c1 : h1 p = FARN
    · rw [if_pos c1, if_pos rfl]
      rw [hno (by rw [c1]; omega)] at ih
      exact ih
    · rw [if_neg c1, if_neg (nI_neg1 (by have := v1 p; unfold FARN at *; omega))]
      by_cases c2 : h2 p = FARN
      · rw [if_pos c2, if_pos rfl]
        rw [hno (by rw [c2]; omega)] at ih
        exact ih
      · have g1 := (v1 p).resolve_left c1
        have g2 := (v2 p).resolve_left c2
        rw [if_neg c2, if_neg (nI_neg1 (by omega)), mx_nI (by omega) (by omega)]
        cases hb : bst h1 h2 p with
        | none =>
          have : bst h1 h2 (p + 1) = some (max (h1 p) (h2 p), p) := bst_y (by rw [hb]; show _ < FARN; unfold FARN; omega)
          rw [this] at ih
          rw [if_pos (show b1I none = -1 from rfl)]
          exact ih
        | some vq =>
          obtain ⟨v, q⟩ := vq
          have hvq := (bst_ok.2 hb).1
          unfold FARN at hvq
          rw [if_neg (show ¬ b1I (some (v, q)) = -1 from nI_neg1 (by omega))]
          by_cases c3 : v ≤ max (h1 p) (h2 p)
          · have : bst h1 h2 (p + 1) = bst h1 h2 p := bst_n (by rw [hb]; show ¬ _ < v; omega)
            rw [this, hb] at ih
            rw [if_pos (show b1I (some (v, q)) ≤ _ from nI_le c3 (by omega))]
            exact ih
          · have : bst h1 h2 (p + 1) = some (max (h1 p) (h2 p), p) := bst_y (by rw [hb]; show _ < v; omega)
            rw [this] at ih
            rw [if_neg (show ¬ b1I (some (v, q)) ≤ _ from nI_ge (by omega) (by omega))]
            exact ih
def b3I : Option (Nat × Nat) → Int32
  | none => 1000000
  | some (v, _) => nI v
theorem al153 : sd_al 153 = 12 := by decide
theorem n_meet_l {S : sd_St} {T : TW} (hw : wfT T) (hT : RTg (S.1 136) T) {h1 h2 : Nat → Nat} (hB1 : ∀ p, p < tn T → S.1 140 p = nI (h1 p)) (hB2 : ∀ p, p < tn T → S.1 153 p = nI (h2 p)) (v1 : ∀ q, h1 q = FARN ∨ h1 q < 4392) (v2 : ∀ q, h2 q = FARN ∨ h2 q < 4392) {x3 : Int32} (hx : x3 = 0 ∨ x3 = 1) : ∀ (m n p : Nat), p + m = tn T → m < n → f_X12_meet_l90 n x3 (b2I (bst h1 h2 p)) (b3I (bst h1 h2 p)) (nI p) S = some (if x3 = 0 then b1I (bst h1 h2 (tn T)) else b2I (bst h1 h2 (tn T)), S) := by
  have h12 := hw.1
  intro m
  induction m with
  | zero =>
    intro n p hp hn
    obtain ⟨n, rfl⟩ : ∃ n', n = n' + 1 := ⟨n - 1, by omega⟩
    unfold f_X12_meet_l90
    rw [sd_cl_ok (n_people hT), if_pos (nI_le (by omega) (by omega)), show tn T = p by omega]
    cases hb : bst h1 h2 p with
    | none =>
      rw [if_pos (show b2I none < 0 by decide)]
      rcases hx with h | h <;> subst h <;> rfl
    | some vq =>
      obtain ⟨v, q⟩ := vq
      have := (bst_ok.2 hb).2
      rw [if_neg (show ¬ b2I (some (v, q)) < 0 from nI_pos (by omega))]
      rcases hx with h | h
      · subst h
        rw [if_neg (by decide), if_pos rfl]
        rfl
      · subst h
        rw [if_pos rfl, if_neg (by decide)]
  | succ m ih =>
    intro n p hp hn
    obtain ⟨n, rfl⟩ : ∃ n', n = n' + 1 := ⟨n - 1, by omega⟩
    have ih := ih n (p + 1) (by omega) (by omega)
    have g1 : h1 p ≤ FARN := by rcases v1 p with g | g <;> unfold FARN at * <;> omega
    have g2 : h2 p ≤ FARN := by rcases v2 p with g | g <;> unfold FARN at * <;> omega
    have k1 := g1
    have k2 := g2
    unfold FARN at k1 k2
    have hmax : f_X12_meet_l90 (n + 1) x3 (b2I (bst h1 h2 p)) (b3I (bst h1 h2 p)) (nI p) S = f_X12_meet_b133 (f_X12_meet_l90 n) x3 (b2I (bst h1 h2 p)) (b3I (bst h1 h2 p)) (nI p) (nI (max (h1 p) (h2 p))) S := by
      conv => lhs; unfold f_X12_meet_l90
      rw [sd_cl_ok (n_people hT), if_neg (nI_ge (by omega) (by omega)), sd_ld_ok (by rw [al140]; omega) (sd_al_lt _), sd_ld_ok (by rw [al153]; omega) (sd_al_lt _), hB1 p (by omega), hB2 p (by omega), sd_ld_ok (by rw [al153]; omega) (sd_al_lt _), sd_ld_ok (by rw [al140]; omega) (sd_al_lt _), hB1 p (by omega), hB2 p (by omega)]
      by_cases c : h1 p ≤ h2 p
      · rw [if_pos (nI_le c (by omega)), Nat.max_eq_right c]
      · rw [if_neg (nI_ge (by omega) (by omega)), Nat.max_eq_left (by omega)]
    rw [hmax]
    unfold f_X12_meet_b133 f_X12_meet_b149 f_X12_meet_b165
    rw [nI_1]
    cases hb : bst h1 h2 p with
    | none =>
      by_cases c : max (h1 p) (h2 p) < FARN
      · have : bst h1 h2 (p + 1) = some (max (h1 p) (h2 p), p) := bst_y (by rw [hb]; exact c)
        rw [this] at ih
        unfold FARN at c
        rw [if_neg (show ¬ b3I none ≤ nI (max (h1 p) (h2 p)) from nI_ge (b := 1000000) c (by decide)), if_neg (show ¬ b3I none ≤ nI (max (h1 p) (h2 p)) from nI_ge (b := 1000000) c (by decide))]
        exact ih
      · have : bst h1 h2 (p + 1) = bst h1 h2 p := bst_n (by rw [hb]; exact c)
        rw [this, hb] at ih
        unfold FARN at c
        rw [if_pos (show b3I none ≤ nI (max (h1 p) (h2 p)) from nI_le (a := 1000000) (by omega) (by omega)), if_pos (show b3I none ≤ nI (max (h1 p) (h2 p)) from nI_le (a := 1000000) (by omega) (by omega))]
        exact ih
    | some vq =>
      obtain ⟨v, q⟩ := vq
      have hvq := (bst_ok.2 hb).1
      unfold FARN at hvq
      by_cases c3 : v ≤ max (h1 p) (h2 p)
      · have : bst h1 h2 (p + 1) = bst h1 h2 p := bst_n (by rw [hb]; show ¬ _ < v; omega)
        rw [this, hb] at ih
        rw [if_pos (show b3I (some (v, q)) ≤ nI (max (h1 p) (h2 p)) from nI_le c3 (by omega)), if_pos (show b3I (some (v, q)) ≤ nI (max (h1 p) (h2 p)) from nI_le c3 (by omega))]
        exact ih
      · have : bst h1 h2 (p + 1) = some (max (h1 p) (h2 p), p) := bst_y (by rw [hb]; show _ < v; omega)
        rw [this] at ih
        rw [if_neg (show ¬ b3I (some (v, q)) ≤ nI (max (h1 p) (h2 p)) from nI_ge (by omega) (by omega)), if_neg (show ¬ b3I (some (v, q)) ≤ nI (max (h1 p) (h2 p)) from nI_ge (by omega) (by omega))]
        exact ih
theorem n_meet_c {T : TW} (hw : wfT T) {s1 : Nat} {h2 : Nat → Nat} {x3 : Int32} : ∀ (m n p : Nat) (S : sd_St), p + m = tn T → m < n → RTg (S.1 136) T → (∀ q, q < tn T → S.1 140 q = nI (h2 q)) → (∀ q, q < p → S.1 153 q = nI (h2 q)) → ∃ S2, f_X12_meet_l45 n (nI s1) x3 (nI p) S = sd_cl (f_X12_find_ (nI s1) S2) (fun _ S_16 => f_X12_meet_l90 sd_FU x3 (-1 : Int32) (1000000 : Int32) (0 : Int32) S_16) ∧ (∀ q, q < tn T → S2.1 153 q = nI (h2 q)) ∧ frm (fun a => a = 153) S S2 := by
  have h12 := hw.1
  intro m
  induction m with
  | zero =>
    intro n p S hp hn hT hB hE
    obtain ⟨n, rfl⟩ : ∃ n', n = n' + 1 := ⟨n - 1, by omega⟩
    refine ⟨S, ?_, fun q hq => hE q (by omega), frm_rfl⟩
    unfold f_X12_meet_l45
    rw [sd_cl_ok (n_people hT), if_pos (nI_le (by omega) (by omega))]
  | succ m ih =>
    intro n p S hp hn hT hB hE
    obtain ⟨n, rfl⟩ : ∃ n', n = n' + 1 := ⟨n - 1, by omega⟩
    obtain ⟨S2, y1, y2, y3⟩ := ih n (p + 1) (sd_I S 153 p (nI (h2 p))) (by omega) (by omega) (by rw [rI_cell (by decide)]; exact hT) (by rw [rI_cell (by decide)]; exact hB) (fun q hq => by
      by_cases c : q = p
      · rw [c, rI_same]
      · rw [rI_oth c]; exact hE q (by omega))
    refine ⟨S2, ?_, y2, frm_trans (frm_I (c := fun a => a = 153) rfl) y3 (fun _ h => h) (fun _ h => h)⟩
    rw [← y1]
    conv => lhs; unfold f_X12_meet_l45
    rw [sd_cl_ok (n_people hT), if_neg (nI_ge (by omega) (by omega)), sd_ld_ok (by rw [al140]; omega) (sd_al_lt _), hB p (by omega), sd_st_ok (by rw [al153]; omega) (sd_al_lt _), nI_1]
theorem two_or (x : Int32) : (x = 0 ∨ x = 1) ∨ (¬ x = 0 ∧ ¬ x = 1) := by
  by_cases c : x = 0
  · exact Or.inl (Or.inl c)
  · by_cases c2 : x = 1
    · exact Or.inl (Or.inr c2)
    · exact Or.inr ⟨c, c2⟩
theorem n_one_y {S : sd_St} {x : Int32} (h : x = 0 ∨ x = 1) : f_X12_within x 0 1 S = some (1, S) := by
  unfold f_X12_within
  rcases h with h | h <;> subst h <;> rfl
theorem n_one_n {S : sd_St} {x : Int32} (h : ¬ x = 0 ∧ ¬ x = 1) : f_X12_within x 0 1 S = some (0, S) := by
  rcases ix_or x (show 2 < 2 ^ 31 by decide) with ⟨j, hj, rfl⟩ | c
  · exfalso
    rcases (show j = 0 ∨ j = 1 by omega) with h' | h' <;> subst h'
    · exact h.1 rfl
    · exact h.2 rfl
  · exact n_within_n (m := 1) (by decide) c
theorem m_one_y {S : sd_St} {x : Int32} (h : x = 0 ∨ x = 1) : f_X11_isOneOfTwo x S = some (1, S) := by
  unfold f_X11_isOneOfTwo
  rcases h with h | h <;> subst h <;> rfl
theorem m_one_n {S : sd_St} {x : Int32} (h : ¬ x = 0 ∧ ¬ x = 1) : f_X11_isOneOfTwo x S = some (0, S) := by
  unfold f_X11_isOneOfTwo
  rw [if_neg h.1, if_neg h.2]
theorem ag_meet (x1 x2 x3 : Int32) : AG (f_X11_meet x1 x2 x3) (f_X12_meet x1 x2 x3) := by
  intro σ hw
  have hw1 := hw.1
  have h12 := hw1.1
  have h4 := hw1.2.2.2.2.1
  rcases ix_or x1 (wf31 hw1).2 with ⟨s1, hs1, rfl⟩ | c1
  · rcases ix_or x2 (wf31 hw1).2 with ⟨s2, hs2, rfl⟩ | c2
    · by_cases ce : s1 = s2
      · refine AG_none hw (v := -1) (fun S h => ?_) (fun S h => ?_)
        · unfold f_X11_meet
          rw [sd_cl_ok (m_isSecret (IC_T h) hw1 hs1), if_neg (by decide), sd_cl_ok (m_isSecret (IC_T h) hw1 hs2), if_neg (by decide), if_pos (by rw [ce])]
        · unfold f_X12_meet
          rw [sd_nm_eq, sd_cl_ok (n_isSecret (IR_T (IR_thr h).1) hw1 hs1), if_neg (by decide), sd_cl_ok (n_isSecret (IR_T (IR_thr h).1) hw1 hs2), if_neg (by decide), if_pos (by rw [ce])]
      · have ce2 : ¬ nI s1 = nI s2 := fun z => ce (nI_inj (by omega) (by omega) z)
        rcases two_or x3 with c3 | c3
        · refine ⟨if x3 = 0 then b1I (bst (hF σ.1 s1) (hF σ.1 s2) (tn σ.1)) else b2I (bst (hF σ.1 s1) (hF σ.1 s2) (tn σ.1)), σ, hw, fun S h => ?_, fun S h => ?_⟩
          · obtain ⟨S1, e1, e2, e3, e4⟩ := IC_up hw h
            refine ⟨S1, ?_, e3, e4⟩
            unfold f_X11_meet
            rw [sd_cl_ok (m_isSecret (IC_T h) hw1 hs1), if_neg (by decide), sd_cl_ok (m_isSecret (IC_T h) hw1 hs2), if_neg (by decide), if_neg ce2, sd_cl_ok (m_one_y c3), if_neg (by decide), sd_cl_ok e1]
            exact m_meet_l hw1 (IC_T e3) hs1 hs2 (e2.2.2 s1 hs1).1 (hok_F hw1 hs1) (e2.2.2 s2 hs2).1 (hok_F hw1 hs2) (tn σ.1) sd_FU 0 (by omega) (by unfold sd_FU; omega)
          · obtain ⟨t1, t2⟩ := IR_thr h
            obtain ⟨S1, e1, e2, e3, e4⟩ := IR_find hw t1 hs2
            obtain ⟨S2, y1, y2, y3⟩ := n_meet_c (s1 := s1) (x3 := x3) hw1 (tn σ.1) sd_FU 0 S1 (by omega) (by unfold sd_FU; omega) (IR_T e3) (BR_h e2) (fun q hq => absurd hq (by omega))
            have hI2 : IR S2 σ := IR_fr e3 (y3.1 136 (by omega)) (y3.1 154 (by omega)) (by rw [y3.1 130 (by omega)]) (y3.1 131 (by omega)) (y3.2 135 (by omega))
            obtain ⟨S3, z1, z2, z3, z4⟩ := n_find hw1 hw.2.1 hs1 (IR_T hI2)
            have hI3 : IR S3 σ := IR_fr hI2 (z3.1 136 (by omega)) (z3.1 154 (by omega)) (z4 2 (by decide)) (z3.1 131 (by omega)) (z3.2 135 (by omega))
            refine ⟨S3, ?_, hI3, frm_trans t2 (frm_trans (e := hiC) e4 (frm_trans (e := hiC) y3 z3 (fun a h => by unfold hiC; omega) (fun a h => by unfold hiC; omega)) (fun _ h => h) (fun _ h => h)) (fun _ h => h) (fun _ h => h)⟩
            unfold f_X12_meet
            rw [sd_nm_eq, sd_cl_ok (n_isSecret (IR_T t1) hw1 hs1), if_neg (by decide), sd_cl_ok (n_isSecret (IR_T t1) hw1 hs2), if_neg (by decide), if_neg ce2, sd_cl_ok (n_one_y c3), if_neg (by decide), sd_cl_ok e1]
            have y1 : f_X12_meet_l45 sd_FU (nI s1) x3 0 S1 = _ := y1
            rw [y1, sd_cl_ok z1]
            exact n_meet_l hw1 (IR_T hI3) (BR_h z2) (by rw [z3.1 153 (by omega)]; exact y2) (hok_F hw1 hs1).2.2.2.1 (hok_F hw1 hs2).2.2.2.1 c3 (tn σ.1) sd_FU 0 (by omega) (by unfold sd_FU; omega)
        · refine AG_none hw (v := -1) (fun S h => ?_) (fun S h => ?_)
          · unfold f_X11_meet
            rw [sd_cl_ok (m_isSecret (IC_T h) hw1 hs1), if_neg (by decide), sd_cl_ok (m_isSecret (IC_T h) hw1 hs2), if_neg (by decide), if_neg ce2, sd_cl_ok (m_one_n c3), if_pos rfl]
          · unfold f_X12_meet
            rw [sd_nm_eq, sd_cl_ok (n_isSecret (IR_T (IR_thr h).1) hw1 hs1), if_neg (by decide), sd_cl_ok (n_isSecret (IR_T (IR_thr h).1) hw1 hs2), if_neg (by decide), if_neg ce2, sd_cl_ok (n_one_n c3), if_pos rfl]
    · refine AG_none hw (v := -1) (fun S h => ?_) (fun S h => ?_)
      · unfold f_X11_meet
        rw [sd_cl_ok (m_isSecret (IC_T h) hw1 hs1), if_neg (by decide), sd_cl_ok (m_isSecret_n (IC_T h) c2), if_pos rfl]
      · unfold f_X12_meet
        rw [sd_nm_eq, sd_cl_ok (n_isSecret (IR_T (IR_thr h).1) hw1 hs1), if_neg (by decide), sd_cl_ok (n_isSecret_n (IR_T (IR_thr h).1) c2), if_pos rfl]
  · refine AG_none hw (v := -1) (fun S h => ?_) (fun S h => ?_)
    · unfold f_X11_meet
      rw [sd_cl_ok (m_isSecret_n (IC_T h) c1), if_pos rfl]
    · unfold f_X12_meet
      rw [sd_nm_eq, sd_cl_ok (n_isSecret_n (IR_T (IR_thr h).1) c1), if_pos rfl]
