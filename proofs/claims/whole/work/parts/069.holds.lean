/-! holds, began -/
def agB (h : Nat → Nat) (s : Nat) (rp : Rp) : Bool := rp.all (fun r => !(r.2.1 == s) || (decide (h r.1 ≤ r.2.2.1) == r.2.2.2))
theorem drop_cons {rp : Rp} {i : Nat} (hi : i < rp.length) : ∃ w s t n, rp[i]? = some (w, s, t, n) ∧ rp.drop i = (w, s, t, n) :: rp.drop (i + 1) ∧ (w, s, t, n) ∈ rp := by
  refine ⟨rp[i].1, rp[i].2.1, rp[i].2.2.1, rp[i].2.2.2, List.getElem?_eq_getElem hi, List.drop_eq_getElem_cons hi, List.getElem_mem hi⟩
theorem m_agree_l {r : Nat} (hr : sd_kd r = 5) {S : sd_St} {T : TW} (hw : wfT T) {rp : Rp} (hR : RC 72 S rp) (hrp : wfR T rp) {b f : Nat} {h : Nat → Nat} (hM : RM r S b h) (hh : hok T b f h) {s : Nat} (hs : s < ts T) : ∀ (m n i : Nat), i + m = rp.length → m < n → f_X4_agree_l2 72 r n (nI s) (nI i) S = some (bI (agB h s (rp.drop i)), S) := by
  have h12 := hw.1
  have h4 := hw.2.2.2.2.1
  have hl := hrp.1
  have hb := hh.1
  have ha : sd_al (72 + 1) = 16 ∧ sd_al (72 + 2) = 16 ∧ sd_al (72 + 3) = 16 ∧ sd_al (72 + 4) = 16 := by decide
  intro m
  induction m with
  | zero =>
    intro n i hi hn
    obtain ⟨n, rfl⟩ : ∃ n', n = n' + 1 := ⟨n - 1, by omega⟩
    unfold f_X4_agree_l2
    rw [hR.1, if_pos (nI_le (by omega) (by omega)), List.drop_of_length_le (by omega)]
    rfl
  | succ m ih =>
    intro n i hi hn
    obtain ⟨n, rfl⟩ : ∃ n', n = n' + 1 := ⟨n - 1, by omega⟩
    obtain ⟨w, s', t, k, e1, e2, e3⟩ := drop_cons (show i < rp.length by omega)
    obtain ⟨r1, r2, r3, r4⟩ := hR.2 i w s' t k e1
    obtain ⟨b1, b2, b3⟩ := hrp.2 w s' t k e3
    have ih := ih n (i + 1) (by omega) (by omega)
    unfold f_X4_agree_l2 f_X4_agree_b47
    rw [hR.1, if_neg (nI_ge (by omega) (by omega)), sd_ld_ok (by omega) (sd_al_lt _), r2, e2]
    have hc : agB h s ((w, s', t, k) :: rp.drop (i + 1)) = ((!(s' == s) || (decide (h w ≤ t) == k)) && agB h s (rp.drop (i + 1))) := rfl
    rw [hc]
    by_cases c : s' = s
    · rw [if_pos (by rw [c]), sd_ld_ok (by omega) (sd_al_lt _), r1, sd_ld_ok (by omega) (sd_al_lt _), r3, sd_cl_ok (m_hadBy hr hM hh (by omega) (by omega) b3), sd_ld_ok (by omega) (sd_al_lt _), r4, nI_1]
      have hq : (s' == s) = true := by rw [c]; simp
      rw [hq, Bool.not_true, Bool.false_or]
      by_cases c2 : h w ≤ t
      · rw [if_pos c2, decide_eq_true c2]
        cases k
        · rw [if_neg (by decide)]; rfl
        · rw [if_pos (by decide), ih]; rfl
      · rw [if_neg c2, decide_eq_false c2]
        cases k
        · rw [if_pos (by decide), ih]; rfl
        · rw [if_neg (by decide)]; rfl
    · rw [if_neg (fun z => c (nI_inj (by omega) (by omega) z)), nI_1, ih]
      have hq : (s' == s) = false := by simpa using c
      rw [hq]
      rfl
theorem m_agree {r : Nat} (hr : sd_kd r = 5) {S : sd_St} {T : TW} (hw : wfT T) {rp : Rp} (hR : RC 72 S rp) (hrp : wfR T rp) {b f : Nat} {h : Nat → Nat} (hM : RM r S b h) (hh : hok T b f h) {s : Nat} (hs : s < ts T) : f_X4_agree 72 r (nI s) S = some (bI (agB h s rp), S) := by
  have hl := hrp.1
  unfold f_X4_agree
  exact m_agree_l hr hw hR hrp hM hh hs rp.length sd_FU 0 (by omega) (by unfold sd_FU; omega)
theorem ckz_b {β : Type} (a : Bool) (f : Option β) : sd_ckz (bI a) f = f := by
  unfold sd_ckz
  rw [if_pos (by cases a <;> decide)]
theorem n_areSo_l {S : sd_St} {T : TW} (hw : wfT T) {rp : Rp} (hG : RG (S.1 136) T rp) (hrp : wfR T rp) {h : Nat → Nat} (hB : ∀ p, p < tn T → S.1 140 p = nI (h p)) (hv : ∀ q, h q = FARN ∨ h q < 4392) {s : Nat} (hs : s < ts T) : ∀ (m n i : Nat) (a : Bool), i + m = rp.length → m < n → f_X12_areSo_l4 n (nI s) (bI a) (nI i) S = some (bI (a && agB h s (rp.drop i)), S) := by
  have h12 := hw.1
  have h4 := hw.2.2.2.2.1
  have hl := hrp.1
  have hrep : f_X12_reports S = some (nI rp.length, S) := by
    unfold f_X12_reports
    rw [show (97 : Int32) = nI 97 from rfl, ldT (by decide), hG.2.1]
  intro m
  induction m with
  | zero =>
    intro n i a hi hn
    obtain ⟨n, rfl⟩ : ∃ n', n = n' + 1 := ⟨n - 1, by omega⟩
    unfold f_X12_areSo_l4
    rw [sd_cl_ok hrep, if_pos (nI_le (by omega) (by omega)), List.drop_of_length_le (by omega), ckz_b]
    cases a <;> rfl
  | succ m ih =>
    intro n i a hi hn
    obtain ⟨n, rfl⟩ : ∃ n', n = n' + 1 := ⟨n - 1, by omega⟩
    obtain ⟨w, s', t, k, e1, e2, e3⟩ := drop_cons (show i < rp.length by omega)
    obtain ⟨r1, r2, r3, r4⟩ := hG.2.2 i w s' t k e1
    obtain ⟨b1, b2, b3⟩ := hrp.2 w s' t k e3
    have ih := fun a => ih n (i + 1) a (by omega) (by omega)
    have hc : agB h s ((w, s', t, k) :: rp.drop (i + 1)) = ((!(s' == s) || (decide (h w ≤ t) == k)) && agB h s (rp.drop (i + 1))) := rfl
    have h49 : ∀ c : Bool, f_X12_areSo_b49 (f_X12_areSo_l4 n) (nI s) (bI a) (nI i) (nI (98 + 4 * i)) (bI c) S = some (bI (a && ((!(s' == s) || (c == k)) && agB h s (rp.drop (i + 1)))), S) := by
      intro c
      unfold f_X12_areSo_b49 f_X12_areSo_b95 f_X12_areSo_b88 f_X12_areSo_b91 f_X12_areSo_b95 f_X12_areSo_b96
      rw [nI_1, nI_1, ixb, ldT (by omega), ldT (by omega), r2, r4]
      have ht := ih true
      have hf := ih false
      cases a
      · rw [if_pos (by decide)]
        exact hf
      · rw [if_neg (by decide)]
        by_cases cs : s' = s
        · have hq : (s' == s) = true := by rw [cs]; simp
          rw [if_pos (by rw [cs]), hq, Bool.not_true, Bool.false_or]
          cases k
          · rw [if_neg (by decide)]
            cases c
            · rw [if_pos (by decide)]; exact ht
            · rw [if_neg (by decide)]; exact hf
          · rw [if_pos (by decide)]
            cases c
            · rw [if_neg (by decide)]; exact hf
            · rw [if_pos (by decide)]; exact ht
        · have hq : (s' == s) = false := by simpa using cs
          rw [if_neg (fun z => cs (nI_inj (by omega) (by omega) z)), hq]
          exact ht
    have hv2 : h w < 2 ^ 30 := by
      rcases hv w with g | g
      · rw [g]; decide
      · omega
    conv => lhs; unfold f_X12_areSo_l4
    rw [sd_cl_ok hrep, if_neg (nI_ge (by omega) (by omega)), ix98, sd_nm_eq, ldT (by omega), r1, sd_ld_ok (by rw [al140]; omega) (sd_al_lt _), hB w b1, ixa, ldT (by omega), r3, e2, hc]
    by_cases c2 : h w ≤ t
    · rw [if_neg (nI_nlt (by omega) (by omega)), decide_eq_true c2]
      exact h49 true
    · rw [if_pos (nI_lt (by omega) (by omega)), decide_eq_false c2]
      exact h49 false
theorem n_areSo {S : sd_St} {T : TW} (hw : wfT T) {rp : Rp} (hG : RG (S.1 136) T rp) (hrp : wfR T rp) {h : Nat → Nat} (hB : ∀ p, p < tn T → S.1 140 p = nI (h p)) (hv : ∀ q, h q = FARN ∨ h q < 4392) {s : Nat} (hs : s < ts T) : f_X12_areSo (nI s) S = some (bI (agB h s rp), S) := by
  have hl := hrp.1
  unfold f_X12_areSo
  exact n_areSo_l hw hG hrp hB hv hs rp.length sd_FU 0 true (by omega) (by unfold sd_FU; omega)
def allF (T : TW) (rp : Rp) : Nat → Nat → Bool
  | _, 0 => true
  | s, m + 1 => agB (hF T s) s rp && allF T rp (s + 1) m
theorem m_holds_l {S : sd_St} {σ : Sg} (hw : WF σ) (hI : IC S σ) (hU : UP S σ.1) : ∀ (m n s : Nat), s + m = ts σ.1 → m < n → f_X11_holds_l6 n (nI s) S = some (bI (allF σ.1 σ.2.1 s m), S) := by
  have hw1 := hw.1
  have h4 := hw1.2.2.2.2.1
  intro m
  induction m with
  | zero =>
    intro n s hs hn
    obtain ⟨n, rfl⟩ : ∃ n', n = n' + 1 := ⟨n - 1, by omega⟩
    unfold f_X11_holds_l6 allF
    rw [(IC_T hI).2.2.2.2.1, if_pos (nI_le (by omega) (by omega))]
    rfl
  | succ m ih =>
    intro n s hs hn
    obtain ⟨n, rfl⟩ : ∃ n', n = n' + 1 := ⟨n - 1, by omega⟩
    have ih := ih n (s + 1) (by omega) (by omega)
    unfold f_X11_holds_l6 allF
    rw [(IC_T hI).2.2.2.2.1, if_neg (nI_ge (by omega) (by omega)), rum_ix (by omega), sd_cl_ok (m_agree (kd_r (by omega)) hw1 hI.2.1 hw.2.2.1 (hU.2.2 s (by omega)).1 (hok_F hw1 (by omega)) (by omega)), nI_1, ih]
    cases agB (hF σ.1 s) s σ.2.1
    · rw [if_pos (by decide)]; rfl
    · rw [if_neg (by decide)]; rfl
theorem n_holdAll_l {σ : Sg} (hw : WF σ) : ∀ (m n s : Nat) (a : Bool) (S : sd_St), IR S σ → s + m = ts σ.1 → m < n → ∃ S2, f_X12_holdAll_l4 n (bI a) (nI s) S = some (bI (a && allF σ.1 σ.2.1 s m), S2) ∧ IR S2 σ ∧ frm hiC S S2 := by
  have hw1 := hw.1
  have h4 := hw1.2.2.2.2.1
  intro m
  induction m with
  | zero =>
    intro n s a S hI hs hn
    obtain ⟨n, rfl⟩ : ∃ n', n = n' + 1 := ⟨n - 1, by omega⟩
    refine ⟨S, ?_, hI, frm_rfl⟩
    unfold f_X12_holdAll_l4 allF
    rw [sd_cl_ok (n_secrets (IR_T hI)), if_pos (nI_le (by omega) (by omega)), ckz_b, Bool.and_true]
  | succ m ih =>
    intro n s a S hI hs hn
    obtain ⟨n, rfl⟩ : ∃ n', n = n' + 1 := ⟨n - 1, by omega⟩
    cases a
    · refine ⟨S, ?_, hI, frm_rfl⟩
      unfold f_X12_holdAll_l4
      rw [sd_cl_ok (n_secrets (IR_T hI)), if_neg (nI_ge (by omega) (by omega)), if_pos (by decide), ckz_b]
      rfl
    · obtain ⟨S1, e1, e2, e3, e4⟩ := IR_find hw hI (show s < ts σ.1 by omega)
      obtain ⟨S2, y1, y2, y3⟩ := ih n (s + 1) (agB (hF σ.1 s) s σ.2.1) S1 e3 (by omega) (by omega)
      refine ⟨S2, ?_, y2, frm_trans e4 y3 (fun _ h => h) (fun _ h => h)⟩
      unfold f_X12_holdAll_l4 allF
      rw [sd_cl_ok (n_secrets (IR_T hI)), if_neg (nI_ge (by omega) (by omega)), if_neg (by decide), sd_cl_ok e1, sd_cl_ok (n_areSo hw1 e3.1 hw.2.2.1 (BR_h e2) (hok_F hw1 (by omega)).2.2.2.1 (by omega)), nI_1, y1]
      rfl
theorem ag_holds : AG f_X11_holds f_X12_holds := by
  intro σ hw
  have hw1 := hw.1
  have h4 := hw1.2.2.2.2.1
  refine ⟨bI (allF σ.1 σ.2.1 0 (ts σ.1)), σ, hw, fun S h => ?_, fun S h => ?_⟩
  · obtain ⟨S1, e1, e2, e3, e4⟩ := IC_up hw h
    refine ⟨S1, ?_, e3, e4⟩
    unfold f_X11_holds
    rw [sd_cl_ok e1]
    exact m_holds_l hw e3 e2 (ts σ.1) sd_FU 0 (by omega) (by unfold sd_FU; omega)
  · obtain ⟨t1, t2⟩ := IR_thr h
    obtain ⟨S2, y1, y2, y3⟩ := n_holdAll_l hw (ts σ.1) sd_FU 0 true (sd_I S 130 0 0) t1 (by omega) (by unfold sd_FU; omega)
    refine ⟨S2, ?_, y2, frm_trans t2 y3 (fun _ h => h) (fun _ h => h)⟩
    unfold f_X12_holds f_X12_holdAll
    rw [sd_nm_eq]
    have y1 : f_X12_holdAll_l4 sd_FU 1 0 (sd_I S 130 0 0) = _ := y1
    rw [sd_cl_ok y1, Bool.true_and]
    cases allF σ.1 σ.2.1 0 (ts σ.1)
    · rfl
    · rfl
