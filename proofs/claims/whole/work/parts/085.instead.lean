/-! WITH ANOTHER BIRTHDAY: the reference, and both answers -/
theorem RTg_B {g g2 : Nat → Int32} {T : TW} (hw : wfT T) (h : RTg g T) {p d : Nat} (h1 : g2 (3 + 4 * p) = nI d) (hs : ∀ j, j < 97 → j ≠ 3 + 4 * p → g2 j = g j) (hp : p < tn T) : RTg g2 (setB T p d) := by
  have h12 := hw.1
  have ha12 := hw.2.2.1
  have h4 := hw.2.2.2.2.1
  obtain ⟨t1, t2, t3, t4, t5, t6, t7, t8⟩ := h
  refine ⟨by rw [hs 0 (by omega) (by omega)]; exact t1, by rw [hs 1 (by omega) (by omega)]; exact t2, by rw [hs 2 (by omega) (by omega)]; exact t3, fun q hq => ?_, by rw [hs 51 (by omega) (by omega)]; exact t5, fun i hi => ?_, by rw [hs 88 (by omega) (by omega)]; exact t7, fun s hs2 => ?_⟩
  · have hq : q < tn T := hq
    obtain ⟨a1, a2, a3, a4⟩ := t4 q hq
    refine ⟨?_, by rw [hs _ (by omega) (by omega)]; exact a2, by rw [hs _ (by omega) (by omega)]; exact a3, by rw [hs _ (by omega) (by omega)]; exact a4⟩
    show g2 (3 + 4 * q) = nI (if 1 = 1 ∧ q = p then d + 1 else T 1 q) - 1
    by_cases c : q = p
    · rw [if_pos ⟨rfl, c⟩, c, h1, nI_pred]
    · rw [if_neg (fun z => c z.2), hs _ (by omega) (by omega)]; exact a1
  · have hi : i < ta T := hi
    rw [hs _ (by omega) (by omega), hs _ (by omega) (by omega), hs _ (by omega) (by omega)]
    exact t6 i hi
  · have hs2 : s < ts T := hs2
    rw [hs _ (by omega) (by omega), hs _ (by omega) (by omega)]
    exact t8 s hs2
theorem RG_B {g g2 : Nat → Int32} {T : TW} {rp : Rp} (hw : wfT T) (hr : rp.length ≤ 16) (h : RG g T rp) {p d : Nat} (hp : p < tn T) (h1 : g2 (3 + 4 * p) = nI d) (hs : ∀ j, j < 170 → j ≠ 3 + 4 * p → g2 j = g j) : RG g2 (setB T p d) rp := by
  have h12 := hw.1
  obtain ⟨a1, a2, a3⟩ := h
  refine ⟨RTg_B hw a1 h1 (fun j hj hn => hs j (by omega) hn) hp, by rw [hs 97 (by omega) (by omega)]; exact a2, fun i w s t n hi => ?_⟩
  have hil : i < rp.length := (List.getElem?_eq_some_iff.mp hi).1
  rw [hs _ (by omega) (by omega), hs _ (by omega) (by omega), hs _ (by omega) (by omega), hs _ (by omega) (by omega)]
  exact a3 i w s t n hi
def frH (S S2 : sd_St) : Prop := frm (fun a => a = 130 ∨ (139 ≤ a ∧ a ≤ 141)) S S2 ∧ ∀ j, j ≠ 16 → S2.1 130 j = S.1 130 j
theorem frH_rfl {S : sd_St} : frH S S := ⟨frm_rfl, fun _ _ => rfl⟩
theorem frH_trans {S S2 S3 : sd_St} (h : frH S S2) (g : frH S2 S3) : frH S S3 := ⟨frm_trans h.1 g.1 (fun _ h => h) (fun _ h => h), fun j hj => (g.2 j hj).trans (h.2 j hj)⟩
theorem n_holdB_l {T : TW} (hw : wfT T) (hfull : fullT T) {rp : Rp} (hr : wfR T rp) : ∀ (m n s : Nat) (a : Bool) (S : sd_St), RG (S.1 136) T rp → s + m = ts T → m < n → ∃ S2, f_X12_holdAll_l4 n (bI a) (nI s) S = some (bI (a && allF T rp s m), S2) ∧ frH S S2 := by
  have h4 := hw.2.2.2.2.1
  intro m
  induction m with
  | zero =>
    intro n s a S hI hs hn
    obtain ⟨n, rfl⟩ : ∃ n', n = n' + 1 := ⟨n - 1, by omega⟩
    refine ⟨S, ?_, frH_rfl⟩
    unfold f_X12_holdAll_l4 allF
    rw [sd_cl_ok (n_secrets hI.1), if_pos (nI_le (by omega) (by omega)), ckz_b, Bool.and_true]
  | succ m ih =>
    intro n s a S hI hs hn
    obtain ⟨n, rfl⟩ : ∃ n', n = n' + 1 := ⟨n - 1, by omega⟩
    cases a
    · refine ⟨S, ?_, frH_rfl⟩
      unfold f_X12_holdAll_l4
      rw [sd_cl_ok (n_secrets hI.1), if_neg (nI_ge (by omega) (by omega)), if_pos (by decide), ckz_b]
      rfl
    · obtain ⟨S1, e1, e2, e3, e4⟩ := n_find hw hfull (show s < ts T by omega) hI.1
      have hI1 : RG (S1.1 136) T rp := by rw [e3.1 136 (by omega)]; exact hI
      obtain ⟨S2, y1, y2⟩ := ih n (s + 1) (agB (hF T s) s rp) S1 hI1 (by omega) (by omega)
      refine ⟨S2, ?_, frH_trans ⟨e3, e4⟩ y2⟩
      unfold f_X12_holdAll_l4 allF
      rw [sd_cl_ok (n_secrets hI.1), if_neg (nI_ge (by omega) (by omega)), if_neg (by decide), sd_cl_ok e1, sd_cl_ok (n_areSo hw hI1 hr (BR_h e2) (hok_F hw (by omega)).2.2.2.1 (by omega)), nI_1, y1]
      rfl
theorem n_holdB {T : TW} (hw : wfT T) (hfull : fullT T) {rp : Rp} (hr : wfR T rp) {S : sd_St} (hI : RG (S.1 136) T rp) : ∃ S2, f_X12_holdAll S = some (bI (holdsB T rp), S2) ∧ frH S S2 := by
  have h4 := hw.2.2.2.2.1
  obtain ⟨S2, y1, y2⟩ := n_holdB_l hw hfull hr (ts T) sd_FU 0 true S hI (by omega) (by unfold sd_FU; omega)
  rw [Bool.true_and, allF_holds hr] at y1
  exact ⟨S2, y1, y2⟩
/-- cells of the reference that a search may write -/
def frX (S S2 : sd_St) (p : Nat) : Prop := frm (fun a => a = 130 ∨ a = 136 ∨ (139 ≤ a ∧ a ≤ 141)) S S2 ∧ (∀ j, j ≠ 16 → S2.1 130 j = S.1 130 j) ∧ ∀ j, j ≠ 3 + 4 * p → S2.1 136 j = S.1 136 j
theorem n_ins_l {T : TW} (hw : wfT T) (hfull : fullT T) {rp : Rp} (hr : wfR T rp) {p : Nat} (hp : p < tn T) {S0 : sd_St} (hG : RG (S0.1 136) T rp) : ∀ (m n d : Nat) (S : sd_St), d + m = 366 → m < n → frX S0 S p → (∀ x, x < d → prB T rp p x = false) → ∃ S2, f_X12_findInstead_l11 n (nI p) (nI (tb T p) - 1) (-1 : Int32) (nI d) S = some (oI (insN T rp p), S2) ∧ frX S0 S2 p ∧ S2.1 136 (3 + 4 * p) = nI (tb T p) - 1 := by
  have h12 := hw.1
  obtain ⟨w1, -⟩ := hw.2.1 p hp
  have hend : ∀ (S : sd_St) (v : Int32), frX S0 S p → ∃ S2, f_X12_findInstead_b61 (nI p) (nI (tb T p) - 1) v S = some (v, S2) ∧ frX S0 S2 p ∧ S2.1 136 (3 + 4 * p) = nI (tb T p) - 1 := by
    intro S v hX
    refine ⟨sd_I S 136 (3 + 4 * p) (nI (tb T p) - 1), ?_, ⟨frm_trans hX.1 (frm_I (c := fun a => a = 136) rfl) (fun _ h => h) (fun a h => by omega), fun j hj => by rw [rI_cell (by decide)]; exact hX.2.1 j hj, fun j hj => by rw [rI_oth hj]; exact hX.2.2 j hj⟩, rI_same⟩
    unfold f_X12_findInstead_b61
    rw [ix4, sd_st_ok (by rw [al136]; omega) (sd_al_lt _)]
  intro m
  induction m with
  | zero =>
    intro n d S hd hn hX hno
    obtain ⟨n, rfl⟩ : ∃ n', n = n' + 1 := ⟨n - 1, by omega⟩
    unfold f_X12_findInstead_l11
    rw [if_pos (show (366 : Int32) ≤ nI d from nI_le (a := 366) (by omega) (by omega))]
    have : insN T rp p = none := fnd_no (fun x hx => hno x (by omega))
    rw [this]
    exact hend S (-1) hX
  | succ m ih =>
    intro n d S hd hn hX hno
    obtain ⟨n, rfl⟩ : ∃ n', n = n' + 1 := ⟨n - 1, by omega⟩
    have hd3 : d < 366 := by omega
    obtain ⟨S1, hS1⟩ : ∃ S1, S1 = sd_I S 136 (3 + 4 * p) (nI d) := ⟨_, rfl⟩
    have hX1 : frX S0 S1 p := by
      rw [hS1]
      exact ⟨frm_trans hX.1 (frm_I (c := fun a => a = 136) rfl) (fun _ h => h) (fun a h => by omega), fun j hj => by rw [rI_cell (by decide)]; exact hX.2.1 j hj, fun j hj => by rw [rI_oth hj]; exact hX.2.2 j hj⟩
    have hnext : prB T rp p d = false → ∀ x, x < d + 1 → prB T rp p x = false := fun h x hx => by
      by_cases c : x = d
      · rw [c]; exact h
      · exact hno x (by omega)
    unfold f_X12_findInstead_l11
    rw [if_neg (show ¬ (366 : Int32) ≤ nI d from nI_ge (b := 366) (by omega) (by decide)), if_neg (by decide), ix4, sd_st_ok (by rw [al136]; omega) (sd_al_lt _), ← hS1]
    by_cases c : tb T p = d + 1
    · rw [if_pos ((nI_sub1 (by omega) (by omega)).mpr c).symm]
      obtain ⟨S2, e1, e2, e3⟩ := ih n (d + 1) S1 (by omega) (by omega) hX1 (hnext (by unfold prB; rw [c]; simp))
      refine ⟨S2, ?_, e2, e3⟩
      unfold f_X12_findInstead_b53 f_X12_findInstead_b54
      rw [nI_1]
      exact e1
    · rw [if_neg (fun z => c ((nI_sub1 (by omega) (by omega)).mp z.symm))]
      have ec : (tb T p == d + 1) = false := by simpa using c
      have hG1 : RG (S1.1 136) (setB T p d) rp := RG_B hw hr.1 hG hp (by rw [hS1, rI_same]) (fun j _ hj => hX1.2.2 j hj)
      obtain ⟨S2, k1, k2⟩ := n_holdB (T := setB T p d) (wf_setB hw hd3) (full_set hfull) hr hG1
      have hX2 : frX S0 S2 p := ⟨frm_trans hX1.1 k2.1 (fun _ h => h) (fun a h => by omega), fun j hj => by rw [k2.2 j hj]; exact hX1.2.1 j hj, fun j hj => by rw [k2.1.1 136 (by omega)]; exact hX1.2.2 j hj⟩
      rw [sd_cl_ok k1]
      cases ch : holdsB (setB T p d) rp with
      | true =>
        rw [if_neg (by decide)]
        have hin : insN T rp p = some d := fnd_yes hd3 (by
          show prB T rp p d = true
          unfold prB
          rw [ec, ch]; rfl) hno
        rw [hin]
        unfold f_X12_findInstead_b54
        rw [nI_1]
        obtain ⟨n, rfl⟩ : ∃ n', n = n' + 1 := ⟨n - 1, by omega⟩
        unfold f_X12_findInstead_l11
        by_cases c3 : d + 1 = 366
        · rw [if_pos (show (366 : Int32) ≤ nI (d + 1) from nI_le (a := 366) (by omega) (by omega))]
          exact hend S2 (nI d) hX2
        · rw [if_neg (show ¬ (366 : Int32) ≤ nI (d + 1) from nI_ge (b := 366) (by omega) (by decide)), if_pos (nI_pos' (by omega))]
          exact hend S2 (nI d) hX2
      | false =>
        rw [if_pos (by decide)]
        obtain ⟨S3, e1, e2, e3⟩ := ih n (d + 1) S2 (by omega) (by omega) hX2 (hnext (by unfold prB; rw [ch, Bool.and_false]))
        refine ⟨S3, ?_, e2, e3⟩
        unfold f_X12_findInstead_b53 f_X12_findInstead_b54
        rw [nI_1]
        exact e1
theorem n_ins {S : sd_St} {σ : Sg} (hw : WF σ) (h : IR S σ) {p : Nat} (hp : p < tn σ.1) : ∃ S1, f_X12_findInstead (nI p) S = some (oI (insN σ.1 σ.2.1 p), S1) ∧ IR S1 σ ∧ frm hiC S S1 := by
  have hw1 := hw.1
  obtain ⟨S1, e1, e2, e3⟩ := n_ins_l hw1 hw.2.1 hw.2.2.1 hp h.1 366 sd_FU 0 S (by omega) (by unfold sd_FU; omega) ⟨frm_rfl, fun _ _ => rfl, fun _ _ => rfl⟩ (fun x hx => absurd hx (Nat.not_lt_zero x))
  have h136 : S1.1 136 = S.1 136 := by
    funext j
    by_cases c : j = 3 + 4 * p
    · rw [c, e3, ((IR_T h).2.2.2.1 p hp).1]
    · exact e2.2.2 j c
  refine ⟨S1, ?_, IR_fr h h136 (e2.1.1 154 (by omega)) (e2.2.1 2 (by decide)) (e2.1.1 131 (by omega)) (e2.1.2 135 (by omega)), frm_mono e2.1 (fun a ha => by unfold hiC; omega)⟩
  unfold f_X12_findInstead
  rw [sd_cl_ok (n_bornOf (IR_T h) hw1 hp)]
  exact e1
theorem ins_lt {T : TW} {rp : Rp} {p d : Nat} (h : insN T rp p = some d) : d < 366 := by
  have := List.mem_of_find?_eq_some h
  exact List.mem_range.mp this
theorem ag_instead (x1 : Int32) : AG (f_X11_instead x1) (f_X12_instead x1) := by
  intro σ hw
  have hw1 := hw.1
  rcases ix_or x1 (wf31 hw1).1 with ⟨p, hp, rfl⟩ | c1
  · refine ⟨oI (insN σ.1 σ.2.1 p), σ, hw, fun S h => ?_, fun S h => ?_⟩
    · obtain ⟨S1, e1, e2, e3⟩ := m_other hw h hp
      refine ⟨S1, ?_, e2, e3⟩
      unfold f_X11_instead
      rw [sd_cl_ok (m_isPerson (IC_T h) hw1 hp), if_neg (by decide), sd_cl_ok e1]
    · obtain ⟨t1, t2⟩ := IR_thr h
      obtain ⟨S1, e1, e2, e3⟩ := n_ins hw t1 hp
      refine ⟨S1, ?_, e2, frm_trans t2 e3 (fun _ h => h) (fun _ h => h)⟩
      unfold f_X12_instead
      rw [sd_nm_eq, sd_cl_ok (n_isPerson (IR_T t1) hw1 hp), if_neg (by decide), sd_cl_ok e1]
  · refine AG_none hw (v := -1) (fun S h => ?_) (fun S h => ?_)
    · unfold f_X11_instead
      rw [sd_cl_ok (m_isPerson_n (IC_T h) c1), if_pos rfl]
    · unfold f_X12_instead
      rw [sd_nm_eq, sd_cl_ok (n_isPerson_n (IR_T (IR_thr h).1) c1), if_pos rfl]
def insB (T : TW) (rp : Rp) : Nat → Bool := fun q => (insN T rp q).isSome
theorem m_wrong_l {σ : Sg} (hw : WF σ) : ∀ (m n p : Nat) (S : sd_St), p + m = tn σ.1 → m < n → IC S σ → ∃ S2, f_X11_wrong_l4 n (msk p (insB σ.1 σ.2.1)) (nI p) S = some (msk (tn σ.1) (insB σ.1 σ.2.1), S2) ∧ IC S2 σ ∧ frm loC S S2 := by
  have hw1 := hw.1
  have h12 := hw1.1
  intro m
  induction m with
  | zero =>
    intro n p S hp hn h
    obtain ⟨n, rfl⟩ : ∃ n', n = n' + 1 := ⟨n - 1, by omega⟩
    refine ⟨S, ?_, h, frm_rfl⟩
    unfold f_X11_wrong_l4
    rw [(IC_T h).1, if_pos (nI_le (by omega) (by omega)), show p = tn σ.1 by omega]
  | succ m ih =>
    intro n p S hp hn h
    obtain ⟨n, rfl⟩ : ∃ n', n = n' + 1 := ⟨n - 1, by omega⟩
    have hpn : p < tn σ.1 := by omega
    obtain ⟨S1, e1, e2, e3⟩ := m_other hw h hpn
    obtain ⟨S2, k1, k2, k3⟩ := ih n (p + 1) S1 (by omega) (by omega) e2
    refine ⟨S2, ?_, k2, frm_trans e3 k3 (fun _ h => h) (fun _ h => h)⟩
    unfold f_X11_wrong_l4 f_X11_wrong_b41
    rw [(IC_T h).1, if_neg (nI_ge hpn (by omega)), sd_cl_ok e1, sd_nm_eq, nI_1]
    rw [msk_succ] at k1
    cases ci : insN σ.1 σ.2.1 p with
    | none =>
      have cb : insB σ.1 σ.2.1 p = false := by unfold insB; rw [ci]; rfl
      rw [cb, cond_false] at k1
      rw [if_pos (show oI none = -1 from rfl)]
      exact k1
    | some d =>
      have cb : insB σ.1 σ.2.1 p = true := by unfold insB; rw [ci]; rfl
      rw [cb, cond_true] at k1
      have := ins_lt ci
      rw [if_neg (show ¬ oI (some d) = -1 from nI_neg1 (by omega))]
      exact k1
theorem n_wrong_l {σ : Sg} (hw : WF σ) : ∀ (m n p : Nat) (S : sd_St), p + m = tn σ.1 → m < n → IR S σ → ∃ S2, f_X12_wrong_l9 n (msk p (insB σ.1 σ.2.1)) (nI p) S = some (msk (tn σ.1) (insB σ.1 σ.2.1), S2) ∧ IR S2 σ ∧ frm hiC S S2 := by
  have hw1 := hw.1
  have h12 := hw1.1
  intro m
  induction m with
  | zero =>
    intro n p S hp hn h
    obtain ⟨n, rfl⟩ : ∃ n', n = n' + 1 := ⟨n - 1, by omega⟩
    refine ⟨S, ?_, h, frm_rfl⟩
    unfold f_X12_wrong_l9
    rw [sd_cl_ok (n_people (IR_T h)), if_pos (nI_le (by omega) (by omega)), show p = tn σ.1 by omega]
  | succ m ih =>
    intro n p S hp hn h
    obtain ⟨n, rfl⟩ : ∃ n', n = n' + 1 := ⟨n - 1, by omega⟩
    have hpn : p < tn σ.1 := by omega
    obtain ⟨S1, e1, e2, e3⟩ := n_ins hw h hpn
    obtain ⟨S2, k1, k2, k3⟩ := ih n (p + 1) S1 (by omega) (by omega) e2
    refine ⟨S2, ?_, k2, frm_trans e3 k3 (fun _ h => h) (fun _ h => h)⟩
    unfold f_X12_wrong_l9 f_X12_wrong_b33
    rw [sd_cl_ok (n_people (IR_T h)), if_neg (nI_ge hpn (by omega)), sd_cl_ok e1, sd_nm_eq, sd_nm_eq, nI_1]
    rw [msk_succ] at k1
    cases ci : insN σ.1 σ.2.1 p with
    | none =>
      have cb : insB σ.1 σ.2.1 p = false := by unfold insB; rw [ci]; rfl
      rw [cb, cond_false] at k1
      rw [if_pos (show oI none < 0 from by decide)]
      have : ∀ x : Int32, x ||| 0 = x := fun x => by apply hb_ext; intro q _; rw [hb_or, hb_0, Bool.or_false]
      rw [this]
      exact k1
    | some d =>
      have cb : insB σ.1 σ.2.1 p = true := by unfold insB; rw [ci]; rfl
      rw [cb, cond_true] at k1
      have := ins_lt ci
      rw [if_neg (show ¬ oI (some d) < 0 from nI_pos (by omega))]
      exact k1
theorem ag_wrong : AG f_X11_wrong f_X12_wrong := by
  intro σ hw
  have h12 := hw.1.1
  refine ⟨msk (tn σ.1) (insB σ.1 σ.2.1), σ, hw, fun S h => ?_, fun S h => ?_⟩
  · unfold f_X11_wrong
    exact m_wrong_l hw (tn σ.1) sd_FU 0 S (by omega) (by unfold sd_FU; omega) h
  · obtain ⟨t1, t2⟩ := IR_thr h
    obtain ⟨S1, e1, e2, e3⟩ := n_wrong_l hw (tn σ.1) sd_FU 0 (sd_I S 130 0 0) (by omega) (by unfold sd_FU; omega) t1
    refine ⟨S1, ?_, e2, frm_trans t2 e3 (fun _ h => h) (fun _ h => h)⟩
    unfold f_X12_wrong
    rw [sd_nm_eq]
    exact e1
