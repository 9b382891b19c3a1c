/-! WHAT BOTH OBJECTS HOLD: town, reports, marks, tape -/
abbrev Rp : Type := List (Nat × Nat × Nat × Bool)
abbrev Sg : Type := TW × Rp × (Nat → Option (Nat × Rp)) × List Nat
def bI (b : Bool) : Int32 := if b then 1 else 0
def wfR (T : TW) (rp : Rp) : Prop := rp.length ≤ 16 ∧ ∀ w s t n, (w, s, t, n) ∈ rp → w < tn T ∧ s < ts T ∧ t < 4392
def setZ (T : TW) (z : Nat) : TW := fun i j => if i = 13 ∧ j = 0 then z else T i j
def okC (c : Nat) : Prop := c = 10 ∨ (32 ≤ c ∧ c ≤ 126)
def WF (σ : Sg) : Prop := wfT σ.1 ∧ fullT σ.1 ∧ wfR σ.1 σ.2.1 ∧ (∀ m z r, σ.2.2.1 m = some (z, r) → z ≤ 1 ∧ wfR σ.1 r) ∧ σ.2.2.2.length ≤ 1000 ∧ ∀ c ∈ σ.2.2.2, okC c
/-- who calls on whom, in all -/
def pcs (T : TW) : Nat := ((List.range (tn T)).map (fun q => ((List.range 12).filter (fun p => (tc T q).testBit p)).length)).sum
def RC (k : Nat) (S : sd_St) (rp : Rp) : Prop := S.1 k 0 = nI rp.length ∧ ∀ i w s t n, rp[i]? = some (w, s, t, n) → S.1 (k + 1) i = nI w ∧ S.1 (k + 2) i = nI s ∧ S.1 (k + 3) i = nI t ∧ S.1 (k + 4) i = bI n
/-- all reports hold -/
def holdsB (T : TW) (rp : Rp) : Bool := rp.all (fun r => decide (hF T r.2.1 r.1 ≤ r.2.2.1) == r.2.2.2)
def setB (T : TW) (p d : Nat) : TW := fun i j => if i = 1 ∧ j = p then d + 1 else T i j
/-- the first other birthday with which all reports hold -/
def insN (T : TW) (rp : Rp) (p : Nat) : Option Nat := (List.range 366).find? (fun d => !(tb T p == d + 1) && holdsB (setB T p d) rp)
def oI (o : Option Nat) : Int32 := match o with
  | none => -1
  | some d => nI d
def OC (S : sd_St) (T : TW) (rp : Rp) : Prop := ∀ p, p < 12 → S.1 129 p = -2 ∨ (p < tn T ∧ S.1 129 p = oI (insN T rp p))
def CTX (S : sd_St) (T : TW) : Prop := CT 17 S T ∧ (∀ p, p < tn T → ∀ q, hb (S.1 22 p) q = (decide (q < tn T) && (tc T q).testBit p)) ∧ S.1 17 6 = nI (pcs T)
def MKc (S : sd_St) (mk : Nat → Option (Nat × Rp)) : Prop := ∀ m, m < 4 → (mk m = none ∧ S.1 78 m = 0) ∨ ∃ z r, mk m = some (z, r) ∧ S.1 78 m = 1 ∧ S.1 79 m = nI z ∧ RC (81 + 5 * m) S r
def TPc (S : sd_St) (tp : List Nat) : Prop := S.1 13 1 = nI tp.length ∧ ∀ i c, tp[i]? = some c → S.1 14 i = nI c
def IC (S : sd_St) (σ : Sg) : Prop := CTX S σ.1 ∧ RC 72 S σ.2.1 ∧ MKc S σ.2.2.1 ∧ TPc S σ.2.2.2 ∧ CC S σ.1 ∧ OC S σ.1 σ.2.1
/-- the reference -/
def RG (g : Nat → Int32) (T : TW) (rp : Rp) : Prop := RTg g T ∧ g 97 = nI rp.length ∧ ∀ i w s t n, rp[i]? = some (w, s, t, n) → g (98 + 4 * i) = nI w ∧ g (98 + 4 * i + 1) = nI s ∧ g (98 + 4 * i + 2) = nI t ∧ g (98 + 4 * i + 3) = bI n
def wdsL : List Int64 := [614734, 1119812451, 122521, 710997, 12777, 5690027, 569, 82202, 329128, 755, 1327082794, 1178088, 16488, 26306908]
def IR (S : sd_St) (σ : Sg) : Prop := RG (S.1 136) σ.1 σ.2.1 ∧ (∀ m, m < 4 → (σ.2.2.1 m = none ∧ S.1 154 m = 0) ∨ ∃ z r, σ.2.2.1 m = some (z, r) ∧ S.1 154 m = 1 ∧ RG (fun j => S.1 136 (170 * (2 + m) + j)) (setZ σ.1 z) r) ∧ (S.1 130 2 = nI σ.2.2.2.length ∧ ∀ i c, σ.2.2.2[i]? = some c → S.1 131 i = nI c) ∧ ∀ i, i < 14 → S.2 135 i = wdsL.getD i 0
def loC (a : Nat) : Prop := a < 130
def hiC (a : Nat) : Prop := 130 ≤ a
/-- class and reference answer alike, and hold the same behind it -/
def AG (fx fm : sd_St → Option (Int32 × sd_St)) : Prop := ∀ σ, WF σ → ∃ v σ2, WF σ2 ∧ (∀ S, IC S σ → ∃ S1, fx S = some (v, S1) ∧ IC S1 σ2 ∧ frm loC S S1) ∧ ∀ S, IR S σ → ∃ S1, fm S = some (v, S1) ∧ IR S1 σ2 ∧ frm hiC S S1
theorem RC_fr {k : Nat} {S S2 : sd_St} {rp : Rp} (h : RC k S rp) (hs : ∀ a, k ≤ a → a ≤ k + 4 → S2.1 a = S.1 a) : RC k S2 rp := by
  unfold RC at h ⊢
  rw [hs k (by omega) (by omega), hs (k + 1) (by omega) (by omega), hs (k + 2) (by omega) (by omega), hs (k + 3) (by omega) (by omega), hs (k + 4) (by omega) (by omega)]
  exact h
theorem MKc_fr {S S2 : sd_St} {mk : Nat → Option (Nat × Rp)} (h : MKc S mk) (hs : ∀ a, 78 ≤ a → a ≤ 100 → S2.1 a = S.1 a) : MKc S2 mk := by
  intro m hm
  rcases h m hm with ⟨h1, h2⟩ | ⟨z, r, h1, h2, h3, h4⟩
  · exact Or.inl ⟨h1, by rw [hs 78 (by omega) (by omega)]; exact h2⟩
  · exact Or.inr ⟨z, r, h1, by rw [hs 78 (by omega) (by omega)]; exact h2, by rw [hs 79 (by omega) (by omega)]; exact h3, RC_fr h4 (fun a h1 h2 => hs a (by omega) (by omega))⟩
theorem CTX_fr {S S2 : sd_St} {T : TW} (h : CTX S T) (hs : ∀ a, 17 ≤ a → a ≤ 27 → S2.1 a = S.1 a) : CTX S2 T := by
  obtain ⟨h1, h2, h3⟩ := h
  refine ⟨CT_fr h1 (fun a g1 g2 => hs a (by omega) (by omega)), ?_, ?_⟩
  · rw [hs 22 (by omega) (by omega)]; exact h2
  · rw [hs 17 (by omega) (by omega)]; exact h3
theorem UP_fr {S S2 : sd_St} {T : TW} (hw : wfT T) (h : UP S T) (h0 : S2.1 0 11 = S.1 0 11) (hs : ∀ a, 28 ≤ a → a ≤ 53 → S2.1 a = S.1 a) : UP S2 T := by
  have h4 := hw.2.2.2.2.1
  obtain ⟨h1, h2, h3⟩ := h
  refine ⟨by rw [h0]; exact h1, DR_fr h2 (by rw [hs 28 (by omega) (by omega)]) (fun a g1 g2 => hs a (by omega) (by omega)), fun s hs2 => ?_⟩
  obtain ⟨q1, q2⟩ := h3 s hs2
  exact ⟨RM_fr q1 (hs _ (by omega) (by omega)) (hs _ (by omega) (by omega)), TR_fr q2 (fun a g1 g2 => hs a (by omega) (by omega))⟩
theorem CC_fr {S S2 : sd_St} {T : TW} (hw : wfT T) (h : CC S T) (h0 : S2.1 0 11 = S.1 0 11) (hs : ∀ a, 28 ≤ a → a ≤ 53 → S2.1 a = S.1 a) : CC S2 T := by
  rcases h with h | h
  · exact Or.inl (by rw [h0]; exact h)
  · exact Or.inr (UP_fr hw h h0 hs)
/-- cells that hold what is held -/
def keepC (a : Nat) : Prop := a = 13 ∨ a = 14 ∨ (17 ≤ a ∧ a ≤ 27) ∨ (72 ≤ a ∧ a ≤ 100) ∨ a = 129
theorem IC_fr {S S2 : sd_St} {σ : Sg} (h : IC S σ) (hs : ∀ a, keepC a → S2.1 a = S.1 a) (hC : CC S2 σ.1) : IC S2 σ := by
  obtain ⟨h1, h2, h3, h4, -, h6⟩ := h
  unfold keepC at hs
  refine ⟨CTX_fr h1 (fun a g1 g2 => hs a (by omega)), RC_fr h2 (fun a g1 g2 => hs a (by omega)), MKc_fr h3 (fun a g1 g2 => hs a (by omega)), ?_, hC, ?_⟩
  · unfold TPc at h4 ⊢
    rw [hs 13 (by omega), hs 14 (by omega)]
    exact h4
  · unfold OC at h6 ⊢
    rw [hs 129 (by omega)]
    exact h6
theorem IR_fr {S S2 : sd_St} {σ : Sg} (h : IR S σ) (h1 : S2.1 136 = S.1 136) (h2 : S2.1 154 = S.1 154) (h3 : S2.1 130 2 = S.1 130 2) (h4 : S2.1 131 = S.1 131) (h5 : S2.2 135 = S.2 135) : IR S2 σ := by
  unfold IR at h ⊢
  rw [h1, h2, h3, h4, h5]
  exact h
theorem IC_T {S : sd_St} {σ : Sg} (h : IC S σ) : CT 17 S σ.1 := h.1.1
theorem IR_T {S : sd_St} {σ : Sg} (h : IR S σ) : RTg (S.1 136) σ.1 := h.1.1
/-- the class up to date -/
theorem IC_up {S : sd_St} {σ : Sg} (hw : WF σ) (h : IC S σ) : ∃ S2, f_X11_bringUpToDate S = some ((), S2) ∧ UP S2 σ.1 ∧ IC S2 σ ∧ frm loC S S2 := by
  obtain ⟨S2, e1, e2, e3, e4, e5⟩ := m_up hw.1 (IC_T h) h.2.2.2.2.1
  refine ⟨S2, e1, e2, IC_fr h (fun a ha => e4.1 a (by unfold keepC at ha; omega)) (Or.inr e2), frm_mono e4 (fun a ha => by unfold loC; omega)⟩
/-- the reference's find, with what is held -/
theorem IR_find {S : sd_St} {σ : Sg} (hw : WF σ) (h : IR S σ) {s : Nat} (hs : s < ts σ.1) : ∃ S2, f_X12_find_ (nI s) S = some ((), S2) ∧ BR S2 σ.1 (hF σ.1 s, (zF σ.1 s).1) ∧ IR S2 σ ∧ frm hiC S S2 := by
  obtain ⟨S2, e1, e2, e3, e4⟩ := n_find hw.1 hw.2.1 hs (IR_T h)
  exact ⟨S2, e1, e2, IR_fr h (e3.1 136 (by omega)) (e3.1 154 (by omega)) (e4 2 (by decide)) (e3.1 131 (by omega)) (e3.2 135 (by omega)), frm_mono e3 (fun a ha => by unfold hiC; omega)⟩
/-- the reference's 'thrown' -/
theorem IR_thr {S : sd_St} {σ : Sg} (h : IR S σ) : IR (sd_I S 130 0 0) σ ∧ frm hiC S (sd_I S 130 0 0) :=
  ⟨IR_fr h (rI_cell (by decide)) (rI_cell (by decide)) (rI_oth (by decide)) (rI_cell (by decide)) rfl, frm_I (by unfold hiC; omega)⟩
theorem AG_none {fx fm : sd_St → Option (Int32 × sd_St)} {σ : Sg} (hw : WF σ) {v : Int32} (hx : ∀ S, IC S σ → fx S = some (v, S)) (hm : ∀ S, IR S σ → fm S = some (v, sd_I S 130 0 0)) : ∃ v σ2, WF σ2 ∧ (∀ S, IC S σ → ∃ S1, fx S = some (v, S1) ∧ IC S1 σ2 ∧ frm loC S S1) ∧ ∀ S, IR S σ → ∃ S1, fm S = some (v, S1) ∧ IR S1 σ2 ∧ frm hiC S S1 :=
  ⟨v, σ, hw, fun S h => ⟨S, hx S h, h, frm_rfl⟩, fun S h => ⟨_, hm S h, (IR_thr h).1, (IR_thr h).2⟩⟩
theorem wf31 {T : TW} (hw : wfT T) : tn T < 2 ^ 31 ∧ ts T < 2 ^ 31 := by
  have h1 := hw.1
  have h2 := hw.2.2.2.2.1
  omega
/-! soonest, by, hands -/
theorem ag_soonest (x1 x2 : Int32) : AG (f_X11_soonest x1 x2) (f_X12_soonest x1 x2) := by
  intro σ hw
  have hw1 := hw.1
  have h4 := hw1.2.2.2.2.1
  have h12 := hw1.1
  rcases ix_or x1 (wf31 hw1).2 with ⟨s, hs, rfl⟩ | c1
  · rcases ix_or x2 (wf31 hw1).1 with ⟨p, hp, rfl⟩ | c2
    · refine ⟨hadI (hF σ.1 s) p, σ, hw, fun S h => ?_, fun S h => ?_⟩
      · obtain ⟨S1, e1, e2, e3, e4⟩ := IC_up hw h
        refine ⟨S1, ?_, e3, e4⟩
        unfold f_X11_soonest
        rw [sd_cl_ok (m_isSecret (IC_T h) hw1 hs), if_neg (by decide), sd_cl_ok (m_isPerson (IC_T h) hw1 hp), if_neg (by decide), sd_cl_ok e1, rum_ix (by omega), sd_cl_ok (m_had (kd_r (by omega)) (e2.2.2 s hs).1 (hok_F hw1 hs) (by omega) (by have := (hw1.2.2.2.2.2.1 s hs).1; omega))]
      · obtain ⟨t1, t2⟩ := IR_thr h
        obtain ⟨S1, e1, e2, e3, e4⟩ := IR_find hw t1 hs
        refine ⟨S1, ?_, e3, frm_trans t2 e4 (fun _ h => h) (fun _ h => h)⟩
        unfold f_X12_soonest hadI
        obtain ⟨q1, -⟩ := e2 p hp
        dsimp only at q1
        rw [sd_nm_eq, sd_cl_ok (n_areThere (IR_T t1) hw1 hs hp), if_neg (by decide), sd_cl_ok e1, sd_ld_ok (by rw [al140]; omega) (sd_al_lt _), sd_ld_ok (by rw [al140]; omega) (sd_al_lt _), q1]
        have hv := (hok_F hw1 hs).2.2.2.1 p
        by_cases c : hF σ.1 s p = FARN
        · rw [if_pos (show nI (hF σ.1 s p) = (1000000 : Int32) by rw [c]; rfl), if_pos c]
        · rw [if_neg (show ¬ nI (hF σ.1 s p) = (1000000 : Int32) from fun z => c (nI_inj (b := FARN) (by rcases hv with g | g <;> omega) (by decide) z)), if_neg c]
    · refine AG_none hw (v := -1) (fun S h => ?_) (fun S h => ?_)
      · unfold f_X11_soonest
        rw [sd_cl_ok (m_isSecret (IC_T h) hw1 hs), if_neg (by decide), sd_cl_ok (m_isPerson_n (IC_T h) c2), if_pos rfl]
      · unfold f_X12_soonest
        rw [sd_nm_eq, sd_cl_ok (n_areThere_n (IR_T (IR_thr h).1) hw1 (Or.inr c2)), if_pos rfl]
  · refine AG_none hw (v := -1) (fun S h => ?_) (fun S h => ?_)
    · unfold f_X11_soonest
      rw [sd_cl_ok (m_isSecret_n (IC_T h) c1), if_pos rfl]
    · unfold f_X12_soonest
      rw [sd_nm_eq, sd_cl_ok (n_areThere_n (IR_T (IR_thr h).1) hw1 (Or.inl c1)), if_pos rfl]
theorem ag_by (x1 x2 : Int32) : AG (f_X11_by x1 x2) (f_X12_by x1 x2) := by
  intro σ hw
  have hw1 := hw.1
  have h4 := hw1.2.2.2.2.1
  have h12 := hw1.1
  rcases ix_or x1 (wf31 hw1).2 with ⟨s, hs, rfl⟩ | c1
  · rcases ix_or x2 (wf31 hw1).1 with ⟨p, hp, rfl⟩ | c2
    · refine ⟨nI ((zF σ.1 s).1 p) - 1, σ, hw, fun S h => ?_, fun S h => ?_⟩
      · obtain ⟨S1, e1, e2, e3, e4⟩ := IC_up hw h
        refine ⟨S1, ?_, e3, e4⟩
        have hal := al5 (kd_r (s := s) (by omega))
        unfold f_X11_by
        rw [sd_cl_ok (m_isSecret (IC_T h) hw1 hs), if_neg (by decide), sd_cl_ok (m_isPerson (IC_T h) hw1 hp), if_neg (by decide), sd_cl_ok e1, rum_ix (by omega), sd_ld_ok (by omega) (sd_al_lt _), ((e2.2.2 s hs).2 p (by omega)).1]
      · obtain ⟨t1, t2⟩ := IR_thr h
        obtain ⟨S1, e1, e2, e3, e4⟩ := IR_find hw t1 hs
        refine ⟨S1, ?_, e3, frm_trans t2 e4 (fun _ h => h) (fun _ h => h)⟩
        unfold f_X12_by
        obtain ⟨-, q1⟩ := e2 p hp
        dsimp only at q1
        rw [sd_nm_eq, sd_cl_ok (n_areThere (IR_T t1) hw1 hs hp), if_neg (by decide), sd_cl_ok e1, sd_ld_ok (by rw [al141]; omega) (sd_al_lt _), q1]
    · refine AG_none hw (v := -1) (fun S h => ?_) (fun S h => ?_)
      · unfold f_X11_by
        rw [sd_cl_ok (m_isSecret (IC_T h) hw1 hs), if_neg (by decide), sd_cl_ok (m_isPerson_n (IC_T h) c2), if_pos rfl]
      · unfold f_X12_by
        rw [sd_nm_eq, sd_cl_ok (n_areThere_n (IR_T (IR_thr h).1) hw1 (Or.inr c2)), if_pos rfl]
  · refine AG_none hw (v := -1) (fun S h => ?_) (fun S h => ?_)
    · unfold f_X11_by
      rw [sd_cl_ok (m_isSecret_n (IC_T h) c1), if_pos rfl]
    · unfold f_X12_by
      rw [sd_nm_eq, sd_cl_ok (n_areThere_n (IR_T (IR_thr h).1) hw1 (Or.inl c1)), if_pos rfl]
