/-! hands -/
theorem tels_in {T : TW} {b : Nat} {h : Nat → Nat} {l q e : Nat} (he : e ∈ tels T b h l q) : e < tn T ∧ tellsB b h e l = true ∧ guestB T l e q = true ∧ freeB T e l = true := by
  unfold tels at he
  obtain ⟨h1, h2⟩ := List.mem_filter.mp he
  unfold tlB at h2
  rw [Bool.and_eq_true, Bool.and_eq_true] at h2
  exact ⟨List.mem_range.mp h1, h2.2.1, h2.2.2, h2.1⟩
theorem hdt_succ (T : TW) (b f l q : Nat) : hdt T b f (l + 1) q = cond (hdt T b f l q == FARN && (List.range (tn T)).any (fun e => freeB T e l && (guestB T l e q && tellsB b (hdt T b f l) e l))) l (hdt T b f l q) := rfl
def tlN (T : TW) (b : Nat) (h : Nat → Nat) : Prop := ∀ q, q ≠ b → h q ≠ FARN → tels T b h (h q) q ≠ []
theorem tels_ne {T : TW} {b f : Nat} (hf : f < 4392) {h : Nat → Nat} (hd : hdt T b f 4392 = h) (hh : ∀ q, h q = FARN ∨ h q < 4392) : tlN T b h := by
  intro q hq hFn
  have hv : h q < 4392 := by
    rcases hh q with g | g
    · exact absurd g hFn
    · exact g
  have h1 : hdt T b f (h q + 1) q = h q := hd_back hq (by rw [hd]) hFn (h q + 1) (by omega) (by omega)
  have h0' : hdt T b f (h q) q = FARN := by
    rcases hd_val (T := T) (b := b) (f := f) (h q) q hq with g | g
    · exact g
    · have k := hd_keep2 (T := T) (b := b) (f := f) (q := q) (show h q ≤ 4392 by omega) (by intro z; rw [z] at g; unfold FARN at g; omega)
      rw [hd] at k
      rw [← k] at g
      exact absurd g (Nat.lt_irrefl _)
  have e := hdt_succ T b f (h q) q
  rw [h1, h0'] at e
  cases hany : (List.range (tn T)).any (fun e => freeB T e (h q) && (guestB T (h q) e q && tellsB b (hdt T b f (h q)) e (h q))) with
  | false =>
    rw [hany, Bool.and_false, cond_false] at e
    exact absurd e hFn
  | true =>
    rw [List.any_eq_true] at hany
    obtain ⟨x, g1, g2⟩ := hany
    rw [Bool.and_eq_true, Bool.and_eq_true, tells_fin hf (by omega), hd] at g2
    intro hnil
    have : x ∈ tels T b h (h q) q := by
      unfold tels
      exact List.mem_filter.mpr ⟨g1, by unfold tlB; rw [g2.1, g2.2.1, g2.2.2]; rfl⟩
    rw [hnil] at this
    cases this
def zsp (T : TW) (b : Nat) (h : Nat → Nat) (Z : Z3) : Prop := Z.1 b = 0 ∧ Z.2.1 b = 1 ∧ Z.2.2 b = 1 ∧ (∀ q, q ≠ b → h q = FARN → Z.1 q = 0 ∧ Z.2.1 q = 0 ∧ Z.2.2 q = 0) ∧
    ∀ q, q ≠ b → h q ≠ FARN → Z.1 q = ((tels T b h (h q) q).head?.map (· + 1)).getD 0 ∧ Z.2.1 q = ((tels T b h (h q) q).head?.map (fun e => Z.2.1 e + 1)).getD 0 ∧ Z.2.2 q = (tels T b h (h q) q).foldl (fun a e => (a + Z.2.2 e) % MDN) 0
theorem zF_sp {T : TW} (hw : wfT T) {s : Nat} (hs : s < ts T) : zsp T (tg T s) (hF T s) (zF T s) := by
  have := zt_spec (hok_F hw hs)
  unfold zF
  exact this
theorem tlN_F {T : TW} (hw : wfT T) {s : Nat} (hs : s < ts T) : tlN T (tg T s) (hF T s) := by
  obtain ⟨w1, w2⟩ := hw.2.2.2.2.2.1 s hs
  have hh := hok_F hw hs
  unfold hF at hh ⊢
  exact tels_ne w2 rfl hh.2.2.2.1
def mu (b : Nat) (h : Nat → Nat) (q : Nat) : Nat := if q = b then 0 else h q + 1
/-- teller, tellings: one step back -/
theorem zF_step {T : TW} {b f : Nat} {h : Nat → Nat} {Z : Z3} (hh : hok T b f h) (hz : zsp T b h Z) (hn : tlN T b h) {q : Nat} (hq : q ≠ b) (hF1 : h q ≠ FARN) : ∃ e, e < tn T ∧ Z.1 q = e + 1 ∧ Z.2.1 q = Z.2.1 e + 1 ∧ mu b h e < mu b h q ∧ (e = b ∨ h e ≠ FARN) := by
  obtain ⟨-, -, -, -, z5⟩ := hz
  obtain ⟨a1, a2, -⟩ := z5 q hq hF1
  have hne := hn q hq hF1
  have hhv := hh.2.2.2.1 q
  cases hA : tels T b h (h q) q with
  | nil => exact absurd hA hne
  | cons e es =>
    have hin := tels_in (show e ∈ tels T b h (h q) q by rw [hA]; exact List.mem_cons_self)
    rw [hA] at a1 a2
    refine ⟨e, hin.1, a1, a2, ?_, ?_⟩
    · unfold mu
      rw [if_neg hq]
      have := hin.2.1
      unfold tellsB at this
      by_cases c : e = b
      · rw [if_pos c]; omega
      · rw [if_neg c]
        rw [if_neg c] at this
        have : h e < h q := by simpa using this
        omega
    · have := hin.2.1
      unfold tellsB at this
      by_cases c : e = b
      · exact Or.inl c
      · rw [if_neg c] at this
        have : h e < h q := by simpa using this
        right
        rcases hhv with g | g
        · exact absurd g hF1
        · unfold FARN; omega
theorem hn_pos {T : TW} {b f : Nat} {h : Nat → Nat} {Z : Z3} (hh : hok T b f h) (hz : zsp T b h Z) (hn : tlN T b h) : ∀ M q, mu b h q ≤ M → (q = b ∨ h q ≠ FARN) → 0 < Z.2.1 q ∧ Z.2.1 q ≤ mu b h q + 1 := by
  have z2 := hz.2.1
  intro M
  induction M with
  | zero =>
    intro q hq h
    have : q = b := by
      unfold mu at hq
      by_cases c : q = b
      · exact c
      · rw [if_neg c] at hq; omega
    subst this
    rw [z2]
    omega
  | succ M ih =>
    intro q hq h
    by_cases c : q = b
    · subst c
      rw [z2]
      omega
    · have hF1 := h.resolve_left c
      obtain ⟨e, -, -, e2, e3, e4⟩ := zF_step hh hz hn c hF1
      have := ih e (by omega) e4
      rw [e2]
      omega
theorem n_hands_l {S : sd_St} {T : TW} (hw : wfT T) {b f : Nat} {h : Nat → Nat} {Z : Z3} (hh : hok T b f h) (hz : zsp T b h Z) (hnn : tlN T b h) (hB : BR S T (h, Z.1)) {p : Nat} (hp : p < tn T) : ∀ (M n q c : Nat), mu b h q ≤ M → M < n → q < tn T → (q = b ∨ h q ≠ FARN) → c + M < 2 ^ 29 → f_X12_hands_l26 n (nI p) (nI c) (nI q) S = some (if h p = FARN then -1 else nI (c + (Z.2.1 q - 1)), S) := by
  have h12 := hw.1
  have z1 := hz.1
  have z2 := hz.2.1
  have hend : ∀ n q c, q < tn T → q = b → f_X12_hands_l26 (n + 1) (nI p) (nI c) (nI q) S = some (if h p = FARN then -1 else nI (c + (Z.2.1 q - 1)), S) := by
    intro n q c hq hqb
    subst hqb
    obtain ⟨-, q2⟩ := hB _ hq
    obtain ⟨q3, -⟩ := hB p hp
    dsimp only at q2 q3
    unfold f_X12_hands_l26
    rw [sd_ld_ok (by rw [al141]; omega) (sd_al_lt _), q2, z1, if_pos (by decide), sd_ld_ok (by rw [al140]; omega) (sd_al_lt _), q3, z2]
    have hv := hh.2.2.2.1 p
    by_cases c1 : h p = FARN
    · rw [if_pos (show nI (h p) = (1000000 : Int32) by rw [c1]; rfl), if_pos c1]
    · rw [if_neg (show ¬ nI (h p) = (1000000 : Int32) from fun z => c1 (nI_inj (b := FARN) (by rcases hv with g | g <;> omega) (by decide) z)), if_neg c1]
      rfl
  intro M
  induction M with
  | zero =>
    intro n q c hm hn hq h _
    obtain ⟨n, rfl⟩ : ∃ n', n = n' + 1 := ⟨n - 1, by omega⟩
    have : q = b := by
      unfold mu at hm
      by_cases c : q = b
      · exact c
      · rw [if_neg c] at hm; omega
    exact hend n q c hq this
  | succ M ih =>
    intro n q c hm hn hq h hc
    obtain ⟨n, rfl⟩ : ∃ n', n = n' + 1 := ⟨n - 1, by omega⟩
    by_cases cb : q = b
    · exact hend n q c hq cb
    · have hF1 := h.resolve_left cb
      obtain ⟨e, e0, e1, e2, e3, e4⟩ := zF_step hh hz hnn cb hF1
      obtain ⟨-, q2⟩ := hB _ hq
      dsimp only at q2
      rw [e1, nI_pred] at q2
      unfold f_X12_hands_l26
      rw [sd_ld_ok (by rw [al141]; omega) (sd_al_lt _), q2, if_neg (nI_pos (by omega)), sd_ld_ok (by rw [al141]; omega) (sd_al_lt _), q2, nI_1, ih n e (c + 1) (by omega) (by omega) e0 e4 (by omega), e2]
      have := (hn_pos hh hz hnn _ e (Nat.le_refl _) e4).1
      rw [show c + 1 + (Z.2.1 e - 1) = c + (Z.2.1 e + 1 - 1) by omega]
theorem n_hands_w {S1 : sd_St} {T : TW} (hw1 : wfT T) {b f : Nat} {h : Nat → Nat} {Z : Z3} (hh : hok T b f h) (hz : zsp T b h Z) (hnn : tlN T b h) (e2 : BR S1 T (h, Z.1)) {p : Nat} (hp : p < tn T) : f_X12_hands_l26 sd_FU (nI p) (0 : Int32) (nI p) S1 = some (nI (Z.2.1 p) - 1, S1) := by
  have h12 := hw1.1
  have z4 := hz.2.2.2.1
  by_cases c : p = b ∨ h p ≠ FARN
  · have hmu : mu b h p ≤ 4392 := by
      unfold mu
      by_cases cb : p = b
      · rw [if_pos cb]; omega
      · rw [if_neg cb]
        have := hh.2.2.2.1 p
        rcases c with c | c
        · exact absurd c cb
        · rcases this with g | g
          · exact absurd g c
          · omega
    have hpF : h p ≠ FARN := by
      rcases c with c | c
      · rw [c, hh.2.2.1]
        have := hh.2.1
        unfold FARN
        omega
      · exact c
    have := n_hands_l hw1 hh hz hnn e2 hp 4392 sd_FU p 0 hmu (by unfold sd_FU; omega) hp c (by decide)
    rw [show (0 : Int32) = nI 0 from rfl, this, if_neg hpF]
    have hpos := (hn_pos hh hz hnn _ p (Nat.le_refl _) c).1
    rw [nI_s1 hpos, Nat.zero_add]
  · have c1 : p ≠ b := fun z => c (Or.inl z)
    have c2 : h p = FARN := by
      apply Classical.byContradiction
      intro z
      exact c (Or.inr z)
    obtain ⟨y1, y2, -⟩ := z4 p c1 c2
    obtain ⟨q1, q2⟩ := e2 p hp
    dsimp only at q1 q2
    rw [y2]
    show f_X12_hands_l26 (19999 + 1) (nI p) (0 : Int32) (nI p) S1 = _
    unfold f_X12_hands_l26
    rw [sd_ld_ok (by rw [al141]; omega) (sd_al_lt _), q2, y1, if_pos (by decide), sd_ld_ok (by rw [al140]; omega) (sd_al_lt _), q1, if_pos (show nI (h p) = (1000000 : Int32) by rw [c2]; rfl)]
    rfl
theorem ag_hands (x1 x2 : Int32) : AG (f_X11_hands x1 x2) (f_X12_hands x1 x2) := by
  intro σ hw
  have hw1 := hw.1
  have h4 := hw1.2.2.2.2.1
  have h12 := hw1.1
  rcases ix_or x1 (wf31 hw1).2 with ⟨s, hs, rfl⟩ | c1
  · rcases ix_or x2 (wf31 hw1).1 with ⟨p, hp, rfl⟩ | c2
    · refine ⟨nI ((zF σ.1 s).2.1 p) - 1, σ, hw, fun S h => ?_, fun S h => ?_⟩
      · obtain ⟨S1, e1, e2, e3, e4⟩ := IC_up hw h
        refine ⟨S1, ?_, e3, e4⟩
        have hal := al5 (kd_r (s := s) (by omega))
        unfold f_X11_hands
        rw [sd_cl_ok (m_isSecret (IC_T h) hw1 hs), if_neg (by decide), sd_cl_ok (m_isPerson (IC_T h) hw1 hp), if_neg (by decide), sd_cl_ok e1, rum_ix (by omega), sd_ld_ok (by omega) (sd_al_lt _), ((e2.2.2 s hs).2 p (by omega)).2.1]
      · obtain ⟨t1, t2⟩ := IR_thr h
        obtain ⟨S1, e1, e2, e3, e4⟩ := IR_find hw t1 hs
        refine ⟨S1, ?_, e3, frm_trans t2 e4 (fun _ h => h) (fun _ h => h)⟩
        unfold f_X12_hands
        rw [sd_nm_eq, sd_cl_ok (n_areThere (IR_T t1) hw1 hs hp), if_neg (by decide), sd_cl_ok e1]
        exact n_hands_w hw1 (hok_F hw1 hs) (zF_sp hw1 hs) (tlN_F hw1 hs) e2 hp
    · refine AG_none hw (v := -1) (fun S h => ?_) (fun S h => ?_)
      · unfold f_X11_hands
        rw [sd_cl_ok (m_isSecret (IC_T h) hw1 hs), if_neg (by decide), sd_cl_ok (m_isPerson_n (IC_T h) c2), if_pos rfl]
      · unfold f_X12_hands
        rw [sd_nm_eq, sd_cl_ok (n_areThere_n (IR_T (IR_thr h).1) hw1 (Or.inr c2)), if_pos rfl]
  · refine AG_none hw (v := -1) (fun S h => ?_) (fun S h => ?_)
    · unfold f_X11_hands
      rw [sd_cl_ok (m_isSecret_n (IC_T h) c1), if_pos rfl]
    · unfold f_X12_hands
      rw [sd_nm_eq, sd_cl_ok (n_areThere_n (IR_T (IR_thr h).1) hw1 (Or.inl c1)), if_pos rfl]
/-! sets of persons -/
def msk (n : Nat) (P : Nat → Bool) : Int32 := (List.range n).foldl (fun x q => cond (P q) (x ||| ((1 : Int32) <<< (nI q &&& 31))) x) 0
theorem msk_succ (n : Nat) (P : Nat → Bool) : msk (n + 1) P = cond (P n) (msk n P ||| ((1 : Int32) <<< (nI n &&& 31))) (msk n P) := by
  unfold msk
  rw [List.range_succ, List.foldl_append]
  rfl
theorem hb_msk {P : Nat → Bool} : ∀ n, n ≤ 32 → ∀ q, hb (msk n P) q = (decide (q < n) && P q) := by
  intro n
  induction n with
  | zero => intro _ q; unfold msk; simp [hb_0]
  | succ n ih =>
    intro hn q
    rw [msk_succ]
    have ih := ih (by omega) q
    cases c : P n with
    | true =>
      rw [cond_true, hb_or, ih, hb_shl (by omega)]
      by_cases cq : q = n
      · subst cq; simp [c]
      · have : (q < n + 1) = (q < n) := by simp; omega
        simp [cq, this]
    | false =>
      rw [cond_false, ih]
      by_cases cq : q = n
      · subst cq; simp [c]
      · have : (q < n + 1) = (q < n) := by simp; omega
        simp [this]
theorem m_knowers_l {S : sd_St} {T : TW} (hw : wfT T) (hT : CT 17 S T) (hU : UP S T) {s t : Nat} (hs : s < ts T) (ht : t < 4392) : ∀ (m n p : Nat), p + m = tn T → m < n → f_X11_knowersBehind_l9 n (nI s) (nI t) (msk p (fun q => decide (hF T s q ≤ t))) (nI p) S = some (msk (tn T) (fun q => decide (hF T s q ≤ t)), S) := by
  have h12 := hw.1
  have h4 := hw.2.2.2.2.1
  intro m
  induction m with
  | zero =>
    intro n p hp hn
    obtain ⟨n, rfl⟩ : ∃ n', n = n' + 1 := ⟨n - 1, by omega⟩
    unfold f_X11_knowersBehind_l9
    rw [hT.1, if_pos (nI_le (by omega) (by omega)), show p = tn T by omega]
  | succ m ih =>
    intro n p hp hn
    obtain ⟨n, rfl⟩ : ∃ n', n = n' + 1 := ⟨n - 1, by omega⟩
    have hpn : p < tn T := by omega
    have hg := (hw.2.2.2.2.2.1 s hs).1
    unfold f_X11_knowersBehind_l9 f_X11_knowersBehind_b43
    rw [hT.1, if_neg (nI_ge hpn (by omega)), rum_ix (by omega), sd_cl_ok (m_hadBy (kd_r (by omega)) (hU.2.2 s hs).1 (hok_F hw hs) (by omega) (by omega) ht), nI_1]
    have ih := ih n (p + 1) (by omega) (by omega)
    rw [msk_succ] at ih
    by_cases c : hF T s p ≤ t
    · rw [if_pos c, if_neg (by decide), sd_nm_eq]
      rw [cd_t (by simpa using c)] at ih
      exact ih
    · rw [if_neg c, if_pos rfl]
      rw [cd_f (by simpa using c)] at ih
      exact ih
theorem n_knowsBy_l {S : sd_St} {T : TW} (hw : wfT T) (hT : RTg (S.1 136) T) {s t : Nat} (hs : s < ts T) (hB : BR S T (hF T s, (zF T s).1)) (ht : t < 4392) : ∀ (m n p : Nat), p + m = tn T → m < n → f_X12_knowsBy_l10 n (nI t) (msk p (fun q => decide (hF T s q ≤ t))) (nI p) S = some (msk (tn T) (fun q => decide (hF T s q ≤ t)), S) := by
  have h12 := hw.1
  have hh := hok_F hw hs
  intro m
  induction m with
  | zero =>
    intro n p hp hn
    obtain ⟨n, rfl⟩ : ∃ n', n = n' + 1 := ⟨n - 1, by omega⟩
    unfold f_X12_knowsBy_l10
    rw [sd_cl_ok (n_people hT), if_pos (nI_le (by omega) (by omega)), show p = tn T by omega]
  | succ m ih =>
    intro n p hp hn
    obtain ⟨n, rfl⟩ : ∃ n', n = n' + 1 := ⟨n - 1, by omega⟩
    have hpn : p < tn T := by omega
    obtain ⟨q1, -⟩ := hB p hpn
    dsimp only at q1
    have hv := hh.2.2.2.1 p
    have hv2 : hF T s p < 2 ^ 30 := by
      rcases hv with g | g
      · rw [g]; decide
      · omega
    unfold f_X12_knowsBy_l10 f_X12_knowsBy_b39
    rw [sd_cl_ok (n_people hT), if_neg (nI_ge hpn (by omega)), sd_ld_ok (by rw [al140]; omega) (sd_al_lt _), q1, sd_nm_eq, sd_nm_eq, nI_1]
    have ih := ih n (p + 1) (by omega) (by omega)
    rw [msk_succ] at ih
    by_cases c : hF T s p ≤ t
    · rw [if_neg (nI_nlt c (by omega))]
      rw [cd_t (by simpa using c)] at ih
      exact ih
    · rw [if_pos (nI_lt (by omega) (by omega))]
      rw [cd_f (by simpa using c)] at ih
      have : ∀ x : Int32, x ||| 0 = x := fun x => by apply hb_ext; intro q _; rw [hb_or, hb_0, Bool.or_false]
      rw [this]
      exact ih
theorem m_knowers {S : sd_St} {σ : Sg} (hw : WF σ) (h : IC S σ) {s t : Nat} (hs : s < ts σ.1) (ht : t < 4392) : ∃ S1, f_X11_knowersBehind (nI s) (nI t) S = some (msk (tn σ.1) (fun q => decide (hF σ.1 s q ≤ t)), S1) ∧ IC S1 σ ∧ frm loC S S1 := by
  have h12 := hw.1.1
  obtain ⟨S1, e1, e2, e3, e4⟩ := IC_up hw h
  refine ⟨S1, ?_, e3, e4⟩
  unfold f_X11_knowersBehind
  rw [sd_cl_ok e1]
  exact m_knowers_l hw.1 (IC_T e3) e2 hs ht (tn σ.1) sd_FU 0 (by omega) (by unfold sd_FU; omega)
theorem n_knowsBy {S : sd_St} {σ : Sg} (hw : WF σ) (h : IR S σ) {s t : Nat} (hs : s < ts σ.1) (ht : t < 4392) : ∃ S1, f_X12_knowsBy (nI s) (nI t) S = some (msk (tn σ.1) (fun q => decide (hF σ.1 s q ≤ t)), S1) ∧ IR S1 σ ∧ frm hiC S S1 := by
  have h12 := hw.1.1
  obtain ⟨S1, e1, e2, e3, e4⟩ := IR_find hw h hs
  refine ⟨S1, ?_, e3, e4⟩
  unfold f_X12_knowsBy
  rw [sd_cl_ok e1]
  exact n_knowsBy_l hw.1 (IR_T e3) hs e2 ht (tn σ.1) sd_FU 0 (by omega) (by unfold sd_FU; omega)
theorem ag_knows (x1 x2 : Int32) : AG (f_X11_knows x1 x2) (f_X12_knows x1 x2) := by
  intro σ hw
  have hw1 := hw.1
  rcases ix_or x1 (wf31 hw1).2 with ⟨s, hs, rfl⟩ | c1
  · rcases ix_or x2 (show 4392 < 2 ^ 31 by decide) with ⟨t, ht, rfl⟩ | c2
    · refine ⟨msk (tn σ.1) (fun q => decide (hF σ.1 s q ≤ t)), σ, hw, fun S h => ?_, fun S h => ?_⟩
      · obtain ⟨S1, e1, e2, e3⟩ := m_knowers hw h hs ht
        refine ⟨S1, ?_, e2, e3⟩
        unfold f_X11_knows
        rw [sd_cl_ok (m_isSecret (IC_T h) hw1 hs), if_neg (by decide), sd_cl_ok (m_isDate ht), if_neg (by decide), sd_cl_ok e1]
      · obtain ⟨t1, t2⟩ := IR_thr h
        obtain ⟨S1, e1, e2, e3⟩ := n_knowsBy hw t1 hs ht
        refine ⟨S1, ?_, e2, frm_trans t2 e3 (fun _ h => h) (fun _ h => h)⟩
        unfold f_X12_knows
        rw [sd_nm_eq, sd_cl_ok (n_isSecret (IR_T t1) hw1 hs), if_neg (by decide), sd_cl_ok (n_isDate ht), if_neg (by decide), sd_cl_ok e1]
    · refine AG_none hw (v := -1) (fun S h => ?_) (fun S h => ?_)
      · unfold f_X11_knows
        rw [sd_cl_ok (m_isSecret (IC_T h) hw1 hs), if_neg (by decide), sd_cl_ok (m_isDate_n c2), if_pos rfl]
      · unfold f_X12_knows
        rw [sd_nm_eq, sd_cl_ok (n_isSecret (IR_T (IR_thr h).1) hw1 hs), if_neg (by decide), sd_cl_ok (n_isDate_n c2), if_pos rfl]
  · refine AG_none hw (v := -1) (fun S h => ?_) (fun S h => ?_)
    · unfold f_X11_knows
      rw [sd_cl_ok (m_isSecret_n (IC_T h) c1), if_pos rfl]
    · unfold f_X12_knows
      rw [sd_nm_eq, sd_cl_ok (n_isSecret_n (IR_T (IR_thr h).1) c1), if_pos rfl]
theorem ag_cant (x1 x2 : Int32) : AG (f_X11_cant x1 x2) (f_X12_cant x1 x2) := by
  intro σ hw
  have hw1 := hw.1
  rcases ix_or x1 (wf31 hw1).2 with ⟨s, hs, rfl⟩ | c1
  · rcases ix_or x2 (show 4392 < 2 ^ 31 by decide) with ⟨t, ht, rfl⟩ | c2
    · refine ⟨(((1 : Int32) <<< (nI (tn σ.1) &&& 31)) - 1) &&& (msk (tn σ.1) (fun q => decide (hF σ.1 s q ≤ t)) ^^^ -1), σ, hw, fun S h => ?_, fun S h => ?_⟩
      · obtain ⟨S1, e1, e2, e3⟩ := m_knowers hw h hs ht
        refine ⟨S1, ?_, e2, e3⟩
        have hev : f_X8_everyone 17 S = some (((1 : Int32) <<< (nI (tn σ.1) &&& 31)) - 1, S) := by
          unfold f_X8_everyone
          rw [(IC_T h).1]
        unfold f_X11_cant
        rw [sd_cl_ok (m_isSecret (IC_T h) hw1 hs), if_neg (by decide), sd_cl_ok (m_isDate ht), if_neg (by decide), sd_cl_ok hev, sd_cl_ok e1]
      · obtain ⟨t1, t2⟩ := IR_thr h
        obtain ⟨S1, e1, e2, e3⟩ := n_knowsBy hw t1 hs ht
        refine ⟨S1, ?_, e2, frm_trans t2 e3 (fun _ h => h) (fun _ h => h)⟩
        unfold f_X12_cant
        rw [sd_nm_eq, sd_cl_ok (n_isSecret (IR_T t1) hw1 hs), if_neg (by decide), sd_cl_ok (n_isDate ht), if_neg (by decide), sd_cl_ok (n_people (IR_T t1)), sd_cl_ok e1]
    · refine AG_none hw (v := -1) (fun S h => ?_) (fun S h => ?_)
      · unfold f_X11_cant
        rw [sd_cl_ok (m_isSecret (IC_T h) hw1 hs), if_neg (by decide), sd_cl_ok (m_isDate_n c2), if_pos rfl]
      · unfold f_X12_cant
        rw [sd_nm_eq, sd_cl_ok (n_isSecret (IR_T (IR_thr h).1) hw1 hs), if_neg (by decide), sd_cl_ok (n_isDate_n c2), if_pos rfl]
  · refine AG_none hw (v := -1) (fun S h => ?_) (fun S h => ?_)
    · unfold f_X11_cant
      rw [sd_cl_ok (m_isSecret_n (IC_T h) c1), if_pos rfl]
    · unfold f_X12_cant
      rw [sd_nm_eq, sd_cl_ok (n_isSecret_n (IR_T (IR_thr h).1) c1), if_pos rfl]
