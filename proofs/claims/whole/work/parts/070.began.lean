/-! began -/
def lsF (s a : Nat) (rp : Rp) : Nat := rp.foldl (fun a r => if r.2.1 = s then max a (r.2.2.1 + 1) else a) a
theorem lsF_ge {s : Nat} : ∀ {rp : Rp} {a : Nat}, a ≤ lsF s a rp ∧ ∀ r ∈ rp, r.2.1 = s → r.2.2.1 < lsF s a rp := by
  intro rp
  induction rp with
  | nil => intro a; exact ⟨Nat.le_refl _, fun r hr => by cases hr⟩
  | cons r rp ih =>
    intro a
    have e : lsF s a (r :: rp) = lsF s (if r.2.1 = s then max a (r.2.2.1 + 1) else a) rp := rfl
    rw [e]
    obtain ⟨i1, i2⟩ := ih (a := if r.2.1 = s then max a (r.2.2.1 + 1) else a)
    refine ⟨?_, fun r' hr' hs => ?_⟩
    · by_cases c : r.2.1 = s
      · rw [if_pos c] at i1 ⊢; omega
      · rw [if_neg c] at i1 ⊢; omega
    · rcases List.mem_cons.mp hr' with h | h
      · rw [h] at hs ⊢
        rw [if_pos hs] at i1 ⊢
        omega
      · exact i2 r' h hs
theorem lsF_le {s B : Nat} : ∀ {rp : Rp} {a : Nat}, a ≤ B → (∀ r ∈ rp, r.2.2.1 < B) → lsF s a rp ≤ B := by
  intro rp
  induction rp with
  | nil => intro a h _; exact h
  | cons r rp ih =>
    intro a h hr
    have e : lsF s a (r :: rp) = lsF s (if r.2.1 = s then max a (r.2.2.1 + 1) else a) rp := rfl
    rw [e]
    have := hr r List.mem_cons_self
    refine ih ?_ (fun r' h' => hr r' (List.mem_cons_of_mem _ h'))
    by_cases c : r.2.1 = s
    · rw [if_pos c]; omega
    · rw [if_neg c]; exact h
theorem m_last_l {S : sd_St} {T : TW} (hw : wfT T) {rp : Rp} (hR : RC 72 S rp) (hrp : wfR T rp) {s : Nat} (hs : s < ts T) : ∀ (m n i a : Nat), i + m = rp.length → m < n → a ≤ 4392 → f_X4_lastAbout_l4 72 n (nI s) (nI a - 1) (nI i) S = some (nI (lsF s a (rp.drop i)) - 1, S) := by
  have h12 := hw.1
  have h4 := hw.2.2.2.2.1
  have hl := hrp.1
  have ha : sd_al (72 + 1) = 16 ∧ sd_al (72 + 2) = 16 ∧ sd_al (72 + 3) = 16 ∧ sd_al (72 + 4) = 16 := by decide
  intro m
  induction m with
  | zero =>
    intro n i a hi hn _
    obtain ⟨n, rfl⟩ : ∃ n', n = n' + 1 := ⟨n - 1, by omega⟩
    unfold f_X4_lastAbout_l4
    rw [hR.1, if_pos (nI_le (by omega) (by omega)), List.drop_of_length_le (by omega)]
    rfl
  | succ m ih =>
    intro n i a hi hn hal
    obtain ⟨n, rfl⟩ : ∃ n', n = n' + 1 := ⟨n - 1, by omega⟩
    obtain ⟨w, s', t, k, e1, e2, e3⟩ := drop_cons (show i < rp.length by omega)
    obtain ⟨r1, r2, r3, r4⟩ := hR.2 i w s' t k e1
    obtain ⟨b1, b2, b3⟩ := hrp.2 w s' t k e3
    have hc : lsF s a ((w, s', t, k) :: rp.drop (i + 1)) = lsF s (if s' = s then max a (t + 1) else a) (rp.drop (i + 1)) := rfl
    unfold f_X4_lastAbout_l4 f_X4_lastAbout_b33
    rw [hR.1, if_neg (nI_ge (by omega) (by omega)), sd_ld_ok (by omega) (sd_al_lt _), r2, e2, hc, nI_1]
    by_cases c : s' = s
    · rw [if_pos (by rw [c]), sd_ld_ok (by omega) (sd_al_lt _), r3, m_mx (by omega) (by omega), sd_nm_eq, if_pos c]
      exact ih n (i + 1) _ (by omega) (by omega) (by omega)
    · rw [if_neg (fun z => c (nI_inj (by omega) (by omega) z)), if_neg c]
      exact ih n (i + 1) a (by omega) (by omega) hal
theorem agB_by {T : TW} {p f s : Nat} {rp : Rp} (hf : f < 4392) {l : Nat} (hl : l ≤ 4392) (hr : ∀ r ∈ rp, r.2.1 = s → r.2.2.1 < l) : agB (hdt T p f l) s rp = agB (hdt T p f 4392) s rp := by
  unfold agB
  rw [Bool.eq_iff_iff, List.all_eq_true, List.all_eq_true]
  have key : ∀ r ∈ rp, (!(r.2.1 == s) || (decide (hdt T p f l r.1 ≤ r.2.2.1) == r.2.2.2)) = (!(r.2.1 == s) || (decide (hdt T p f 4392 r.1 ≤ r.2.2.1) == r.2.2.2)) := by
    intro r h
    by_cases c : r.2.1 = s
    · rw [decide_eq_decide.mpr (hd_by hf hl (hr r h c))]
    · have : (r.2.1 == s) = false := by simpa using c
      rw [this, Bool.not_false, Bool.true_or, Bool.true_or]
  constructor
  · intro h r hr'
    rw [← key r hr']
    exact h r hr'
  · intro h r hr'
    rw [key r hr']
    exact h r hr'
def bgF (T : TW) (rp : Rp) (s : Nat) : Nat → Bool := fun p => agB (hdt T p (tx T s) 4392) s rp
theorem m_began_l {σ : Sg} (hw : WF σ) {s : Nat} (hs : s < ts σ.1) : ∀ (m n p : Nat) (S : sd_St), p + m = tn σ.1 → m < n → IC S σ → UP S σ.1 → ∃ S2, f_X11_began_l28 n (nI s) (nI (lsF s 0 σ.2.1) - 1) (msk p (bgF σ.1 σ.2.1 s)) (nI p) S = some (msk (tn σ.1) (bgF σ.1 σ.2.1 s), S2) ∧ IC S2 σ ∧ frm loC S S2 := by
  have hw1 := hw.1
  have hrp := hw.2.2.1
  have h12 := hw1.1
  have h4 := hw1.2.2.2.2.1
  have hf := (hw1.2.2.2.2.2.1 s hs).2
  have hll : lsF s 0 σ.2.1 ≤ 4392 := lsF_le (by omega) (fun r hr => by obtain ⟨w, s', t, k⟩ := r; exact (hrp.2 w s' t k hr).2.2)
  have hlg := (lsF_ge (s := s) (rp := σ.2.1) (a := 0)).2
  intro m
  induction m with
  | zero =>
    intro n p S hp hn hI _
    obtain ⟨n, rfl⟩ : ∃ n', n = n' + 1 := ⟨n - 1, by omega⟩
    refine ⟨S, ?_, hI, frm_rfl⟩
    unfold f_X11_began_l28
    rw [(IC_T hI).1, if_pos (nI_le (by omega) (by omega)), show p = tn σ.1 by omega]
  | succ m ih =>
    intro n p S hp hn hI hU
    obtain ⟨n, rfl⟩ : ∃ n', n = n' + 1 := ⟨n - 1, by omega⟩
    have hpn : p < tn σ.1 := by omega
    obtain ⟨S1, e1, e2, e3⟩ := m_spread (r := 54) (d := 28) (by decide) kd28 hw1 (evs_EV σ.1).weak (b := p) (f := tx σ.1 s) (l := lsF s 0 σ.2.1) hpn hf hll hU.2.1
    have hU1 : UP S1 σ.1 := UP_fr hw1 hU (by rw [e3.1 0 (by omega)]) (fun a h1 h2 => e3.1 a (by omega))
    have hI1 : IC S1 σ := IC_fr hI (fun a ha => e3.1 a (by unfold keepC at ha; omega)) (Or.inr hU1)
    obtain ⟨S2, y1, y2, y3⟩ := ih n (p + 1) S1 (by omega) (by omega) hI1 hU1
    refine ⟨S2, ?_, y2, frm_trans e3 y3 (fun a h => by unfold loC; omega) (fun _ h => h)⟩
    rw [msk_succ] at y1
    have hag := m_agree (r := 54) (by decide) hw1 hI1.2.1 hrp e2 (hok_hd hw1 hpn hf _ hll) hs
    rw [agB_by hf hll hlg] at hag
    have hag : f_X4_agree 72 54 (nI s) S1 = some (bI (bgF σ.1 σ.2.1 s p), S1) := hag
    unfold f_X11_began_l28 f_X11_began_b85
    rw [(IC_T hI).1, if_neg (nI_ge (by omega) (by omega)), sd_ld_ok (by rw [show sd_al 27 = 4 by decide]; omega) (sd_al_lt _), ((IC_T hI).2.2.2.2.2.1 s hs).2, sd_cl_ok e1, sd_cl_ok hag, nI_1, sd_nm_eq]
    cases c : bgF σ.1 σ.2.1 s p with
    | true =>
      rw [c, cond_true] at y1
      rw [if_neg (by decide)]
      exact y1
    | false =>
      rw [c, cond_false] at y1
      rw [if_pos (by decide)]
      exact y1
theorem IR_goes {S : sd_St} {σ : Sg} (hw : WF σ) (h : IR S σ) {b f : Nat} (hb : b < tn σ.1) (hf : f < 4392) : ∃ S2, f_X12_goes (nI b) (nI f) S = some ((), S2) ∧ (∀ p, p < tn σ.1 → S2.1 140 p = nI (hdt σ.1 b f 4392 p)) ∧ IR S2 σ ∧ frm hiC S S2 := by
  obtain ⟨S2, e1, e2, e3, e4⟩ := n_goes hw.1 hw.2.1 hb hf (IR_T h)
  have hA := rnB_evs (T := σ.1) (b := b) hf 4392 (Nat.le_refl _)
  refine ⟨S2, e1, fun p hp => ?_, IR_fr h (e3.1 136 (by omega)) (e3.1 154 (by omega)) (e4 2 (by decide)) (e3.1 131 (by omega)) (e3.2 135 (by omega)), frm_mono e3 (fun a ha => by unfold hiC; omega)⟩
  obtain ⟨q1, -⟩ := e2 p hp
  rw [hA] at q1
  exact q1
theorem n_fromOf {S : sd_St} {T : TW} (hw : wfT T) (hT : RTg (S.1 136) T) {s : Nat} (hs : s < ts T) : f_X12_fromOf (nI s) S = some (nI (tx T s), S) := by
  have h4 := hw.2.2.2.2.1
  obtain ⟨a1, a2⟩ := hT.2.2.2.2.2.2.2 s hs
  unfold f_X12_fromOf
  rw [ix2, nI_1, ldT (by omega), a2]
theorem n_began_l {σ : Sg} (hw : WF σ) {s : Nat} (hs : s < ts σ.1) : ∀ (m n p : Nat) (S : sd_St), p + m = tn σ.1 → m < n → IR S σ → ∃ S2, f_X12_began_l19 n (nI s) (msk p (bgF σ.1 σ.2.1 s)) (nI p) S = some (msk (tn σ.1) (bgF σ.1 σ.2.1 s), S2) ∧ IR S2 σ ∧ frm hiC S S2 := by
  have hw1 := hw.1
  have hrp := hw.2.2.1
  have h12 := hw1.1
  have h4 := hw1.2.2.2.2.1
  have hf := (hw1.2.2.2.2.2.1 s hs).2
  intro m
  induction m with
  | zero =>
    intro n p S hp hn hI
    obtain ⟨n, rfl⟩ : ∃ n', n = n' + 1 := ⟨n - 1, by omega⟩
    refine ⟨S, ?_, hI, frm_rfl⟩
    unfold f_X12_began_l19
    rw [sd_cl_ok (n_people (IR_T hI)), if_pos (nI_le (by omega) (by omega)), show p = tn σ.1 by omega]
  | succ m ih =>
    intro n p S hp hn hI
    obtain ⟨n, rfl⟩ : ∃ n', n = n' + 1 := ⟨n - 1, by omega⟩
    have hpn : p < tn σ.1 := by omega
    obtain ⟨S1, e1, e2, e3, e4⟩ := IR_goes hw hI hpn hf
    obtain ⟨S2, y1, y2, y3⟩ := ih n (p + 1) S1 (by omega) (by omega) e3
    refine ⟨S2, ?_, y2, frm_trans e4 y3 (fun _ h => h) (fun _ h => h)⟩
    rw [msk_succ] at y1
    have hag := n_areSo hw1 e3.1 hrp e2 (hok_hd hw1 hpn hf 4392 (Nat.le_refl _)).2.2.2.1 hs
    have hag : f_X12_areSo (nI s) S1 = some (bI (bgF σ.1 σ.2.1 s p), S1) := hag
    unfold f_X12_began_l19 f_X12_began_b53
    rw [sd_cl_ok (n_people (IR_T hI)), if_neg (nI_ge (by omega) (by omega)), sd_cl_ok (n_fromOf hw1 (IR_T hI) hs), sd_cl_ok e1, sd_cl_ok hag, nI_1, sd_nm_eq, sd_nm_eq]
    cases c : bgF σ.1 σ.2.1 s p with
    | true =>
      rw [c, cond_true] at y1
      rw [if_neg (by decide)]
      exact y1
    | false =>
      rw [c, cond_false] at y1
      have : ∀ x : Int32, x ||| 0 = x := fun x => by apply hb_ext; intro q _; rw [hb_or, hb_0, Bool.or_false]
      rw [if_pos (by decide), this]
      exact y1
theorem ag_began (x1 : Int32) : AG (f_X11_began x1) (f_X12_began x1) := by
  intro σ hw
  have hw1 := hw.1
  have h12 := hw1.1
  have hrp := hw.2.2.1
  have hrl := hrp.1
  rcases ix_or x1 (wf31 hw1).2 with ⟨s, hs, rfl⟩ | c1
  · refine ⟨msk (tn σ.1) (bgF σ.1 σ.2.1 s), σ, hw, fun S h => ?_, fun S h => ?_⟩
    · obtain ⟨S1, e1, e2, e3, e4⟩ := IC_up hw h
      obtain ⟨S2, y1, y2, y3⟩ := m_began_l hw hs (tn σ.1) sd_FU 0 S1 (by omega) (by unfold sd_FU; omega) e3 e2
      refine ⟨S2, ?_, y2, frm_trans e4 y3 (fun _ h => h) (fun _ h => h)⟩
      have hla : f_X4_lastAbout 72 (nI s) S1 = some (nI (lsF s 0 σ.2.1) - 1, S1) := by
        unfold f_X4_lastAbout
        exact m_last_l hw1 e3.2.1 hrp hs σ.2.1.length sd_FU 0 0 (by omega) (by unfold sd_FU; omega) (by omega)
      unfold f_X11_began
      rw [sd_cl_ok (m_isSecret (IC_T h) hw1 hs), if_neg (by decide), sd_cl_ok e1, sd_cl_ok hla]
      exact y1
    · obtain ⟨t1, t2⟩ := IR_thr h
      obtain ⟨S2, y1, y2, y3⟩ := n_began_l hw hs (tn σ.1) sd_FU 0 (sd_I S 130 0 0) (by omega) (by unfold sd_FU; omega) t1
      refine ⟨S2, ?_, y2, frm_trans t2 y3 (fun _ h => h) (fun _ h => h)⟩
      unfold f_X12_began
      rw [sd_nm_eq, sd_cl_ok (n_isSecret (IR_T t1) hw1 hs), if_neg (by decide)]
      exact y1
  · refine AG_none hw (v := -1) (fun S h => ?_) (fun S h => ?_)
    · unfold f_X11_began
      rw [sd_cl_ok (m_isSecret_n (IC_T h) c1), if_pos rfl]
    · unfold f_X12_began
      rw [sd_nm_eq, sd_cl_ok (n_isSecret_n (IR_T (IR_thr h).1) c1), if_pos rfl]
