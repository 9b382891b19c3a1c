/-! THE NEWCOMER: the days, both objects -/
def nbs (v : Nat → Nat) : Nat → Option (Nat × Nat)
  | 0 => none
  | d + 1 => if v d < bsT (nbs v d) then some (v d, d) else nbs v d
theorem bsT_s (v q : Nat) : bsT (some (v, q)) = v := rfl
theorem nbs_y {v : Nat → Nat} {d : Nat} (h : v d < bsT (nbs v d)) : nbs v (d + 1) = some (v d, d) := by
  show (if v d < bsT (nbs v d) then some (v d, d) else nbs v d) = _
  rw [if_pos h]
theorem nbs_n {v : Nat → Nat} {d : Nat} (h : ¬ v d < bsT (nbs v d)) : nbs v (d + 1) = nbs v d := by
  show (if v d < bsT (nbs v d) then some (v d, d) else nbs v d) = _
  rw [if_neg h]
theorem nbs_le {v : Nat → Nat} {d : Nat} : bsT (nbs v (d + 1)) ≤ v d := by
  by_cases c : v d < bsT (nbs v d)
  · rw [nbs_y c]; exact Nat.le_refl _
  · rw [nbs_n c]; omega
theorem nbs_v {v : Nat → Nat} (hv : ∀ d, v d = FARN ∨ v d < 4392) : ∀ {d}, (nbs v d = none ∨ ∃ x q, nbs v d = some (x, q) ∧ x < 4392 ∧ q < d) := by
  intro d
  induction d with
  | zero => exact Or.inl rfl
  | succ d ih =>
    by_cases c : v d < bsT (nbs v d)
    · rw [nbs_y c]
      right
      refine ⟨_, _, rfl, ?_, by omega⟩
      have hb : bsT (nbs v d) ≤ FARN := by
        rcases ih with e | ⟨x, q, e, h1, -⟩
        · rw [e]; exact Nat.le_refl _
        · rw [e]; show x ≤ FARN; unfold FARN; omega
      rcases hv d with g | g
      · rw [g] at c; omega
      · exact g
    · rw [nbs_n c]
      rcases ih with e | ⟨x, q, e, h1, h2⟩
      · exact Or.inl e
      · exact Or.inr ⟨x, q, e, h1, by omega⟩
theorem m_hadBy2 {r : Nat} (hr : sd_kd r = 5) {T : TW} {b f : Nat} {h : Nat → Nat} {S : sd_St} (hR : RM r S b h) (hh : hok T b f h) {p l : Nat} (hp : p < 12) (hb12 : b < 12) (hl : l ≤ 4392) : f_X5_hadBy r (nI p) (nI l - 1) S = some (if h p < l then 1 else 0, S) := by
  by_cases c : l = 0
  · subst c
    unfold f_X5_hadBy
    rw [sd_cl_ok (m_had hr hR hh hp hb12), if_neg (show ¬ h p < 0 by omega)]
    unfold hadI
    by_cases c1 : h p = FARN
    · rw [if_pos c1, if_pos rfl]
    · rw [if_neg c1]
      have hv := (hh.2.2.2.1 p).resolve_left c1
      rw [if_neg (nI_neg1 (by omega)), if_pos (show nI 0 - 1 < nI (h p) from nI_lt_neg1 (by omega))]
  · rw [nI_s1 (by omega), m_hadBy hr hR hh hp hb12 (show l - 1 < 4392 by omega)]
    by_cases c1 : h p < l
    · rw [if_pos c1, if_pos (show h p ≤ l - 1 by omega)]
    · rw [if_neg c1, if_neg (show ¬ h p ≤ l - 1 by omega)]
/-- the newcomer's value of a day -/
def nwV (X : TW) (n s p : Nat) (d : Nat) : Nat := hF (setB X n d) s p
theorem nwV_v {X : TW} (hw : wfT X) {n s p : Nat} (hs : s < ts X) (d : Nat) : nwV X n s p d = FARN ∨ nwV X n s p d < 4392 := by
  have h := hdt_v (T := setB X n d) (b := tg (setB X n d) s) (f := tx (setB X n d) s) (hw.2.2.2.2.2.1 s hs).2 (Nat.le_refl 4392) p
  unfold nwV hF
  exact h
theorem nw_qd {T : TW} {c1 c2 d : Nat} (h : trnB T d = false) : qd (nwP T c1 c2 (tn T)) (tn T) d := by
  have h0 := trn_qd (p := tn T) h
  obtain ⟨q1, q2, q3, q4, q5⟩ := h0
  have r5 : nwP T c1 c2 (tn T) 5 = T 5 := nw_hi (by omega)
  have r7 : nwP T c1 c2 (tn T) 7 = T 7 := nw_hi (by omega)
  have r8 : nwP T c1 c2 (tn T) 8 = T 8 := nw_hi (by omega)
  have r9 : nwP T c1 c2 (tn T) 9 = T 9 := nw_hi (by omega)
  have r11 : nwP T c1 c2 (tn T) 11 = T 11 := nw_hi (by omega)
  refine ⟨fun q hq hn => ?_, fun q hq => ?_, fun i hi => ?_, fun s hs => ?_, q5⟩
  · rw [nw_n] at hq
    have : tb (nwP T c1 c2 (tn T)) q = tb T q := nw_old (Or.inl rfl) hn
    rw [this]
    exact q1 q (by omega) hn
  · rw [nw_n] at hq
    by_cases c : q = tn T
    · have : tm (nwP T c1 c2 (tn T)) q = 0 := by rw [c]; exact nw_new (Or.inr (Or.inl rfl))
      rw [this]; omega
    · have : tm (nwP T c1 c2 (tn T)) q = tm T q := nw_old (Or.inr (Or.inl rfl)) c
      rw [this]
      exact q2 q (by omega)
  · have hi : i < nwP T c1 c2 (tn T) 5 0 := hi
    rw [r5] at hi
    show nwP T c1 c2 (tn T) 7 i % 366 ≠ d ∧ nwP T c1 c2 (tn T) 8 i % 366 ≠ d
    rw [r7, r8]
    exact q3 i hi
  · have hs : s < nwP T c1 c2 (tn T) 9 0 := hs
    rw [r9] at hs
    show nwP T c1 c2 (tn T) 11 s % 366 ≠ d
    rw [r11]
    exact q4 s hs
theorem m_nw115 {T : TW} (hn : tn T < 12) {c1 c2 s p : Nat} {X : TW} (hX : X = nwP T c1 c2 (tn T)) (hwX : wfT X) (hs : s < ts X) (hp : p < tn T) {L : List (Nat × Nat)} (hE : EV X L) : ∀ (m n d : Nat) (S : sd_St), d + m = 366 → m < n → CT 102 S X → DR 113 S X L → TQ (trnB T) S → S.1 101 6 = b1I (nbs (nwV X (tn T) s p) d) → S.1 101 7 = b2I (nbs (nwV X (tn T) s p) d) → ∃ S2, f_X10_tryNewcomer_l115 101 17 n (nI s) (nI p) (nI (tn T)) (nI (min 4392 (bsT (nbs (nwV X (tn T) s p) d))) - 1) (nI d) S = some ((), S2) ∧ S2.1 101 6 = b1I (nbs (nwV X (tn T) s p) 366) ∧ S2.1 101 7 = b2I (nbs (nwV X (tn T) s p) 366) ∧ frm (fun a => a = 101 ∨ (118 ≤ a ∧ a ≤ 124)) S S2 := by
  have hX12 := hwX.1
  have hnX : tn X = tn T + 1 := by rw [hX, nw_n]
  have hb0 : tb X (tn T) = 0 := by rw [hX]; exact nw_new (Or.inl rfl)
  obtain ⟨w1, w2⟩ := hwX.2.2.2.2.2.1 s hs
  have h4 := hwX.2.2.2.2.1
  have hvv := nwV_v hwX (n := tn T) (p := p) hs
  intro m
  induction m with
  | zero =>
    intro n d S hd hm hT hD hP h6 h7
    obtain ⟨n, rfl⟩ : ∃ n', n = n' + 1 := ⟨n - 1, by omega⟩
    have : d = 366 := by omega
    subst this
    refine ⟨S, ?_, h6, h7, frm_rfl⟩
    unfold f_X10_tryNewcomer_l115
    rw [if_pos (show (366 : Int32) ≤ nI 366 from nI_le (a := 366) (by omega) (by omega))]
  | succ m ih =>
    intro n d S hd hm hT hD hP h6 h7
    obtain ⟨n, rfl⟩ : ∃ n', n = n' + 1 := ⟨n - 1, by omega⟩
    have hd3 : d < 366 := by omega
    generalize hl : min 4392 (bsT (nbs (nwV X (tn T) s p) d)) = l at *
    have hl2 : l ≤ 4392 := by omega
    have hskip : ¬ nwV X (tn T) s p d < bsT (nbs (nwV X (tn T) s p) d) → ∀ S1, CT 102 S1 X → DR 113 S1 X L → TQ (trnB T) S1 → S1.1 101 = S.1 101 → ∃ S2, f_X10_tryNewcomer_b228 (f_X10_tryNewcomer_l115 101 17 n) 101 17 (nI s) (nI p) (nI (tn T)) (nI l - 1) (nI d) S1 = some ((), S2) ∧ S2.1 101 6 = b1I (nbs (nwV X (tn T) s p) 366) ∧ S2.1 101 7 = b2I (nbs (nwV X (tn T) s p) 366) ∧ frm (fun a => a = 101 ∨ (118 ≤ a ∧ a ≤ 124)) S1 S2 := by
      intro hno S1 g1 g2 g3 g4
      have e := nbs_n hno
      obtain ⟨S2, e1, e2, e3, e4⟩ := ih n (d + 1) S1 (by omega) (by omega) g1 g2 g3 (by rw [g4, e]; exact h6) (by rw [g4, e]; exact h7)
      refine ⟨S2, ?_, e2, e3, e4⟩
      unfold f_X10_tryNewcomer_b228
      rw [e, hl] at e1
      rw [nI_1]
      exact e1
    unfold f_X10_tryNewcomer_l115
    simp only [Nat.reduceAdd]
    rw [if_neg (show ¬ (366 : Int32) ≤ nI d from nI_ge (b := 366) (by omega) (by decide)), sd_cl_ok (m_unlike hP hd3)]
    cases cu : (d == 0 || (trnB T d || trnB T (d - 1))) with
    | false =>
      rw [if_pos (by decide)]
      rw [Bool.or_eq_false_iff, Bool.or_eq_false_iff] at cu
      obtain ⟨u1, u2, u3⟩ := cu
      have u1 : ¬ d = 0 := by simpa using u1
      refine hskip ?_ S hT hD hP rfl
      obtain ⟨x, rfl⟩ : ∃ x, d = x + 1 := ⟨d - 1, by omega⟩
      rw [Nat.add_sub_cancel] at u3
      have hq1 := nw_qd (c1 := c1) (c2 := c2) u3
      have hq2 := nw_qd (c1 := c1) (c2 := c2) u2
      rw [← hX] at hq1 hq2
      have hwp : nwV X (tn T) s p (x + 1) = wpN x (nwV X (tn T) s p x) := warp_F hwX (by omega) (by omega) hq1 hq2 hs p
      have h1 := nbs_le (v := nwV X (tn T) s p) (d := x)
      have h2 := wp_ge (d := x) (t := nwV X (tn T) s p x)
      omega
    | true =>
      rw [if_neg (by decide)]
      obtain ⟨S1, M, e1, e2, e3, e4, e5⟩ := m_trial hwX (p := tn T) (d := d) (by omega) hb0 hd3 hT hE
      have hT1 : CT 102 S1 X := CT_fr hT (fun a g1 g2 => e5.1 a (by omega))
      have hD1 : DR 113 S1 X L := DR_fr hD (by rw [e5.1 113 (by decide)]) (fun a g1 g2 => e5.1 a (by omega))
      obtain ⟨q1, q2⟩ := hT1.2.2.2.2.2.1 s hs
      have hwB := wf_setB hwX (p := tn T) hd3
      obtain ⟨S2, k1, k2, k3⟩ := m_both (r := 123) (d1 := 113) (d2 := 118) (by decide) (by decide) (by decide) hwB e4 (lx_srt hE.1) e3 (b := tg X s) (f := tx X s) (l := l) w1 w2 hl2 hD1 e2
      have hok1 := hok_hd hwB (b := tg X s) (f := tx X s) w1 w2 l hl2
      have hb12 : tg X s < 12 := by omega
      have hiff : hdt (setB X (tn T) d) (tg X s) (tx X s) l p < l ↔ nwV X (tn T) s p d < bsT (nbs (nwV X (tn T) s p) d) := by
        have hv := hvv d
        have hA : hdt (setB X (tn T) d) (tg X s) (tx X s) l p < l ↔ nwV X (tn T) s p d < l := by
          by_cases c0 : l = 0
          · subst c0; constructor <;> intro h <;> omega
          · have := hd_by (T := setB X (tn T) d) (b := tg X s) (f := tx X s) (l := l) (q := p) (t := l - 1) w2 hl2 (by omega)
            have e : nwV X (tn T) s p d = hdt (setB X (tn T) d) (tg X s) (tx X s) 4392 p := rfl
            rw [e]
            generalize hdt (setB X (tn T) d) (tg X s) (tx X s) 4392 p = A at *
            generalize hdt (setB X (tn T) d) (tg X s) (tx X s) l p = B at *
            omega
        rw [hA, ← hl]
        generalize nwV X (tn T) s p d = A at *
        rcases nbs_v hvv (d := d) with e | ⟨x, q, e, h1, -⟩
        · rw [e]
          show A < min 4392 FARN ↔ A < FARN
          rcases hv with g | g
          · rw [g]; unfold FARN; omega
          · unfold FARN; omega
        · rw [e]
          show A < min 4392 x ↔ A < x
          omega
      have f12 : frm (fun a => 118 ≤ a ∧ a ≤ 124) S S2 := frm_trans e5 k3 (fun a h => by omega) (fun a h => by omega)
      have hT2 : CT 102 S2 X := CT_fr hT (fun a g1 g2 => f12.1 a (by omega))
      have hD2 : DR 113 S2 X L := DR_fr hD (by rw [f12.1 113 (by decide)]) (fun a g1 g2 => f12.1 a (by omega))
      have hP2 : TQ (trnB T) S2 := fun x hx => by rw [f12.1 128 (by decide)]; exact hP x hx
      rw [sd_cl_ok e1, sd_ld_ok (show s < sd_al 111 by rw [show sd_al 111 = 4 from by decide]; omega) (sd_al_lt _), sd_ld_ok (show s < sd_al 112 by rw [show sd_al 112 = 4 from by decide]; omega) (sd_al_lt _)]
      have q1 : S1.1 111 s = nI (tg X s) := q1
      have q2 : S1.1 112 s = nI (tx X s) := q2
      rw [q1, q2, sd_cl_ok k1, sd_cl_ok (m_hadBy2 (r := 123) (by decide) k2 hok1 (by omega) hb12 hl2)]
      by_cases c : hdt (setB X (tn T) d) (tg X s) (tx X s) l p < l
      · rw [if_pos c, if_neg (by decide), sd_cl_ok (m_had (r := 123) (by decide) k2 hok1 (by omega) hb12), sd_nm_eq, sd_nm_eq, sd_nm_eq]
        have hyes := hiff.mp c
        have hnf : hdt (setB X (tn T) d) (tg X s) (tx X s) l p ≠ FARN := by unfold FARN; omega
        have hval : hdt (setB X (tn T) d) (tg X s) (tx X s) l p = nwV X (tn T) s p d := (hd_keep2 hl2 hnf).symm
        have hI : hadI (hdt (setB X (tn T) d) (tg X s) (tx X s) l) p = nI (nwV X (tn T) s p d) := by
          unfold hadI
          rw [if_neg hnf, hval]
        rw [hI]
        obtain ⟨S3, hS3⟩ : ∃ S3, S3 = sd_I (sd_I S2 101 6 (nI (nwV X (tn T) s p d))) 101 7 (nI d) := ⟨_, rfl⟩
        rw [← hS3]
        have f23 : frm (fun a => a = 101) S2 S3 := by rw [hS3]; exact frm_trans (frm_I (c := fun a => a = 101) rfl) (frm_I (c := fun a => a = 101) rfl) (fun _ h => h) (fun _ h => h)
        have h36 : S3.1 101 6 = nI (nwV X (tn T) s p d) := by rw [hS3, rI_oth (by decide), rI_same]
        have h37 : S3.1 101 7 = nI d := by rw [hS3, rI_same]
        have e := nbs_y hyes
        obtain ⟨S4, y1, y2, y3, y4⟩ := ih n (d + 1) S3 (by omega) (by omega) (CT_fr hT2 (fun a g1 g2 => f23.1 a (by omega))) (DR_fr hD2 (by rw [f23.1 113 (by decide)]) (fun a g1 g2 => f23.1 a (by omega))) (fun x hx => by rw [f23.1 128 (by decide)]; exact hP2 x hx) (by rw [h36, e]; rfl) (by rw [h37, e]; rfl)
        refine ⟨S4, ?_, y2, y3, frm_trans (frm_trans (e := fun a => a = 101 ∨ (118 ≤ a ∧ a ≤ 124)) f12 f23 (fun a h => Or.inr h) (fun a h => Or.inl h)) y4 (fun _ h => h) (fun _ h => h)⟩
        unfold f_X10_tryNewcomer_b228
        rw [h36, nI_1]
        rw [e] at y1
        have hlt : nwV X (tn T) s p d ≤ 4392 := by rw [← hval]; exact Nat.le_of_lt (Nat.lt_of_lt_of_le c hl2)
        rw [bsT_s, Nat.min_eq_right hlt] at y1
        exact y1
      · rw [if_neg c, if_pos rfl]
        obtain ⟨S4, y1, y2, y3, y4⟩ := hskip (fun z => c (hiff.mpr z)) S2 hT2 hD2 hP2 (f12.1 101 (by omega))
        exact ⟨S4, y1, y2, y3, frm_trans f12 y4 (fun a h => Or.inr h) (fun _ h => h)⟩
