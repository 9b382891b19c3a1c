/-! marks -/
theorem al4 {k : Nat} (h : sd_kd k = 4) : sd_al (k + 1) = 16 ∧ sd_al (k + 2) = 16 ∧ sd_al (k + 3) = 16 ∧ sd_al (k + 4) = 16 := by
  rcases kd_4 h with h | h | h | h | h <;> subst h <;> decide
theorem nar_b (b : Bool) : vp_nar .boolean (bI b) = bI b := by cases b <;> decide
theorem m_copy_l {k0 k1 : Nat} (h0 : sd_kd k0 = 4) (h1 : sd_kd k1 = 4) (hne : k0 ≠ k1) {rp : Rp} (hl : rp.length ≤ 16) : ∀ (m n i : Nat) (S : sd_St), i + m = rp.length → m < n → RC k1 S rp → S.1 k0 0 = nI rp.length → (∀ j w s t b, j < i → rp[j]? = some (w, s, t, b) → S.1 (k0 + 1) j = nI w ∧ S.1 (k0 + 2) j = nI s ∧ S.1 (k0 + 3) j = nI t ∧ S.1 (k0 + 4) j = bI b) →
    ∃ S2, f_X4_copyFrom_l10 k0 k1 n (nI i) S = some ((), S2) ∧ RC k0 S2 rp ∧ frm (fun a => k0 ≤ a ∧ a ≤ k0 + 4) S S2 := by
  have ha0 := al4 h0
  have ha1 := al4 h1
  have hd : k0 + 4 < k1 ∨ k1 + 4 < k0 := by
    have := kd_4 h0
    have := kd_4 h1
    omega
  intro m
  induction m with
  | zero =>
    intro n i S hi hn hR hk hE
    obtain ⟨n, rfl⟩ : ∃ n', n = n' + 1 := ⟨n - 1, by omega⟩
    unfold f_X4_copyFrom_l10
    rw [hk, if_pos (nI_le (by omega) (by omega))]
    refine ⟨S, rfl, ⟨hk, fun j w s t b hj => hE j w s t b ?_ hj⟩, frm_rfl⟩
    have := (List.getElem?_eq_some_iff.mp hj).1
    omega
  | succ m ih =>
    intro n i S hi hn hR hk hE
    obtain ⟨n, rfl⟩ : ∃ n', n = n' + 1 := ⟨n - 1, by omega⟩
    obtain ⟨⟨w, s, t, b⟩, hx⟩ : ∃ x, rp[i]? = some x := ⟨_, List.getElem?_eq_getElem (show i < rp.length by omega)⟩
    obtain ⟨r1, r2, r3, r4⟩ := hR.2 i w s t b hx
    obtain ⟨S1, hS1⟩ : ∃ S1, S1 = sd_I (sd_I (sd_I (sd_I S (k0 + 1) i (nI w)) (k0 + 2) i (nI s)) (k0 + 3) i (nI t)) (k0 + 4) i (bI b) := ⟨_, rfl⟩
    have hf : frm (fun a => k0 + 1 ≤ a ∧ a ≤ k0 + 4) S S1 := by
      rw [hS1]
      refine ⟨fun a ha => ?_, fun a _ => rfl⟩
      rw [rI_cell (by omega), rI_cell (by omega), rI_cell (by omega), rI_cell (by omega)]
    have hstep : f_X4_copyFrom_l10 k0 k1 (n + 1) (nI i) S = f_X4_copyFrom_l10 k0 k1 n (nI (i + 1)) S1 := by
      conv => lhs; unfold f_X4_copyFrom_l10
      rw [hk, if_neg (nI_ge (by omega) (by omega)), sd_ld_ok (by omega) (sd_al_lt _), r1, sd_st_ok (by omega) (sd_al_lt _), sd_ld_ok (by omega) (sd_al_lt _), rI_cell (by omega), r2, sd_st_ok (by omega) (sd_al_lt _), sd_ld_ok (by omega) (sd_al_lt _), rI_cell (by omega), rI_cell (by omega), r3, sd_st_ok (by omega) (sd_al_lt _), sd_ld_ok (by omega) (sd_al_lt _), rI_cell (by omega), rI_cell (by omega), rI_cell (by omega), r4, nar_b, sd_st_ok (by omega) (sd_al_lt _), nI_1, hS1]
    rw [hstep]
    obtain ⟨S2, e1, e2, e3⟩ := ih n (i + 1) S1 (by omega) (by omega) (RC_fr hR (fun a g1 g2 => hf.1 a (by omega))) (by rw [hf.1 k0 (by omega)]; exact hk) (fun j w' s' t' b' hj hx' => by
      by_cases c : j = i
      · subst c
        rw [hx] at hx'
        cases hx'
        rw [hS1]
        refine ⟨?_, ?_, ?_, ?_⟩
        · rw [rI_cell (by omega), rI_cell (by omega), rI_cell (by omega), rI_same]
        · rw [rI_cell (by omega), rI_cell (by omega), rI_same]
        · rw [rI_cell (by omega), rI_same]
        · rw [rI_same]
      · have := hE j w' s' t' b' (by omega) hx'
        rw [hS1]
        refine ⟨?_, ?_, ?_, ?_⟩
        · rw [rI_cell (by omega), rI_cell (by omega), rI_cell (by omega), rI_oth c]; exact this.1
        · rw [rI_cell (by omega), rI_cell (by omega), rI_oth c, rI_cell (by omega)]; exact this.2.1
        · rw [rI_cell (by omega), rI_oth c, rI_cell (by omega), rI_cell (by omega)]; exact this.2.2.1
        · rw [rI_oth c, rI_cell (by omega), rI_cell (by omega), rI_cell (by omega)]; exact this.2.2.2)
    exact ⟨S2, e1, e2, frm_trans hf e3 (fun a ha => by omega) (fun a ha => ha)⟩
theorem m_copy {k0 k1 : Nat} (h0 : sd_kd k0 = 4) (h1 : sd_kd k1 = 4) (hne : k0 ≠ k1) {rp : Rp} (hl : rp.length ≤ 16) {S : sd_St} (hR : RC k1 S rp) : ∃ S2, f_X4_copyFrom k0 k1 S = some ((), S2) ∧ RC k0 S2 rp ∧ frm (fun a => k0 ≤ a ∧ a ≤ k0 + 4) S S2 := by
  have hd : k0 + 4 < k1 ∨ k1 + 4 < k0 := by
    have := kd_4 h0
    have := kd_4 h1
    omega
  obtain ⟨S2, e1, e2, e3⟩ := m_copy_l h0 h1 hne hl rp.length sd_FU 0 (sd_I S k0 0 (nI rp.length)) (by omega) (by unfold sd_FU; omega) (RC_fr hR (fun a g1 g2 => rI_cell (by omega))) rI_same (fun j _ _ _ _ hj => absurd hj (by omega))
  refine ⟨S2, ?_, e2, frm_trans (frm_I (c := fun a => k0 ≤ a ∧ a ≤ k0 + 4) (by omega)) e3 (fun _ h => h) (fun _ h => h)⟩
  unfold f_X4_copyFrom
  rw [hR.1, sd_nm_eq]
  exact e1
theorem ix170 (a i : Nat) : (170 : Int32) * nI a + nI i = nI (170 * a + i) := by
  rw [show (170 : Int32) = nI 170 from rfl, nI_mul, nI_add]
theorem n_carry_l {a b : Nat} (ha : a < 6) (hb : b < 6) (hab : a ≠ b) : ∀ (m n i : Nat) (S : sd_St), i + m = 170 → m < n → f_X12_carry_l2 n (nI a) (nI b) (nI i) S = some ((), sd_A S 136 (fun j => if 170 * b + i ≤ j ∧ j < 170 * b + 170 then S.1 136 (j - 170 * b + 170 * a) else S.1 136 j)) := by
  intro m
  induction m with
  | zero =>
    intro n i S hi hn
    obtain ⟨n, rfl⟩ : ∃ n', n = n' + 1 := ⟨n - 1, by omega⟩
    unfold f_X12_carry_l2
    rw [if_pos (show (170 : Int32) ≤ nI i from nI_le (a := 170) (by omega) (by omega))]
    congr 1
    refine Prod.ext rfl ?_
    dsimp only
    refine Prod.ext ?_ rfl
    funext x j
    rw [rA]
    by_cases c : x = 136
    · rw [if_pos c, if_neg (by omega), c]
    · rw [if_neg c]
  | succ m ih =>
    intro n i S hi hn
    obtain ⟨n, rfl⟩ : ∃ n', n = n' + 1 := ⟨n - 1, by omega⟩
    unfold f_X12_carry_l2
    rw [if_neg (show ¬ (170 : Int32) ≤ nI i from nI_ge (b := 170) (by omega) (by decide)), ix170, ix170, ldT (by omega), sd_st_ok (by rw [al136]; omega) (sd_al_lt _), nI_1, ih n (i + 1) _ (by omega) (by omega), sd_A_I]
    congr 3
    funext j
    by_cases c : j = 170 * b + i
    · subst c
      rw [if_neg (by omega), rI_same, if_pos (by omega), show 170 * b + i - 170 * b + 170 * a = 170 * a + i by omega]
    · rw [rI_oth c]
      by_cases c2 : 170 * b + i ≤ j ∧ j < 170 * b + 170
      · rw [if_pos (by omega), if_pos c2, rI_oth (by omega)]
      · rw [if_neg (by omega), if_neg c2]
theorem n_carry {a b : Nat} (ha : a < 6) (hb : b < 6) (hab : a ≠ b) (S : sd_St) : ∃ S2, f_X12_carry (nI a) (nI b) S = some ((), S2) ∧ (∀ j, j < 170 → S2.1 136 (170 * b + j) = S.1 136 (170 * a + j)) ∧ (∀ j, (j < 170 * b ∨ 170 * b + 170 ≤ j) → S2.1 136 j = S.1 136 j) ∧ (∀ x, x ≠ 136 → S2.1 x = S.1 x) ∧ S2.2 = S.2 := by
  refine ⟨_, n_carry_l ha hb hab 170 sd_FU 0 S (by omega) (by decide), fun j hj => ?_, fun j hj => ?_, fun x hx => rA_cell hx, rfl⟩
  · rw [rA_same, if_pos (by omega), show 170 * b + j - 170 * b + 170 * a = 170 * a + j by omega]
  · rw [rA_same, if_neg (by omega)]
theorem setZ_id (T : TW) : setZ T (tz T) = T := by
  funext i j
  unfold setZ
  by_cases c : i = 13 ∧ j = 0
  · rw [if_pos c, c.1, c.2]
  · rw [if_neg c]
theorem kd_m {m : Nat} (hm : m < 4) : sd_kd (81 + 5 * m) = 4 := by
  rcases (show m = 0 ∨ m = 1 ∨ m = 2 ∨ m = 3 by omega) with h | h | h | h <;> subst h <;> decide
theorem al80 : sd_al 78 = 4 ∧ sd_al 79 = 4 ∧ sd_al 80 = 4 ∧ sd_al 154 = 4 ∧ sd_al (77 + 1) = 4 ∧ sd_al (77 + 2) = 4 := by decide
theorem mk_ix {β : Type} {s : Nat} (hs : s < 4) {f : Nat → Option β} : sd_in (nI s) (sd_al (77 + 3)) (sd_nm (81 + 5 * (nI s).toNatClampNeg) f) = f (81 + 5 * s) := by
  rw [sd_in_ok (by rw [show sd_al (77 + 3) = 4 by decide]; exact hs) (sd_al_lt _), sd_nm_eq, nI_clamp (by omega)]
def mkS (mk : Nat → Option (Nat × Rp)) (m z : Nat) (rp : Rp) : Nat → Option (Nat × Rp) := fun k => if k = m then some (z, rp) else mk k
theorem nar_z {z : Nat} (hz : z ≤ 1) : vp_nar .boolean (nI z) = nI z := by
  rcases (show z = 0 ∨ z = 1 by omega) with h | h <;> subst h <;> decide
theorem ag_mark (x1 x2 : Int32) : AG (f_X11_mark x1 x2) (f_X12_mark x1 x2) := by
  intro σ hw
  obtain ⟨T, rp, mk, tp⟩ := σ
  have hw0 := hw
  obtain ⟨w1, w2, w3, w4, w5, w6⟩ := hw
  dsimp only at w1 w2 w3 w4 w5 w6
  have hz := w1.2.2.2.2.2.2.2
  have ha := al80
  rcases ix_or x1 (show 4 < 2 ^ 31 by decide) with ⟨m, hm, rfl⟩ | c1
  · by_cases c2 : x2 = 0
    · subst c2
      refine ⟨1, (T, rp, mkS mk m (tz T) rp, tp), ⟨w1, w2, w3, fun k z r hk => ?_, w5, w6⟩, fun S h => ?_, fun S h => ?_⟩
      · have hk : mkS mk m (tz T) rp k = some (z, r) := hk
        unfold mkS at hk
        by_cases c : k = m
        · rw [if_pos c] at hk
          cases hk
          exact ⟨hz, w3⟩
        · rw [if_neg c] at hk
          exact w4 k z r hk
      · obtain ⟨i1, i2, i3, i4, i5, i6⟩ := h
        obtain ⟨S0, hS0⟩ : ∃ S0, S0 = sd_I (sd_I S 78 m 1) 79 m (nI (tz T)) := ⟨_, rfl⟩
        have f0 : frm (fun a => a = 78 ∨ a = 79) S S0 := by
          rw [hS0]
          exact ⟨fun a ha => by rw [rI_cell (by omega), rI_cell (by omega)], fun _ _ => rfl⟩
        obtain ⟨S2, e1, e2, e3⟩ := m_copy (kd_m hm) (show sd_kd 72 = 4 by decide) (by omega) w3.1 (RC_fr (S2 := S0) i2 (fun a g1 g2 => f0.1 a (by omega)))
        have hs : ∀ a, a ≠ 78 → a ≠ 79 → ¬ (81 + 5 * m ≤ a ∧ a ≤ 81 + 5 * m + 4) → S2.1 a = S.1 a := fun a h1 h2 h3 => by rw [e3.1 a h3, f0.1 a (by omega)]
        refine ⟨S2, ?_, ?_, frm_trans f0 e3 (fun a h => by unfold loC; omega) (fun a h => by unfold loC; omega)⟩
        · unfold f_X11_mark f_X3_lay
          rw [if_neg (nI_pos (by omega)), if_pos (show nI m < (4 : Int32) from nI_lt (b := 4) hm (by decide)), if_pos rfl, show vp_nar .boolean (1 : Int32) = 1 by decide, sd_st_ok (by omega) (sd_al_lt _), rI_cell (by decide), i1.1.2.2.2.2.2.2.2, nar_z hz, sd_st_ok (by omega) (sd_al_lt _), mk_ix hm, ← hS0, sd_cl_ok e1]
          rfl
        · refine ⟨CTX_fr i1 (fun a h1 h2 => hs a (by omega) (by omega) (by omega)), RC_fr i2 (fun a h1 h2 => hs a (by omega) (by omega) (by omega)), fun k hk => ?_, TPc_fr i4 (hs _ (by omega) (by omega) (by omega)) (hs _ (by omega) (by omega) (by omega)), CC_fr w1 i5 (by rw [hs 0 (by omega) (by omega) (by omega)]) (fun a h1 h2 => hs a (by omega) (by omega) (by omega)), ?_⟩
          · have h78 : S2.1 78 k = if k = m then 1 else S.1 78 k := by
              rw [e3.1 78 (by omega), hS0, rI_cell (by decide), rI]
              simp
            have h79 : S2.1 79 k = if k = m then nI (tz T) else S.1 79 k := by
              rw [e3.1 79 (by omega), hS0, rI, rI_cell (by decide)]
              simp
            rw [h78, h79]
            by_cases c : k = m
            · subst c
              exact Or.inr ⟨tz T, rp, by show mkS _ _ _ _ _ = _; unfold mkS; rw [if_pos rfl], by rw [if_pos rfl], by rw [if_pos rfl], e2⟩
            · rw [if_neg c, if_neg c]
              rcases i3 k hk with ⟨g1, g2⟩ | ⟨z, r, g1, g2, g3, g4⟩
              · exact Or.inl ⟨by show mkS _ _ _ _ _ = _; unfold mkS; rw [if_neg c]; exact g1, g2⟩
              · exact Or.inr ⟨z, r, by show mkS _ _ _ _ _ = _; unfold mkS; rw [if_neg c]; exact g1, g2, g3, RC_fr g4 (fun a h1 h2 => hs a (by omega) (by omega) (by omega))⟩
          · intro p hp
            rw [hs 129 (by omega) (by omega) (by omega)]
            exact i6 p hp
      · obtain ⟨t1, t2⟩ := IR_thr h
        obtain ⟨S0, hS0⟩ : ∃ S0, S0 = sd_I S 130 0 0 := ⟨_, rfl⟩
        rw [← hS0] at t1 t2
        obtain ⟨i1, i2, i3, i4⟩ := t1
        dsimp only at i1 i2 i3
        obtain ⟨S2, e1, e2, e3, e4, e5⟩ := n_carry (show 0 < 6 by decide) (show 2 + m < 6 by omega) (by omega) (sd_I S0 154 m 1)
        refine ⟨S2, ?_, ?_, frm_trans t2 (d := hiC) ⟨fun a ha => ?_, fun a _ => by rw [e5]; rfl⟩ (fun _ h => h) (fun _ h => h)⟩
        · unfold f_X12_mark f_X12_mark_b29 f_X12_mark_b48 f_X12_mark_b59
          rw [sd_nm_eq, ← hS0, show (3 : Int32) = nI 3 from rfl, sd_cl_ok (n_within (by omega) (by decide)), if_neg (by decide), if_pos rfl, show vp_nar .boolean (1 : Int32) = 1 by decide, sd_st_ok (by omega) (sd_al_lt _), if_pos rfl, if_pos rfl, show (2 : Int32) = nI 2 from rfl, nI_add]
          rw [show (0 : Int32) = nI 0 from rfl, sd_cl_ok e1]
        · have hg : ∀ j, (j < 170 * (2 + m) ∨ 170 * (2 + m) + 170 ≤ j) → S2.1 136 j = S0.1 136 j := fun j hj => by rw [e3 j hj]; rw [rI_cell (by decide)]
          refine ⟨RG_fr w1 w3.1 i1 (fun j hj => hg j (by omega)), fun k hk => ?_, ?_, ?_⟩
          · have h154 : S2.1 154 k = if k = m then 1 else S0.1 154 k := by
              rw [e4 154 (by decide), rI]
              simp
            rw [h154]
            by_cases c : k = m
            · subst c
              refine Or.inr ⟨tz T, rp, by show mkS _ _ _ _ _ = _; unfold mkS; rw [if_pos rfl], by rw [if_pos rfl], ?_⟩
              show RG _ (setZ T (tz T)) rp
              rw [setZ_id]
              exact RG_fr w1 w3.1 i1 (fun j hj => by rw [e2 j hj, rI_cell (by decide), Nat.mul_zero, Nat.zero_add])
            · rw [if_neg c]
              rcases i2 k hk with ⟨g1, g2⟩ | ⟨z, r, g1, g2, g3⟩
              · exact Or.inl ⟨by show mkS _ _ _ _ _ = _; unfold mkS; rw [if_neg c]; exact g1, g2⟩
              · refine Or.inr ⟨z, r, by show mkS _ _ _ _ _ = _; unfold mkS; rw [if_neg c]; exact g1, g2, ?_⟩
                have hk2 := w4 k z r g1
                exact RG_fr (wf_setZ w1 hk2.1) hk2.2.1 g3 (fun j hj => hg _ (by omega))
          · rw [e4 130 (by decide), e4 131 (by decide), rI_cell (by decide), rI_cell (by decide)]
            exact i3
          · rw [e5]
            exact i4
        · have ha : ¬ 130 ≤ a := ha
          rw [e4 a (by omega), rI_cell (by omega)]
    · cases hmk : mk m with
      | none =>
        refine AG_none hw0 (v := 0) (fun S h => ?_) (fun S h => ?_)
        · have : S.1 78 m = 0 := by
            rcases h.2.2.1 m hm with ⟨g1, g2⟩ | ⟨z, r, g1, g2, g3, g4⟩
            · exact g2
            · have g1 : mk m = some (z, r) := g1
              rw [hmk] at g1; cases g1
          unfold f_X11_mark
          rw [if_neg (nI_pos (by omega)), if_pos (show nI m < (4 : Int32) from nI_lt (b := 4) hm (by decide)), if_neg c2, sd_ld_ok (by omega) (sd_al_lt _), this, if_pos rfl]
        · have t1 := (IR_thr h).1
          have : (sd_I S 130 0 0).1 154 m = 0 := by
            rcases t1.2.1 m hm with ⟨g1, g2⟩ | ⟨z, r, g1, g2, g3⟩
            · exact g2
            · have g1 : mk m = some (z, r) := g1
              rw [hmk] at g1; cases g1
          unfold f_X12_mark
          rw [sd_nm_eq, show (3 : Int32) = nI 3 from rfl, sd_cl_ok (n_within (by omega) (by decide)), if_neg (by decide), if_neg c2, sd_ld_ok (by omega) (sd_al_lt _), this, if_pos rfl]
      | some zr =>
        obtain ⟨z, r⟩ := zr
        obtain ⟨hz1, hr1⟩ := w4 m z r hmk
        refine ⟨1, (setZ T z, r, mk, tp), ⟨wf_setZ w1 hz1, w2, hr1, w4, w5, w6⟩, fun S h => ?_, fun S h => ?_⟩
        · obtain ⟨i1, i2, i3, i4, i5, i6⟩ := h
          dsimp only at i3
          obtain ⟨g2, g3, g4⟩ : S.1 78 m = 1 ∧ S.1 79 m = nI z ∧ RC (81 + 5 * m) S r := by
            rcases i3 m hm with ⟨g1, g2⟩ | ⟨z', r', g1, g2, g3, g4⟩
            · rw [hmk] at g1; cases g1
            · rw [hmk] at g1
              cases g1
              exact ⟨g2, g3, g4⟩
          obtain ⟨S1, e1, e2, e3⟩ := m_copy (k0 := 72) (S := sd_I S 17 15 (nI z)) (by decide) (kd_m hm) (by omega) hr1.1 (RC_fr g4 (fun a g1 g2 => rI_cell (by omega)))
          obtain ⟨S2, y1, y2, y3, y4⟩ := m_forgetW S1
          have hs : ∀ a, a ≠ 0 → a ≠ 129 → a ≠ 17 → ¬ (72 ≤ a ∧ a ≤ 76) → S2.1 a = S.1 a := fun a h1 h2 h3 h4 => by rw [y4.1 a (by omega), e3.1 a (by omega), rI_cell h3]
          refine ⟨S2, ?_, ?_, frm_trans (frm_I (c := loC) (k := 17) (j := 15) (v := nI z) (by unfold loC; omega)) (frm_trans (e := loC) e3 y4 (fun a h => by unfold loC; omega) (fun a h => by unfold loC; omega)) (fun _ h => h) (fun _ h => h)⟩
          · unfold f_X11_mark f_X3_goBack sd_ckz
            rw [if_neg (nI_pos (by omega)), if_pos (show nI m < (4 : Int32) from nI_lt (b := 4) hm (by decide)), if_neg c2, sd_ld_ok (by omega) (sd_al_lt _), g2, if_neg (by decide), sd_ld_ok (by rw [show sd_al (77 + 2) = 4 by decide]; omega) (sd_al_lt _), g3, if_pos (by rcases (show z = 0 ∨ z = 1 by omega) with h | h <;> subst h <;> decide), sd_nm_eq, mk_ix hm, sd_cl_ok e1, sd_cl_ok rfl, sd_cl_ok y1]
          · refine ⟨CT_Z i1 (fun j => ?_) (fun a h1 h2 => hs a (by omega) (by omega) (by omega) (by omega)), RC_fr e2 (fun a h1 h2 => y4.1 a (by omega)), MKc_fr i3 (fun a h1 h2 => hs a (by omega) (by omega) (by omega) (by omega)), TPc_fr i4 (hs _ (by omega) (by omega) (by omega) (by omega)) (hs _ (by omega) (by omega) (by omega) (by omega)), Or.inl y2, fun p hp => Or.inl (y3 p hp)⟩
            rw [y4.1 17 (by omega), e3.1 17 (by omega), rI]
            by_cases c : j = 15
            · rw [if_pos ⟨rfl, c⟩, if_pos c]
            · rw [if_neg (fun z => c z.2), if_neg c]
        · obtain ⟨t1, t2⟩ := IR_thr h
          obtain ⟨S0, hS0⟩ : ∃ S0, S0 = sd_I S 130 0 0 := ⟨_, rfl⟩
          rw [← hS0] at t1 t2
          obtain ⟨i1, i2, i3, i4⟩ := t1
          dsimp only at i1 i2 i3
          obtain ⟨g2, g3⟩ : S0.1 154 m = 1 ∧ RG (fun j => S0.1 136 (170 * (2 + m) + j)) (setZ T z) r := by
            rcases i2 m hm with ⟨g1, g2⟩ | ⟨z', r', g1, g2, g3⟩
            · rw [hmk] at g1; cases g1
            · rw [hmk] at g1
              cases g1
              exact ⟨g2, g3⟩
          obtain ⟨S2, e1, e2, e3, e4, e5⟩ := n_carry (show 2 + m < 6 by omega) (show 0 < 6 by decide) (by omega) (sd_I S0 154 m 1)
          refine ⟨S2, ?_, ?_, frm_trans t2 (d := hiC) ⟨fun a ha => ?_, fun a _ => by rw [e5]; rfl⟩ (fun _ h => h) (fun _ h => h)⟩
          · unfold f_X12_mark f_X12_mark_b29 f_X12_mark_b48 f_X12_mark_b59
            rw [sd_nm_eq, ← hS0, show (3 : Int32) = nI 3 from rfl, sd_cl_ok (n_within (by omega) (by decide)), if_neg (by decide), if_neg c2, sd_ld_ok (by omega) (sd_al_lt _), g2, if_neg (by decide), show vp_nar .boolean (1 : Int32) = 1 by decide, sd_st_ok (by omega) (sd_al_lt _), if_neg c2, if_neg c2, show (2 : Int32) = nI 2 from rfl, nI_add]
            rw [show (0 : Int32) = nI 0 from rfl, sd_cl_ok e1]
          · have hg : ∀ j, (170 ≤ j) → S2.1 136 j = S0.1 136 j := fun j hj => by rw [e3 j (by omega)]; rw [rI_cell (by decide)]
            have h154 : ∀ k, S2.1 154 k = S0.1 154 k := by
              intro k
              rw [e4 154 (by decide), rI]
              by_cases c : k = m
              · rw [if_pos ⟨rfl, c⟩, c, g2]
              · rw [if_neg (fun z => c z.2)]
            refine ⟨RG_fr (wf_setZ w1 hz1) hr1.1 g3 (fun j hj => by have := e2 j hj; rw [rI_cell (by decide)] at this; rw [Nat.mul_zero, Nat.zero_add] at this; exact this), fun k hk => ?_, ?_, ?_⟩
            · rw [h154]
              rcases i2 k hk with ⟨g1, g2⟩ | ⟨z', r', g1, g2, g3⟩
              · exact Or.inl ⟨g1, g2⟩
              · refine Or.inr ⟨z', r', g1, g2, ?_⟩
                have hk2 := w4 k z' r' g1
                show RG _ (setZ (setZ T z) z') r'
                rw [setZ_2]
                exact RG_fr (wf_setZ w1 hk2.1) hk2.2.1 g3 (fun j hj => hg _ (by omega))
            · rw [e4 130 (by decide), e4 131 (by decide), rI_cell (by decide), rI_cell (by decide)]
              exact i3
            · rw [e5]
              exact i4
          · have ha : ¬ 130 ≤ a := ha
            rw [e4 a (by omega), rI_cell (by omega)]
  · refine AG_none hw0 (v := 0) (fun S h => ?_) (fun S h => ?_)
    · unfold f_X11_mark
      by_cases c : x1 < 0
      · rw [if_pos c]
      · rw [if_neg c, if_neg (show ¬ x1 < (4 : Int32) from Int32.not_lt.mpr (c1.resolve_left c))]
    · unfold f_X12_mark
      rw [sd_nm_eq, show (3 : Int32) = nI 3 from rfl, sd_cl_ok (n_within_n (by decide) c1), if_pos rfl]
