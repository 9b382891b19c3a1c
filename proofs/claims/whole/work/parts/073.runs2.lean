/-! runs -/
abbrev ZS : Type := Int64 × Int32 × Int32
def yR (T : TW) (s : Nat) (x : Int64) : ZR := rnR T (tg T s) (evs T 4392) (x, h0 (tg T s) (tx T s))
theorem hok_yR {T : TW} (hw : wfT T) {s : Nat} (hs : s < ts T) (x : Int64) : hok T (tg T s) (tx T s) (yR T s x).2 := by
  obtain ⟨w1, w2⟩ := hw.2.2.2.2.2.1 s hs
  exact hok_rnR hw (hok_0 w1 w2) (EVw_in (evs_EV T).weak)
def rst (T : TW) (s p t : Nat) (z : ZS) : ZS := ((yR T s z.1).1, if (yR T s z.1).2 p ≤ t then z.2.1 + 1 else z.2.1, if (yR T s z.1).2 p ≤ t then z.2.2 + nI ((yR T s z.1).2 p) else z.2.2)
theorem rst_1 (T : TW) (s p t : Nat) (z : ZS) : (rst T s p t z).1 = (yR T s z.1).1 := by
  unfold rst
  dsimp only
def rit (T : TW) (s p t : Nat) : Nat → ZS → ZS
  | 0, z => z
  | m + 1, z => rit T s p t m (rst T s p t z)
theorem rit_s (T : TW) (s p t m : Nat) (z : ZS) : rit T s p t (m + 1) z = rit T s p t m (rst T s p t z) := rfl
theorem m_runs_l {σ : Sg} (hw : WF σ) {s p t N : Nat} (hs : s < ts σ.1) (hp : p < tn σ.1) (ht : t < 4392) (hN : N < 2 ^ 30) {x6 : Int32} : ∀ (m n i : Nat) (S : sd_St) (z : ZS), i + m = N → m < n → IC S σ → UP S σ.1 → S.2 71 0 = z.1 →
    ∃ S2, f_X11_runs_l81 n (nI N) (nI s) (nI p) (nI t) x6 z.2.1 z.2.2 (nI i) S = some (if x6 = 0 then (rit σ.1 s p t m z).2.1 else (rit σ.1 s p t m z).2.2, S2) ∧ IC S2 σ ∧ frm loC S S2 := by
  have hw1 := hw.1
  have h12 := hw1.1
  intro m
  induction m with
  | zero =>
    intro n i S z hi hn hI hU hx
    obtain ⟨n, rfl⟩ : ∃ n', n = n' + 1 := ⟨n - 1, by omega⟩
    refine ⟨S, ?_, hI, frm_rfl⟩
    unfold f_X11_runs_l81 rit
    rw [if_pos (nI_le (by omega) (by omega))]
    by_cases c : x6 = 0
    · rw [if_pos c, if_pos c]
    · rw [if_neg c, if_neg c]
  | succ m ih =>
    intro n i S z hi hn hI hU hx
    obtain ⟨n, rfl⟩ : ∃ n', n = n' + 1 := ⟨n - 1, by omega⟩
    obtain ⟨S1, e1, e2, e3, e4⟩ := m_live hw1 hs (IC_T hI) hU.2.1 hx
    have e2 : RM 54 S1 (tg σ.1 s) (yR σ.1 s z.1).2 := e2
    have e3 : S1.2 71 0 = (yR σ.1 s z.1).1 := e3
    have hy := hok_yR hw1 hs z.1
    have hU1 : UP S1 σ.1 := UP_fr hw1 hU (by rw [e4.1 0 (by omega)]) (fun a h1 h2 => e4.1 a (by omega))
    have hI1 : IC S1 σ := IC_fr hI (fun a ha => e4.1 a (by unfold keepC at ha; omega)) (Or.inr hU1)
    obtain ⟨S2, k1, k2, k3⟩ := ih n (i + 1) S1 (rst σ.1 s p t z) (by omega) (by omega) hI1 hU1 (by rw [rst_1]; exact e3)
    refine ⟨S2, ?_, k2, frm_trans e4 k3 (fun a h => by unfold loC; omega) (fun _ h => h)⟩
    have hb12 := hy.1
    rw [rit_s, ← k1]
    unfold rst
    conv => lhs; unfold f_X11_runs_l81 f_X11_runs_b138
    generalize yR σ.1 s z.1 = y at e2 hy
    rw [if_neg (nI_ge (by omega) (by omega)), sd_cl_ok e1, sd_cl_ok (m_hadBy (by decide) e2 hy (by omega) (by omega) ht), sd_cl_ok (m_had (by decide) e2 hy (by omega) (by omega)), sd_nm_eq, nI_1]
    by_cases c : y.2 p ≤ t
    · have hne : ¬ y.2 p = FARN := by unfold FARN; omega
      unfold hadI
      rw [if_pos c, if_neg (by decide), if_neg hne, if_pos c, if_pos c]
    · rw [if_neg c, if_pos (by decide), if_neg c, if_neg c]
theorem n_runs_l {σ : Sg} (hw : WF σ) {s p t N : Nat} (hs : s < ts σ.1) (hp : p < tn σ.1) (ht : t < 4392) (hN : N < 2 ^ 30) {x6 : Int32} : ∀ (m n i : Nat) (S : sd_St) (z : ZS), i + m = N → m < n → IR S σ → S.2 130 33 = z.1 →
    ∃ S2, f_X12_runs_l71 n (nI N) (nI s) (nI p) (nI t) x6 z.2.1 z.2.2 (nI i) S = some (if x6 = 0 then (rit σ.1 s p t m z).2.1 else (rit σ.1 s p t m z).2.2, S2) ∧ IR S2 σ ∧ frm hiC S S2 := by
  have hw1 := hw.1
  have h12 := hw1.1
  intro m
  induction m with
  | zero =>
    intro n i S z hi hn hI hx
    obtain ⟨n, rfl⟩ : ∃ n', n = n' + 1 := ⟨n - 1, by omega⟩
    refine ⟨S, ?_, hI, frm_rfl⟩
    unfold f_X12_runs_l71 rit
    rw [if_pos (nI_le (by omega) (by omega))]
    by_cases c : x6 = 0
    · rw [if_pos c, if_pos c]
    · rw [if_neg c, if_neg c]
  | succ m ih =>
    intro n i S z hi hn hI hx
    obtain ⟨n, rfl⟩ : ∃ n', n = n' + 1 := ⟨n - 1, by omega⟩
    obtain ⟨S1, e1, e2, e4, e5⟩ := n_dy hw1 hw.2.1 hs (IR_T hI) hx
    have e2 : RX S1 σ.1 (yR σ.1 s z.1) := e2
    obtain ⟨q1, q2, q3⟩ := e2
    have hI1 : IR S1 σ := IR_fr hI (e4.1 136 (by omega)) (e4.1 154 (by omega)) (e5 2 (by decide)) (e4.1 131 (by omega)) (e4.2 135 (by omega))
    obtain ⟨S2, k1, k2, k3⟩ := ih n (i + 1) S1 (rst σ.1 s p t z) (by omega) (by omega) hI1 (by rw [rst_1]; exact q1)
    refine ⟨S2, ?_, k2, frm_trans e4 k3 (fun a h => by unfold hiC; omega) (fun _ h => h)⟩
    rw [rit_s, ← k1]
    unfold rst
    conv => lhs; unfold f_X12_runs_l71 f_X12_runs_b101 f_X12_runs_b129
    generalize yR σ.1 s z.1 = y at q2 q3
    have hv : y.2 p < 2 ^ 30 := by
      rcases q3 p with g | g
      · rw [g]; decide
      · omega
    have hz : ∀ x : Int32, x + 0 = x := fun x => Int32.add_zero x
    rw [if_neg (nI_ge (by omega) (by omega)), sd_cl_ok e1, sd_ld_ok (by rw [al140]; omega) (sd_al_lt _), q2 p hp]
    by_cases c : y.2 p ≤ t
    · rw [if_neg (nI_nlt c (by omega)), sd_nm_eq, sd_ld_ok (by rw [al140]; omega) (sd_al_lt _), q2 p hp, if_neg (nI_nlt c (by omega)), sd_ld_ok (by rw [al140]; omega) (sd_al_lt _), q2 p hp, sd_nm_eq, nI_1, if_pos c, if_pos c]
    · rw [if_pos (nI_lt (by omega) (by omega)), sd_nm_eq, sd_ld_ok (by rw [al140]; omega) (sd_al_lt _), q2 p hp, if_pos (nI_lt (by omega) (by omega)), sd_nm_eq, nI_1, if_neg c, if_neg c, hz, hz]
theorem n_runs_n {S : sd_St} {σ : Sg} (hw1 : wfT σ.1) (h : IR S σ) {x1 x2 x3 x4 x5 x6 : Int32} (hn : (x1 < 0 ∨ (9999 : Int32) < x1) ∨ (x2 < 1 ∨ (20 : Int32) < x2) ∨ ((x3 < 0 ∨ nI (ts σ.1) ≤ x3) ∨ (x4 < 0 ∨ nI (tn σ.1) ≤ x4)) ∨ (x5 < 0 ∨ nI 4392 ≤ x5) ∨ (¬ x6 = 0 ∧ ¬ x6 = 1)) : f_X12_runs x1 x2 x3 x4 x5 x6 S = some (-1, sd_I S 130 0 0) := by
  have t1 := (IR_thr h).1
  have hwi : ∀ (x lo hi : Int32) (S : sd_St), (x < lo ∨ hi < x) → f_X12_within x lo hi S = some (0, S) := by
    intro x lo hi S h
    unfold f_X12_within
    by_cases c : x < lo
    · rw [if_pos c]
    · rw [if_neg c, if_pos (h.resolve_left c)]
  have hwo : ∀ (x lo hi : Int32) (S : sd_St), ¬ (x < lo ∨ hi < x) → f_X12_within x lo hi S = some (1, S) := by
    intro x lo hi S h
    unfold f_X12_within
    rw [if_neg (fun z => h (Or.inl z)), if_neg (fun z => h (Or.inr z))]
  unfold f_X12_runs
  rw [sd_nm_eq]
  by_cases c1 : x1 < 0 ∨ (9999 : Int32) < x1
  · rw [sd_cl_ok (hwi x1 0 9999 _ c1), if_pos rfl]
  rw [sd_cl_ok (hwo x1 0 9999 _ c1), if_neg (by decide)]
  by_cases c2 : x2 < 1 ∨ (20 : Int32) < x2
  · rw [sd_cl_ok (hwi x2 1 20 _ c2), if_pos rfl]
  rw [sd_cl_ok (hwo x2 1 20 _ c2), if_neg (by decide)]
  by_cases c3 : (x3 < 0 ∨ nI (ts σ.1) ≤ x3) ∨ (x4 < 0 ∨ nI (tn σ.1) ≤ x4)
  · rw [sd_cl_ok (n_areThere_n (IR_T t1) hw1 c3), if_pos rfl]
  rcases ix_or x3 (wf31 hw1).2 with ⟨s, hs, rfl⟩ | d3
  · rcases ix_or x4 (wf31 hw1).1 with ⟨p, hp, rfl⟩ | d4
    · rw [sd_cl_ok (n_areThere (IR_T t1) hw1 hs hp), if_neg (by decide)]
      rcases ix_or x5 (show 4392 < 2 ^ 31 by decide) with ⟨t, ht, rfl⟩ | d5
      · rw [sd_cl_ok (n_isDate ht), if_neg (by decide)]
        have c6 : ¬ x6 = 0 ∧ ¬ x6 = 1 := by
          rcases hn with h | h | h | h | h
          · exact absurd h c1
          · exact absurd h c2
          · exact absurd h c3
          · rcases h with h | h
            · exact absurd h (nI_pos (by omega))
            · exact absurd h (nI_ge ht (by decide))
          · exact h
        rw [sd_cl_ok (n_one_n c6), if_pos rfl]
      · rw [sd_cl_ok (n_isDate_n d5), if_pos rfl]
    · exact absurd (Or.inr d4) c3
  · exact absurd (Or.inl d3) c3
theorem ag_runs (x1 x2 x3 x4 x5 x6 : Int32) : AG (f_X11_runs x1 x2 x3 x4 x5 x6) (f_X12_runs x1 x2 x3 x4 x5 x6) := by
  intro σ hw
  have hw1 := hw.1
  by_cases a1 : x1 < 0
  · exact AG_none hw (v := -1) (fun S h => by unfold f_X11_runs; rw [if_pos a1]) (fun S h => n_runs_n hw1 h (Or.inl (Or.inl a1)))
  by_cases a2 : (9999 : Int32) < x1
  · exact AG_none hw (v := -1) (fun S h => by unfold f_X11_runs; rw [if_neg a1, if_pos a2]) (fun S h => n_runs_n hw1 h (Or.inl (Or.inr a2)))
  by_cases b1 : x2 < 1
  · exact AG_none hw (v := -1) (fun S h => by unfold f_X11_runs; rw [if_neg a1, if_neg a2, if_pos b1]) (fun S h => n_runs_n hw1 h (Or.inr (Or.inl (Or.inl b1))))
  by_cases b2 : (20 : Int32) < x2
  · exact AG_none hw (v := -1) (fun S h => by unfold f_X11_runs; rw [if_neg a1, if_neg a2, if_neg b1, if_pos b2]) (fun S h => n_runs_n hw1 h (Or.inr (Or.inl (Or.inr b2))))
  rcases two_or x6 with c6 | c6
  · rcases ix_or x3 (wf31 hw1).2 with ⟨s, hs, rfl⟩ | d3
    · rcases ix_or x4 (wf31 hw1).1 with ⟨p, hp, rfl⟩ | d4
      · rcases ix_or x5 (show 4392 < 2 ^ 31 by decide) with ⟨t, ht, rfl⟩ | d5
        · obtain ⟨N, hN, rfl⟩ : ∃ N, N < 21 ∧ x2 = nI N := by
            rcases ix_or x2 (show 21 < 2 ^ 31 by decide) with h | h
            · exact h
            · exfalso
              rcases h with h | h
              · exact b1 (Int32.lt_trans h (by decide))
              · exact b2 (Int32.lt_of_lt_of_le (show (20 : Int32) < nI 21 by decide) h)
          refine ⟨if x6 = 0 then (rit σ.1 s p t N (x1.toInt64, 0, 0)).2.1 else (rit σ.1 s p t N (x1.toInt64, 0, 0)).2.2, σ, hw, fun S h => ?_, fun S h => ?_⟩
          · obtain ⟨S1, e1, e2, e3, e4⟩ := IC_up hw h
            have f0 : frm (fun a => a = 71) S1 (sd_L S1 71 0 x1.toInt64) := frm_L rfl
            have hU1 : UP (sd_L S1 71 0 x1.toInt64) σ.1 := UP_fr hw1 e2 rfl (fun a h1 h2 => rfl)
            have hI1 : IC (sd_L S1 71 0 x1.toInt64) σ := IC_fr e3 (fun a ha => rfl) (Or.inr hU1)
            obtain ⟨S2, k1, k2, k3⟩ := m_runs_l (x6 := x6) hw hs hp ht (show N < 2 ^ 30 by omega) N sd_FU 0 _ (x1.toInt64, 0, 0) (by omega) (by unfold sd_FU; omega) hI1 hU1 rL_same
            refine ⟨S2, ?_, k2, frm_trans e4 (frm_trans (e := loC) f0 k3 (fun a h => by unfold loC; omega) (fun _ h => h)) (fun _ h => h) (fun _ h => h)⟩
            unfold f_X11_runs f_X0_start
            rw [if_neg a1, if_neg a2, if_neg b1, if_neg b2, sd_cl_ok (m_one_y c6), if_neg (by decide), sd_cl_ok (m_isSecret (IC_T h) hw1 hs), if_neg (by decide), sd_cl_ok (m_isPerson (IC_T h) hw1 hp), if_neg (by decide), sd_cl_ok (m_isDate ht), if_neg (by decide), sd_cl_ok e1, sd_nm_eq, sd_cl_ok rfl]
            exact k1
          · obtain ⟨t1, t2⟩ := IR_thr h
            obtain ⟨S0, hS0⟩ : ∃ S0, S0 = sd_I S 130 0 0 := ⟨_, rfl⟩
            rw [← hS0] at t1 t2
            have f0 : frm (fun a => a = 130) S0 (sd_L S0 130 33 x1.toInt64) := frm_L rfl
            have hI1 : IR (sd_L S0 130 33 x1.toInt64) σ := IR_fr t1 rfl rfl rfl rfl (f0.2 135 (by omega))
            obtain ⟨S2, k1, k2, k3⟩ := n_runs_l (x6 := x6) hw hs hp ht (show N < 2 ^ 30 by omega) N sd_FU 0 _ (x1.toInt64, 0, 0) (by omega) (by unfold sd_FU; omega) hI1 rL_same
            refine ⟨S2, ?_, k2, frm_trans t2 (frm_trans (e := hiC) f0 k3 (fun a h => by unfold hiC; omega) (fun _ h => h)) (fun _ h => h) (fun _ h => h)⟩
            unfold f_X12_runs
            have hwo : ∀ (x lo hi : Int32) (S : sd_St), ¬ x < lo → ¬ hi < x → f_X12_within x lo hi S = some (1, S) := by
              intro x lo hi S h1 h2
              unfold f_X12_within
              rw [if_neg h1, if_neg h2]
            rw [sd_nm_eq, ← hS0, sd_cl_ok (hwo _ _ _ _ a1 a2), if_neg (by decide), sd_cl_ok (hwo _ _ _ _ b1 b2), if_neg (by decide), sd_cl_ok (n_areThere (IR_T t1) hw1 hs hp), if_neg (by decide), sd_cl_ok (n_isDate ht), if_neg (by decide), sd_cl_ok (n_one_y c6), if_neg (by decide), sd_nm_eq]
            exact k1
        · refine AG_none hw (v := -1) (fun S h => ?_) (fun S h => n_runs_n hw1 h (Or.inr (Or.inr (Or.inr (Or.inl d5)))))
          unfold f_X11_runs
          rw [if_neg a1, if_neg a2, if_neg b1, if_neg b2, sd_cl_ok (m_one_y c6), if_neg (by decide), sd_cl_ok (m_isSecret (IC_T h) hw1 hs), if_neg (by decide), sd_cl_ok (m_isPerson (IC_T h) hw1 hp), if_neg (by decide), sd_cl_ok (m_isDate_n d5), if_pos rfl]
      · refine AG_none hw (v := -1) (fun S h => ?_) (fun S h => n_runs_n hw1 h (Or.inr (Or.inr (Or.inl (Or.inr d4)))))
        unfold f_X11_runs
        rw [if_neg a1, if_neg a2, if_neg b1, if_neg b2, sd_cl_ok (m_one_y c6), if_neg (by decide), sd_cl_ok (m_isSecret (IC_T h) hw1 hs), if_neg (by decide), sd_cl_ok (m_isPerson_n (IC_T h) d4), if_pos rfl]
    · refine AG_none hw (v := -1) (fun S h => ?_) (fun S h => n_runs_n hw1 h (Or.inr (Or.inr (Or.inl (Or.inl d3)))))
      unfold f_X11_runs
      rw [if_neg a1, if_neg a2, if_neg b1, if_neg b2, sd_cl_ok (m_one_y c6), if_neg (by decide), sd_cl_ok (m_isSecret_n (IC_T h) d3), if_pos rfl]
  · refine AG_none hw (v := -1) (fun S h => ?_) (fun S h => n_runs_n hw1 h (Or.inr (Or.inr (Or.inr (Or.inr c6)))))
    unfold f_X11_runs
    rw [if_neg a1, if_neg a2, if_neg b1, if_neg b2, sd_cl_ok (m_one_n c6), if_pos rfl]
