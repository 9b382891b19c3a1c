/-! THE CLASS'S CACHES -/
def hF (T : TW) (s : Nat) : Nat → Nat := hdt T (tg T s) (tx T s) 4392
def zF (T : TW) (s : Nat) : Z3 := zt T (tg T s) (hF T s) 4392
def UP (S : sd_St) (T : TW) : Prop := S.1 0 11 = 1 ∧ DR 28 S T (evs T 4392) ∧ ∀ s, s < ts T → RM (34 + 5 * s) S (tg T s) (hF T s) ∧ TR (34 + 5 * s) S (zF T s)
def CC (S : sd_St) (T : TW) : Prop := S.1 0 11 = 0 ∨ UP S T
theorem kd_r {s : Nat} (hs : s < 4) : sd_kd (34 + 5 * s) = 5 := by
  rcases (show s = 0 ∨ s = 1 ∨ s = 2 ∨ s = 3 by omega) with h | h | h | h <;> subst h <;> decide
theorem al33 : sd_al 33 = 4 := by decide
theorem al17 : sd_kd 17 = 8 := by decide
theorem kd28 : sd_kd 28 = 1 := by decide
theorem TR_fr {r : Nat} {S S2 : sd_St} {z : Z3} (h : TR r S z) (hs : ∀ a, r + 2 ≤ a → a ≤ r + 4 → S2.1 a = S.1 a) : TR r S2 z := by
  unfold TR at h ⊢
  rw [hs (r + 2) (by omega) (by omega), hs (r + 3) (by omega) (by omega), hs (r + 4) (by omega) (by omega)]
  exact h
theorem hok_F {T : TW} (hw : wfT T) {s : Nat} (hs : s < ts T) : hok T (tg T s) (tx T s) (hF T s) := by
  obtain ⟨h1, h2⟩ := hw.2.2.2.2.2.1 s hs
  exact hok_hd hw h1 h2 4392 (Nat.le_refl _)
/-- a secret's row by an index -/
theorem rum_ix {β : Type} {s : Nat} (hs : s < 4) {f : Nat → Option β} : sd_in (nI s) (sd_al 33) (sd_nm (34 + 5 * (nI s).toNatClampNeg) f) = f (34 + 5 * s) := by
  rw [sd_in_ok (by rw [al33]; exact hs) (sd_al_lt _), sd_nm_eq, nI_clamp (by omega)]
theorem m_up_l {T : TW} (hw : wfT T) : ∀ (m n s : Nat) (S : sd_St), s + m = ts T → m < n → CT 17 S T → DR 28 S T (evs T 4392) → (∀ k, k < s → RM (34 + 5 * k) S (tg T k) (hF T k) ∧ TR (34 + 5 * k) S (zF T k)) →
    ∃ S2, f_X11_bringUpToDate_l21 n (nI s) S = some ((), S2) ∧ UP S2 T ∧ CT 17 S2 T ∧ frm (fun a => a = 0 ∨ (34 ≤ a ∧ a ≤ 53)) S S2 ∧ ∀ j, j ≠ 11 → S2.1 0 j = S.1 0 j := by
  have hn := hw.1
  have hs4 := hw.2.2.2.2.1
  intro m
  induction m with
  | zero =>
    intro n s S hs hn hT hL hk
    obtain ⟨n, rfl⟩ : ∃ n', n = n' + 1 := ⟨n - 1, by omega⟩
    unfold f_X11_bringUpToDate_l21
    rw [hT.2.2.2.2.1, if_pos (nI_le (by omega) (by omega)), sd_nm_eq]
    refine ⟨_, rfl, ⟨rI_same, DR_fr hL (by rw [rI_cell (by decide)]) (fun a h1 h2 => rI_cell (by omega)), fun k hk2 => ?_⟩, CT_fr hT (fun a h1 h2 => rI_cell (by omega)), frm_I (Or.inl rfl), fun j hj => rI_oth hj⟩
    obtain ⟨g1, g2⟩ := hk k (by omega)
    exact ⟨RM_fr g1 (rI_cell (by omega)) (rI_cell (by omega)), TR_fr g2 (fun a h1 h2 => rI_cell (by omega))⟩
  | succ m ih =>
    intro n s S hs hn2 hT hL hk
    obtain ⟨n, rfl⟩ : ∃ n', n = n' + 1 := ⟨n - 1, by omega⟩
    have hst : s < ts T := by omega
    obtain ⟨a1, a2⟩ := hT.2.2.2.2.2.1 s hst
    obtain ⟨w1, w2⟩ := hw.2.2.2.2.2.1 s hst
    unfold f_X11_bringUpToDate_l21
    rw [hT.2.2.2.2.1, if_neg (nI_ge hst (by omega)), rum_ix (by omega), sd_ld_ok (by show s < 4; omega) (sd_al_lt _), sd_ld_ok (by show s < 4; omega) (sd_al_lt _), show S.1 26 s = nI (tg T s) from a1, show S.1 27 s = nI (tx T s) from a2, show (4391 : Int32) = nI 4392 - 1 by decide]
    obtain ⟨S1, e1, e2, e3⟩ := m_spread (r := 34 + 5 * s) (d := 28) (kd_r (by omega)) kd28 hw (evs_EV T).weak w1 w2 (Nat.le_refl 4392) hL
    rw [sd_cl_ok e1, rum_ix (by omega)]
    have hL1 : DR 28 S1 T (evs T 4392) := DR_fr hL (by rw [e3.1 28 (by omega)]) (fun a h1 h2 => e3.1 a (by omega))
    obtain ⟨S2, g1, g2, g3⟩ := m_trace (r := 34 + 5 * s) (d := 28) (kd_r (by omega)) kd28 hw (EVw_in (evs_EV T).weak) (hok_F hw hst) hL1 e2
    rw [sd_cl_ok g1, nI_1]
    have hT2 : CT 17 S2 T := CT_fr (CT_fr hT (fun a h1 h2 => e3.1 a (by omega))) (fun a h1 h2 => g3.1 a (by omega))
    have hL2 : DR 28 S2 T (evs T 4392) := DR_fr hL1 (by rw [g3.1 28 (by omega)]) (fun a h1 h2 => g3.1 a (by omega))
    obtain ⟨S3, k1, k2, k3, k4, k5⟩ := ih n (s + 1) S2 (by omega) (by omega) hT2 hL2 (fun k hk2 => by
      by_cases c : k = s
      · subst c
        exact ⟨RM_fr e2 (g3.1 _ (by omega)) (g3.1 _ (by omega)), g2⟩
      · obtain ⟨o1, o2⟩ := hk k (by omega)
        exact ⟨RM_fr (RM_fr o1 (e3.1 _ (by omega)) (e3.1 _ (by omega))) (g3.1 _ (by omega)) (g3.1 _ (by omega)), TR_fr (TR_fr o2 (fun a h1 h2 => e3.1 a (by omega))) (fun a h1 h2 => g3.1 a (by omega))⟩)
    refine ⟨S3, k1, k2, k3, frm_trans (frm_trans e3 g3 (e := fun a => a = 0 ∨ (34 ≤ a ∧ a ≤ 53)) (fun a h => by omega) (fun a h => by omega)) k4 (fun _ h => h) (fun _ h => h), fun j hj => ?_⟩
    rw [k5 j hj, g3.1 0 (by omega), e3.1 0 (by omega)]
theorem m_up {T : TW} (hw : wfT T) {S : sd_St} (hT : CT 17 S T) (hC : CC S T) : ∃ S2, f_X11_bringUpToDate S = some ((), S2) ∧ UP S2 T ∧ CT 17 S2 T ∧ frm (fun a => a = 0 ∨ (28 ≤ a ∧ a ≤ 53)) S S2 ∧ ∀ j, j ≠ 11 → S2.1 0 j = S.1 0 j := by
  have hs4 := hw.2.2.2.2.1
  unfold f_X11_bringUpToDate
  rcases hC with h | h
  · rw [if_pos h]
    obtain ⟨S1, L, e1, e2, e3, e4⟩ := m_openAll kd28 (by decide) al17 hw hT
    rw [sd_cl_ok e1]
    rw [EV_eq e3] at e2
    obtain ⟨S2, k1, k2, k3, k4, k5⟩ := m_up_l hw (ts T) sd_FU 0 S1 (by omega) (by unfold sd_FU; omega) (CT_fr hT (fun a h1 h2 => e4.1 a (by omega))) e2 (fun k hk => absurd hk (Nat.not_lt_zero _))
    refine ⟨S2, k1, k2, k3, frm_trans e4 k4 (fun a h => by omega) (fun a h => by omega), fun j hj => ?_⟩
    rw [k5 j hj, e4.1 0 (by omega)]
  · rw [if_neg (by rw [h.1]; decide)]
    exact ⟨S, rfl, h, hT, frm_rfl, fun _ _ => rfl⟩
/-! the class's tests of arguments -/
theorem m_isPerson {S : sd_St} {T : TW} (hT : CT 17 S T) (hw : wfT T) {p : Nat} (hp : p < tn T) : f_X11_isPerson (nI p) S = some (1, S) := by
  have := hw.1
  unfold f_X11_isPerson
  rw [if_neg (nI_pos (by omega)), hT.1, if_neg (nI_ge hp (by omega))]
theorem m_isPerson_n {S : sd_St} {T : TW} (hT : CT 17 S T) {x : Int32} (h : x < 0 ∨ nI (tn T) ≤ x) : f_X11_isPerson x S = some (0, S) := by
  unfold f_X11_isPerson
  rw [hT.1]
  rcases h with h | h
  · rw [if_pos h]
  · by_cases c : x < 0
    · rw [if_pos c]
    · rw [if_neg c, if_pos h]
theorem m_isSecret {S : sd_St} {T : TW} (hT : CT 17 S T) (hw : wfT T) {s : Nat} (hs : s < ts T) : f_X11_isSecret (nI s) S = some (1, S) := by
  have := hw.2.2.2.2.1
  unfold f_X11_isSecret
  rw [if_neg (nI_pos (by omega)), hT.2.2.2.2.1, if_neg (nI_ge hs (by omega))]
theorem m_isSecret_n {S : sd_St} {T : TW} (hT : CT 17 S T) {x : Int32} (h : x < 0 ∨ nI (ts T) ≤ x) : f_X11_isSecret x S = some (0, S) := by
  unfold f_X11_isSecret
  rw [hT.2.2.2.2.1]
  rcases h with h | h
  · rw [if_pos h]
  · by_cases c : x < 0
    · rw [if_pos c]
    · rw [if_neg c, if_pos h]
theorem m_isDate {S : sd_St} {t : Nat} (ht : t < 4392) : f_X11_isDate (nI t) S = some (1, S) := by
  unfold f_X11_isDate
  rw [if_neg (nI_pos (by omega)), if_neg (show ¬ (4392 : Int32) ≤ nI t from nI_ge (b := 4392) (by omega) (by decide))]
theorem m_isDate_n {S : sd_St} {x : Int32} (h : x < 0 ∨ nI 4392 ≤ x) : f_X11_isDate x S = some (0, S) := by
  unfold f_X11_isDate
  rcases h with h | h
  · rw [if_pos h]
  · by_cases c : x < 0
    · rw [if_pos c]
    · rw [if_neg c, if_pos (show (4392 : Int32) ≤ x from h)]
theorem n_isPerson {S : sd_St} {T : TW} (hT : RTg (S.1 136) T) (hw : wfT T) {p : Nat} (hp : p < tn T) : f_X12_isPerson (nI p) S = some (1, S) := by
  have := hw.1
  unfold f_X12_isPerson
  rw [if_neg (nI_pos (by omega)), sd_cl_ok (n_people hT), if_neg (nI_ge hp (by omega))]
theorem n_isPerson_n {S : sd_St} {T : TW} (hT : RTg (S.1 136) T) {x : Int32} (h : x < 0 ∨ nI (tn T) ≤ x) : f_X12_isPerson x S = some (0, S) := by
  unfold f_X12_isPerson
  rw [sd_cl_ok (n_people hT)]
  rcases h with h | h
  · rw [if_pos h]
  · by_cases c : x < 0
    · rw [if_pos c]
    · rw [if_neg c, if_pos h]
theorem n_isSecret {S : sd_St} {T : TW} (hT : RTg (S.1 136) T) (hw : wfT T) {s : Nat} (hs : s < ts T) : f_X12_isSecret (nI s) S = some (1, S) := by
  have := hw.2.2.2.2.1
  unfold f_X12_isSecret
  rw [if_neg (nI_pos (by omega)), sd_cl_ok (n_secrets hT), if_neg (nI_ge hs (by omega))]
theorem n_isSecret_n {S : sd_St} {T : TW} (hT : RTg (S.1 136) T) {x : Int32} (h : x < 0 ∨ nI (ts T) ≤ x) : f_X12_isSecret x S = some (0, S) := by
  unfold f_X12_isSecret
  rw [sd_cl_ok (n_secrets hT)]
  rcases h with h | h
  · rw [if_pos h]
  · by_cases c : x < 0
    · rw [if_pos c]
    · rw [if_neg c, if_pos h]
theorem n_isDate_n {S : sd_St} {x : Int32} (h : x < 0 ∨ nI 4392 ≤ x) : f_X12_isDate x S = some (0, S) := by
  unfold f_X12_isDate
  rcases h with h | h
  · rw [if_pos h]
  · by_cases c : x < 0
    · rw [if_pos c]
    · rw [if_neg c, if_pos (show (4392 : Int32) ≤ x from h)]
theorem n_areThere {S : sd_St} {T : TW} (hT : RTg (S.1 136) T) (hw : wfT T) {s p : Nat} (hs : s < ts T) (hp : p < tn T) : f_X12_areThere (nI s) (nI p) S = some (1, S) := by
  unfold f_X12_areThere
  rw [sd_cl_ok (n_isSecret hT hw hs), if_neg (by decide), sd_cl_ok (n_isPerson hT hw hp), if_neg (by decide)]
theorem n_areThere_n {S : sd_St} {T : TW} (hT : RTg (S.1 136) T) (hw : wfT T) {x y : Int32} (h : (x < 0 ∨ nI (ts T) ≤ x) ∨ (y < 0 ∨ nI (tn T) ≤ y)) : f_X12_areThere x y S = some (0, S) := by
  unfold f_X12_areThere
  have h4 := hw.2.2.2.2.1
  rcases pk_ix x (show ts T < 2 ^ 31 by omega) with c | c | ⟨s, hs, rfl⟩
  · rw [sd_cl_ok (n_isSecret_n hT (Or.inl c)), if_pos rfl]
  · rw [sd_cl_ok (n_isSecret_n hT (Or.inr c)), if_pos rfl]
  · rw [sd_cl_ok (n_isSecret hT hw hs), if_neg (by decide)]
    have h : y < 0 ∨ nI (tn T) ≤ y := by
      rcases h with h | h
      · exfalso
        rcases h with h | h
        · exact nI_pos (by omega) h
        · exact nI_ge hs (by omega) h
      · exact h
    rw [sd_cl_ok (n_isPerson_n hT h), if_pos rfl]
/-- an argument is one of the numbered, or not -/
theorem ix_or (x : Int32) {n : Nat} (hn : n < 2 ^ 31) : (∃ j, j < n ∧ x = nI j) ∨ (x < 0 ∨ nI n ≤ x) := by
  rcases pk_ix x hn with c | c | h
  · exact Or.inr (Or.inl c)
  · exact Or.inr (Or.inr c)
  · exact Or.inl h
/-! the reference finds a secret -/
theorem n_find {T : TW} (hw : wfT T) (hfull : fullT T) {s : Nat} (hs : s < ts T) {S : sd_St} (hT : RTg (S.1 136) T) : ∃ S2, f_X12_find_ (nI s) S = some ((), S2) ∧ BR S2 T (hF T s, (zF T s).1) ∧ frm (fun a => a = 130 ∨ (139 ≤ a ∧ a ≤ 141)) S S2 ∧ ∀ j, j ≠ 16 → S2.1 130 j = S.1 130 j := by
  have h4 := hw.2.2.2.2.1
  obtain ⟨a1, a2⟩ := hT.2.2.2.2.2.2.2 s hs
  obtain ⟨w1, w2⟩ := hw.2.2.2.2.2.1 s hs
  unfold f_X12_find_ f_X12_beginner f_X12_fromOf
  rw [ix2, ldT (by omega), a1, sd_cl_ok rfl, nI_1, ldT (by omega), a2, sd_cl_ok rfl]
  obtain ⟨S2, e1, e2, e3, e4⟩ := n_goes hw hfull w1 w2 hT
  rw [sd_cl_ok e1]
  have hA : (rnB T (tg T s) (evs T 4392) (h0 (tg T s) (tx T s), fun _ => 0)).1 = hF T s := by
    unfold hF
    exact rnB_evs w2 4392 (Nat.le_refl _)
  have hB : (rnB T (tg T s) (evs T 4392) (h0 (tg T s) (tx T s), fun _ => 0)).2 = (zF T s).1 := by
    unfold zF hF
    exact by_same hw w1 w2
  refine ⟨S2, rfl, fun p hp => ?_, e3, e4⟩
  obtain ⟨q1, q2⟩ := e2 p hp
  rw [hA] at q1
  rw [hB] at q2
  dsimp only
  exact ⟨q1, q2⟩
