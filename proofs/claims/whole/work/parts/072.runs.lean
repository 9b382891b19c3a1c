/-! runs: the draws -/
abbrev ZR : Type := Int64 × (Nat → Nat)
def dsd (x : Int64) : Int64 := sd_lrem ((x * (1103515245 : Int64)) + (12345 : Int64)) (2147483648 : Int64)
def dvl (x : Int64) : Int32 := (sd_lrem (x / (65536 : Int64)) (100 : Int64)).toInt32
def stR (T : TW) (b t e : Nat) (z : ZR) : ZR := (dsd z.1, if nI (ti T e) ≤ dvl (dsd z.1) then stp T b t e z.2 else z.2)
def rnR (T : TW) (b : Nat) (L : List (Nat × Nat)) (z : ZR) : ZR := L.foldl (fun z ev => stR T b ev.1 ev.2 z) z
theorem rnR_app (T : TW) (b : Nat) (L M : List (Nat × Nat)) (z : ZR) : rnR T b (L ++ M) z = rnR T b M (rnR T b L z) := by
  unfold rnR
  rw [List.foldl_append]
theorem rnR_cons (T : TW) (b t e : Nat) (L : List (Nat × Nat)) (z : ZR) : rnR T b ((t, e) :: L) z = rnR T b L (stR T b t e z) := by
  unfold rnR
  rw [List.foldl_cons]
theorem hok_stR {T : TW} (hw : wfT T) {b f : Nat} {z : ZR} (hh : hok T b f z.2) {t e : Nat} (ht : t < 4392) (he : e < tn T) : hok T b f (stR T b t e z).2 := by
  unfold stR
  dsimp only
  by_cases c : nI (ti T e) ≤ dvl (dsd z.1)
  · rw [if_pos c]; exact hok_stp hw hh ht he
  · rw [if_neg c]; exact hh
theorem hok_rnR {T : TW} (hw : wfT T) {b f : Nat} : ∀ {L : List (Nat × Nat)} {z : ZR}, hok T b f z.2 → (∀ t e, (t, e) ∈ L → t < 4392 ∧ e < tn T) → hok T b f (rnR T b L z).2 := by
  intro L
  induction L with
  | nil => intro z h _; exact h
  | cons ev L ih =>
    intro z h hL
    obtain ⟨t, e⟩ := ev
    have := hL t e List.mem_cons_self
    rw [rnR_cons]
    exact ih (hok_stR hw h this.1 this.2) (fun t e h => hL t e (List.mem_cons_of_mem _ h))
theorem m_draw {S : sd_St} {x : Int64} (h : S.2 71 0 = x) : f_X0_drawPercent 71 S = some (dvl (dsd x), sd_L S 71 0 (dsd x)) := by
  unfold f_X0_drawPercent
  rw [h, sd_nm_eq, rL_same]
  rfl
theorem m_live_l {T : TW} (hw : wfT T) {L : List (Nat × Nat)} (hev : ∀ t e, (t, e) ∈ L → t < 4392 ∧ e < tn T) {b f : Nat} : ∀ (m n i : Nat) (S : sd_St) (z : ZR), i + m = L.length → m < n → CT 17 S T → DR 28 S T L → RM 54 S b z.2 → hok T b f z.2 → S.2 71 0 = z.1 →
    ∃ S2, f_X0_liveThrough_l20 71 17 28 54 n (nI i) S = some ((), S2) ∧ RM 54 S2 b (rnR T b (L.drop i) z).2 ∧ S2.2 71 0 = (rnR T b (L.drop i) z).1 ∧ frm (fun a => a = 54 ∨ a = 55 ∨ a = 71) S S2 := by
  have h12 := hw.1
  have hal1 := al1 kd28
  have hal8 := al8 al17
  intro m
  induction m with
  | zero =>
    intro n i S z hi hn hT hL hR hh hx
    obtain ⟨n, rfl⟩ : ∃ n', n = n' + 1 := ⟨n - 1, by omega⟩
    have := hL.2.1
    refine ⟨S, ?_, ?_, ?_, frm_rfl⟩
    · unfold f_X0_liveThrough_l20
      rw [hL.1, if_pos (nI_le (by omega) (by omega))]
    · rw [List.drop_of_length_le (by omega)]; exact hR
    · rw [List.drop_of_length_le (by omega)]; exact hx
  | succ m ih =>
    intro n i S z hi hn hT hL hR hh hx
    obtain ⟨n, rfl⟩ : ∃ n', n = n' + 1 := ⟨n - 1, by omega⟩
    have hlen := hL.2.1
    have hil : i < L.length := by omega
    obtain ⟨⟨t, e⟩, hxi⟩ : ∃ y, L[i]? = some y := ⟨_, List.getElem?_eq_getElem hil⟩
    have hdr : L.drop i = (t, e) :: L.drop (i + 1) := by
      rw [List.drop_eq_getElem_cons hil]
      congr 1
      rw [List.getElem?_eq_getElem hil] at hxi
      exact Option.some.inj hxi
    obtain ⟨ht, he⟩ := hev t e (List.mem_of_getElem? hxi)
    obtain ⟨d1, d2, d3⟩ := hL.2.2 i t e hxi
    obtain ⟨S0, hS0⟩ : ∃ S0, S0 = sd_L S 71 0 (dsd z.1) := ⟨_, rfl⟩
    have f0 : frm (fun a => a = 54 ∨ a = 55 ∨ a = 71) S S0 := by rw [hS0]; exact frm_L (Or.inr (Or.inr rfl))
    have f1 : S0.1 = S.1 := by rw [hS0]; rfl
    have hT0 : CT 17 S0 T := CT_fr hT (fun a _ _ => by rw [f1])
    have hL0 : DR 28 S0 T L := DR_fr hL (by rw [f1]) (fun a _ _ => by rw [f1])
    have hR0 : RM 54 S0 b z.2 := RM_fr hR (by rw [f1]) (by rw [f1])
    have hx0 : S0.2 71 0 = dsd z.1 := by rw [hS0, rL_same]
    have hcons : rnR T b (L.drop i) z = rnR T b (L.drop (i + 1)) (stR T b t e z) := by rw [hdr, rnR_cons]
    rw [hcons]
    unfold f_X0_liveThrough_l20 f_X0_liveThrough_b53 f_X0_liveThrough_b68
    rw [hL.1, if_neg (nI_ge hil (by omega)), sd_cl_ok (m_draw hx), ← hS0, sd_ld_ok (by omega) (sd_al_lt _), f1, d2, sd_ld_ok (by omega) (sd_al_lt _), f1, (hT.2.1 e he).2.2.1, nI_1]
    by_cases c : nI (ti T e) ≤ dvl (dsd z.1)
    · have hst : stR T b t e z = (dsd z.1, stp T b t e z.2) := by unfold stR; rw [if_pos c]
      obtain ⟨S1, e1, e2, e3⟩ := m_pass (r := 54) (d := 28) (by decide) kd28 hw hL0 hR0 hh hxi ht he
      obtain ⟨S2, y1, y2, y3, y4⟩ := ih n (i + 1) S1 (stR T b t e z) (by omega) (by omega) (CT_fr hT0 (fun a h1 h2 => e3.1 a (by omega))) (DR_fr hL0 (by rw [e3.1 28 (by omega)]) (fun a h1 h2 => e3.1 a (by omega))) (by rw [hst]; exact e2) (hok_stR hw hh ht he) (by rw [e3.2 71 (by omega), hx0, hst])
      refine ⟨S2, ?_, y2, y3, frm_trans f0 (frm_trans (e := fun a => a = 54 ∨ a = 55 ∨ a = 71) e3 y4 (fun a h => by omega) (fun _ h => h)) (fun _ h => h) (fun _ h => h)⟩
      rw [if_pos c, if_pos rfl, sd_cl_ok e1]
      exact y1
    · have hst : stR T b t e z = (dsd z.1, z.2) := by unfold stR; rw [if_neg c]
      obtain ⟨S2, y1, y2, y3, y4⟩ := ih n (i + 1) S0 (stR T b t e z) (by omega) (by omega) hT0 hL0 (by rw [hst]; exact hR0) (hok_stR hw hh ht he) (by rw [hx0, hst])
      refine ⟨S2, ?_, y2, y3, frm_trans f0 y4 (fun _ h => h) (fun _ h => h)⟩
      rw [if_neg c, if_neg (by decide)]
      exact y1
theorem m_live {T : TW} (hw : wfT T) {s : Nat} (hs : s < ts T) {S : sd_St} (hT : CT 17 S T) (hL : DR 28 S T (evs T 4392)) {x : Int64} (hx : S.2 71 0 = x) : ∃ S2, f_X0_liveThrough 71 17 28 54 (nI s) S = some ((), S2) ∧ RM 54 S2 (tg T s) (rnR T (tg T s) (evs T 4392) (x, h0 (tg T s) (tx T s))).2 ∧ S2.2 71 0 = (rnR T (tg T s) (evs T 4392) (x, h0 (tg T s) (tx T s))).1 ∧ frm (fun a => a = 54 ∨ a = 55 ∨ a = 71) S S2 := by
  have h12 := hw.1
  have h4 := hw.2.2.2.2.1
  have hal8 := al8 al17
  have hal1 := al1 kd28
  obtain ⟨w1, w2⟩ := hw.2.2.2.2.2.1 s hs
  obtain ⟨a1, a2⟩ := hT.2.2.2.2.2.1 s hs
  have hlen := hL.2.1
  obtain ⟨S1, e1, e2, e3⟩ := m_begin (r := 54) (by decide) (b := tg T s) (f := tx T s) (by omega) w2 S
  obtain ⟨S2, y1, y2, y3, y4⟩ := m_live_l hw (EVw_in (evs_EV T).weak) (evs T 4392).length sd_FU 0 S1 (x, h0 (tg T s) (tx T s)) (by omega) (by unfold sd_FU; omega) (CT_fr hT (fun a h1 h2 => e3.1 a (by omega))) (DR_fr hL (by rw [e3.1 28 (by omega)]) (fun a h1 h2 => e3.1 a (by omega))) e2 (hok_0 w1 w2) (by rw [e3.2 71 (by omega)]; exact hx)
  rw [List.drop_zero] at y2 y3
  refine ⟨S2, ?_, y2, y3, frm_trans e3 y4 (fun a h => by omega) (fun _ h => h)⟩
  unfold f_X0_liveThrough
  rw [sd_ld_ok (by omega) (sd_al_lt _), a1, sd_ld_ok (by omega) (sd_al_lt _), a2, sd_cl_ok e1]
  exact y1
/-! the reference's draws -/
def RX (S : sd_St) (T : TW) (z : ZR) : Prop := S.2 130 33 = z.1 ∧ (∀ p, p < tn T → S.1 140 p = nI (z.2 p)) ∧ ∀ q, z.2 q = FARN ∨ z.2 q < 4392
def fr0 (S S2 : sd_St) : Prop := (∀ a, a ≠ 140 → S2.1 a = S.1 a) ∧ ∀ a, a ≠ 130 → S2.2 a = S.2 a
theorem fr0_trans {S S2 S3 : sd_St} (h : fr0 S S2) (g : fr0 S2 S3) : fr0 S S3 := ⟨fun a ha => (g.1 a ha).trans (h.1 a ha), fun a ha => (g.2 a ha).trans (h.2 a ha)⟩
theorem stp_self {T : TW} (hw : wfT T) {b t e : Nat} (he : e < tn T) {h : Nat → Nat} : stp T b t e h e = h e := by
  unfold stp guestB
  rw [(hw.2.1 e he).2.2.2.2]
  simp
theorem stp_hv {T : TW} {b t e : Nat} {h : Nat → Nat} (hv : ∀ q, h q = FARN ∨ h q < 4392) (ht : t < 4392) : ∀ q, stp T b t e h q = FARN ∨ stp T b t e h q < 4392 := by
  intro q
  unfold stp
  by_cases c : (tellsB b h e t && (h q == FARN && guestB T t e q)) = true
  · rw [cd_t c]; exact Or.inr ht
  · rw [cd_f c]; exact hv q
theorem tellsB_c {b e t : Nat} {h h' : Nat → Nat} (hh : h e = h' e) : tellsB b h e t = tellsB b h' e t := by
  unfold tellsB
  rw [hh]
theorem n_dy_l140 {T : TW} (hw : wfT T) (q50 : Int32 → Int32 → sd_St → Option (Unit × sd_St)) (q88 : Int32 → Int32 → Int32 → Int32 → sd_St → Option (Unit × sd_St)) {b t e : Nat} {xk : Int32} (hb : b < tn T) (ht : t < 4392) (he : e < tn T) {h : Nat → Nat} (hv : ∀ q, h q = FARN ∨ h q < 4392) (htl : tellsB b h e t = true) (hfr : freeB T e t = true) : ∀ (m n q : Nat) (S : sd_St), q + m = tn T → m < n → RTg (S.1 136) T → (∀ j, j < tn T → S.1 140 j = nI (if j < q then stp T b t e h j else h j)) →
    ∃ S2, f_X12_drawsYears_l140 q50 q88 n (nI b) xk (nI t) (nI e) 0 (nI q) S = q88 (nI b) xk (nI t) (nI (e + 1)) S2 ∧ (∀ j, j < tn T → S2.1 140 j = nI (stp T b t e h j)) ∧ fr0 S S2 ∧ S2.2 = S.2 := by
  have h12 := hw.1
  intro m
  induction m with
  | zero =>
    intro n q S hq hn hT hS
    obtain ⟨n, rfl⟩ : ∃ n', n = n' + 1 := ⟨n - 1, by omega⟩
    unfold f_X12_drawsYears_l140 f_X12_drawsYears_b226
    rw [sd_cl_ok (n_people hT), if_pos (nI_le (by omega) (by omega)), nI_1]
    refine ⟨S, rfl, fun j hj => ?_, ⟨fun _ _ => rfl, fun _ _ => rfl⟩, rfl⟩
    rw [hS j hj, if_pos (by omega)]
  | succ m ih =>
    intro n q S hq hn hT hS
    obtain ⟨n, rfl⟩ : ∃ n', n = n' + 1 := ⟨n - 1, by omega⟩
    have hqn : q < tn T := by omega
    have hcv : ∀ j, (if j < q then stp T b t e h j else h j) = FARN ∨ (if j < q then stp T b t e h j else h j) < 4392 := by
      intro j
      by_cases c : j < q
      · rw [if_pos c]; exact stp_hv hv ht j
      · rw [if_neg c]; exact hv j
    have hce : (if e < q then stp T b t e h e else h e) = h e := by
      by_cases c : e < q
      · rw [if_pos c, stp_self hw he]
      · rw [if_neg c]
    have hct : tellsB b (fun j => if j < q then stp T b t e h j else h j) e t = true := by
      rw [← htl]
      exact tellsB_c hce
    have hvq : h q < 2 ^ 30 := by
      rcases hv q with g | g
      · rw [g]; decide
      · omega
    have hSq : S.1 140 q = nI (h q) := by rw [hS q hqn, if_neg (by omega)]
    have hwr : ∀ v : Nat, v = stp T b t e h q → ∃ S2, sd_st S 140 (nI q) (nI v) (fun S_2 => f_X12_drawsYears_l140 q50 q88 n (nI b) xk (nI t) (nI e) 0 (nI q + 1) S_2) = q88 (nI b) xk (nI t) (nI (e + 1)) S2 ∧ (∀ j, j < tn T → S2.1 140 j = nI (stp T b t e h j)) ∧ fr0 S S2 ∧ S2.2 = S.2 := by
      intro v hv2
      rw [sd_st_ok (by rw [al140]; omega) (sd_al_lt _), nI_1]
      obtain ⟨S2, y1, y2, y3, y4⟩ := ih n (q + 1) (sd_I S 140 q (nI v)) (by omega) (by omega) (by rw [rI_cell (by decide)]; exact hT) (fun j hj => by
        by_cases c : j = q
        · rw [c, rI_same, if_pos (by omega), hv2]
        · rw [rI_oth c, hS j hj]
          by_cases c2 : j < q
          · rw [if_pos c2, if_pos (by omega)]
          · rw [if_neg c2, if_neg (by omega)])
      exact ⟨S2, y1, y2, fr0_trans ⟨fun a ha => rI_cell ha, fun _ _ => rfl⟩ y3, y4⟩
    have hno : (h q == FARN && guestB T t e q) = false → h q = stp T b t e h q := by
      intro z
      unfold stp
      rw [z, Bool.and_false, cond_false]
    unfold f_X12_drawsYears_l140 f_X12_drawsYears_b212 f_X12_drawsYears_b219
    rw [sd_cl_ok (n_people hT), if_neg (nI_ge hqn (by omega)), if_pos rfl, sd_cl_ok (n_tells hT hw hS hcv he hb ht), hct, hfr, if_neg (by decide), sd_ld_ok (by rw [al140]; omega) (sd_al_lt _), hSq]
    by_cases c1 : h q = FARN
    · rw [if_pos (show nI (h q) = (1000000 : Int32) by rw [c1]; rfl), sd_cl_ok (n_calls hT hw (by omega) he)]
      cases c2 : (tc T e).testBit q with
      | false =>
        rw [if_pos (by decide), sd_ld_ok (by rw [al140]; omega) (sd_al_lt _), hSq]
        exact hwr (h q) (hno (by unfold guestB; rw [c2]; simp))
      | true =>
        rw [if_neg (by decide), sd_cl_ok (n_isGone hT hw (by omega) ht)]
        cases c3 : goneB T q t with
        | true =>
          rw [if_neg (by decide), sd_ld_ok (by rw [al140]; omega) (sd_al_lt _), hSq]
          exact hwr (h q) (hno (by unfold guestB; rw [c3]; simp))
        | false =>
          rw [if_pos (by decide)]
          refine hwr t ?_
          unfold stp guestB
          rw [c2, c3, htl, c1]
          rfl
    · rw [if_neg (show ¬ nI (h q) = (1000000 : Int32) from fun w => c1 (nI_inj (b := FARN) (by omega) (by decide) w)), sd_ld_ok (by rw [al140]; omega) (sd_al_lt _), hSq]
      exact hwr (h q) (hno (by
        have : (h q == FARN) = false := by simpa using c1
        rw [this]
        rfl))
/-- none is told -/
theorem n_dy_n {T : TW} (hw : wfT T) (q50 : Int32 → Int32 → sd_St → Option (Unit × sd_St)) (q88 : Int32 → Int32 → Int32 → Int32 → sd_St → Option (Unit × sd_St)) {b t e : Nat} {xk x6 : Int32} (hb : b < tn T) (ht : t < 4392) (he : e < tn T) {h : Nat → Nat} (hv : ∀ q, h q = FARN ∨ h q < 4392) {S : sd_St} (hT : RTg (S.1 136) T) (hS : ∀ j, j < tn T → S.1 140 j = nI (h j)) {n : Nat} (hn : ¬ x6 = 0 ∨ (tellsB b h e t && freeB T e t) = false) : f_X12_drawsYears_l140 q50 q88 (n + 1) (nI b) xk (nI t) (nI e) x6 0 S = q88 (nI b) xk (nI t) (nI (e + 1)) S := by
  have h12 := hw.1
  unfold f_X12_drawsYears_l140 f_X12_drawsYears_b226
  rw [sd_cl_ok (n_people hT), if_neg (show ¬ nI (tn T) ≤ (0 : Int32) from (nI_ge (by omega) (by omega) : ¬ nI (tn T) ≤ nI 0)), sd_cl_ok (n_tells hT hw hS hv he hb ht), nI_1]
  by_cases c : x6 = 0
  · rw [if_pos c]
    rcases hn with z | z
    · exact absurd c z
    · rw [z, if_pos (by decide)]
  · rw [if_neg c]
theorem n_draw {S : sd_St} {x : Int64} (h : S.2 130 33 = x) : f_X12_draw (100 : Int32) S = some (dvl (dsd x), sd_L S 130 33 (dsd x)) := by
  unfold f_X12_draw sd_nzl
  rw [h, sd_nm_eq, rL_same, if_neg (by decide)]
  rfl
theorem n_dy_l88 {T : TW} (hw : wfT T) (q50 : Int32 → Int32 → sd_St → Option (Unit × sd_St)) {b t k : Nat} (hb : b < tn T) (ht : t < 4392) : ∀ (m n e : Nat) (S : sd_St) (z : ZR), e + m = tn T → m < n → RTg (S.1 136) T → RX S T z →
    ∃ S2, f_X12_drawsYears_l88 q50 n (nI b) (nI k) (nI t) (nI e) S = q50 (nI b) (nI (k + 1)) S2 ∧ RX S2 T (rnR T b (((List.range' e m).filter (fun p => freeB T p t)).map (fun p => (t, p))) z) ∧ fr0 S S2 := by
  have h12 := hw.1
  intro m
  induction m with
  | zero =>
    intro n e S z he hn hT hX
    obtain ⟨n, rfl⟩ : ∃ n', n = n' + 1 := ⟨n - 1, by omega⟩
    unfold f_X12_drawsYears_l88
    rw [sd_cl_ok (n_people hT), if_pos (nI_le (by omega) (by omega)), nI_1]
    exact ⟨S, rfl, hX, ⟨fun _ _ => rfl, fun _ _ => rfl⟩⟩
  | succ m ih =>
    intro n e S z he hn hT hX
    obtain ⟨n, rfl⟩ : ∃ n', n = n' + 1 := ⟨n - 1, by omega⟩
    have hen : e < tn T := by omega
    obtain ⟨x1, x2, x3⟩ := hX
    rw [dayT]
    unfold f_X12_drawsYears_l88 f_X12_drawsYears_b134 f_X12_drawsYears_b135
    rw [sd_cl_ok (n_people hT), if_neg (nI_ge hen (by omega)), sd_cl_ok (n_isFree hT hw hen ht)]
    cases cf : freeB T e t with
    | false =>
      rw [if_pos (by decide), show sd_FU = 19999 + 1 from rfl, n_dy_n hw q50 _ hb ht hen x3 hT x2 (Or.inr (by rw [cf, Bool.and_false]))]
      obtain ⟨S2, y1, y2, y3⟩ := ih n (e + 1) S z (by omega) (by omega) hT ⟨x1, x2, x3⟩
      exact ⟨S2, y1, y2, y3⟩
    | true =>
      rw [if_neg (by decide), sd_cl_ok (n_draw x1), ix4, ixa, ldT (by omega), rL_1, (hT.2.2.2.1 e hen).2.2.1]
      have hl : (if (true : Bool) = true then [(t, e)] else ([] : List (Nat × Nat))) ++ ((List.range' (e + 1) m).filter (fun p => freeB T p t)).map (fun p => (t, p)) = (t, e) :: ((List.range' (e + 1) m).filter (fun p => freeB T p t)).map (fun p => (t, p)) := rfl
      rw [hl, rnR_cons]
      obtain ⟨S0, hS0⟩ : ∃ S0, S0 = sd_L S 130 33 (dsd z.1) := ⟨_, rfl⟩
      rw [← hS0]
      have f1 : S0.1 = S.1 := by rw [hS0]; rfl
      have f0 : fr0 S S0 := ⟨fun _ _ => by rw [f1], fun a ha => by rw [hS0]; exact rL_cell ha⟩
      have hT0 : RTg (S0.1 136) T := by rw [f1]; exact hT
      have hx0 : S0.2 130 33 = dsd z.1 := by rw [hS0, rL_same]
      have hB0 : ∀ p, p < tn T → S0.1 140 p = nI (z.2 p) := by rw [f1]; exact x2
      by_cases c : nI (ti T e) ≤ dvl (dsd z.1)
      · have hst : stR T b t e z = (dsd z.1, stp T b t e z.2) := by unfold stR; rw [if_pos c]
        rw [if_pos c, hst]
        cases ctl : tellsB b z.2 e t with
        | false =>
          have hsame : stp T b t e z.2 = z.2 := by
            funext q
            unfold stp
            rw [ctl]
            rfl
          rw [show sd_FU = 19999 + 1 from rfl, n_dy_n hw q50 _ hb ht hen x3 hT0 hB0 (Or.inr (by rw [ctl, Bool.false_and])), hsame]
          obtain ⟨S2, y1, y2, y3⟩ := ih n (e + 1) S0 (dsd z.1, z.2) (by omega) (by omega) hT0 ⟨hx0, hB0, x3⟩
          exact ⟨S2, y1, y2, fr0_trans f0 y3⟩
        | true =>
          obtain ⟨S1, g1, g2, g3, g4⟩ := n_dy_l140 hw q50 (f_X12_drawsYears_l88 q50 n) (xk := nI k) hb ht hen x3 ctl cf (tn T) sd_FU 0 S0 (by omega) (by unfold sd_FU; omega) hT0 (fun j hj => by
            rw [if_neg (by omega)]
            exact hB0 j hj)
          have g1 : f_X12_drawsYears_l140 q50 (f_X12_drawsYears_l88 q50 n) sd_FU (nI b) (nI k) (nI t) (nI e) 0 0 S0 = _ := g1
          rw [g1]
          obtain ⟨S2, y1, y2, y3⟩ := ih n (e + 1) S1 (dsd z.1, stp T b t e z.2) (by omega) (by omega) (by rw [g3.1 136 (by decide)]; exact hT0) ⟨by rw [g4]; exact hx0, g2, stp_hv x3 ht⟩
          exact ⟨S2, y1, y2, fr0_trans f0 (fr0_trans g3 y3)⟩
      · have hst : stR T b t e z = (dsd z.1, z.2) := by unfold stR; rw [if_neg c]
        rw [if_neg c, hst, show sd_FU = 19999 + 1 from rfl, n_dy_n hw q50 _ hb ht hen x3 hT0 hB0 (Or.inl (by decide))]
        obtain ⟨S2, y1, y2, y3⟩ := ih n (e + 1) S0 (dsd z.1, z.2) (by omega) (by omega) hT0 ⟨hx0, hB0, x3⟩
        exact ⟨S2, y1, y2, fr0_trans f0 y3⟩
theorem n_dy_l50 {T : TW} (hw : wfT T) {D : List Nat} (hmx : ∀ d ∈ D, d < 366) (hl : D.length ≤ 24) {b : Nat} (hb : b < tn T) : ∀ (m n k : Nat) (S : sd_St) (z : ZR), k + m = 12 * D.length → m < n → RTg (S.1 136) T → DL S D → RX S T z →
    ∃ S2, f_X12_drawsYears_l50 n (nI b) (nI k) S = some ((), S2) ∧ RX S2 T (rnR T b (rev T D k m) z) ∧ fr0 S S2 := by
  have h12 := hw.1
  intro m
  induction m with
  | zero =>
    intro n k S z hk hn hT hD hS
    obtain ⟨n, rfl⟩ : ∃ n', n = n' + 1 := ⟨n - 1, by omega⟩
    unfold f_X12_drawsYears_l50
    rw [hD.1, show (12 : Int32) = nI 12 from rfl, nI_mul, if_pos (nI_le (by omega) (by omega))]
    exact ⟨S, rfl, hS, ⟨fun _ _ => rfl, fun _ _ => rfl⟩⟩
  | succ m ih =>
    intro n k S z hk hn hT hD hS
    obtain ⟨n, rfl⟩ : ∃ n', n = n' + 1 := ⟨n - 1, by omega⟩
    have h0 : 0 < D.length := by omega
    have hat := tk_at (k := k) h0
    have hm := hmx _ (List.mem_of_getElem? hat)
    have hkl := Nat.mod_lt k h0
    have hkd : k / D.length < 12 := Nat.div_lt_of_lt_mul (by omega)
    unfold f_X12_drawsYears_l50
    rw [hD.1, show (12 : Int32) = nI 12 from rfl, nI_mul, if_neg (nI_ge (by omega) (by omega))]
    have hnz : ∀ (f : Option (Unit × sd_St)), sd_nz (nI D.length) f = f := fun f => by
      unfold sd_nz
      rw [if_neg (nI_ne0 h0 (by omega))]
    rw [hnz, hnz, nI_rem (by omega) h0 (by omega), sd_ld_ok (by rw [al139]; omega) (sd_al_lt _), hD.2 _ _ hat, nI_div (by omega) h0 (by omega), show (366 : Int32) = nI 366 from rfl, nI_mul, nI_add, sd_nm_eq]
    have htk : 366 * (k / D.length) + D.getD (k % D.length) 0 = tk D k := rfl
    rw [htk]
    have htl : tk D k < 4392 := by unfold tk; omega
    obtain ⟨S1, g1, g2, g4⟩ := n_dy_l88 hw (f_X12_drawsYears_l50 n) (k := k) hb htl (tn T) sd_FU 0 S z (by omega) (by unfold sd_FU; omega) hT hS
    have g1 : f_X12_drawsYears_l88 (f_X12_drawsYears_l50 n) sd_FU (nI b) (nI k) (nI (tk D k)) 0 S = _ := g1
    rw [g1]
    have hrv : rev T D k (m + 1) = dayE T (tk D k) ++ rev T D (k + 1) m := by
      unfold rev
      rw [List.range'_succ, List.flatMap_cons]
    have hdy : dayE T (tk D k) = ((List.range' 0 (tn T)).filter (fun p => freeB T p (tk D k))).map (fun p => (tk D k, p)) := by
      unfold dayE
      rw [List.range_eq_range']
    rw [hrv, rnR_app, hdy]
    obtain ⟨S2, k1, k2, k4⟩ := ih n (k + 1) S1 _ (by omega) (by omega) (by rw [g4.1 136 (by omega)]; exact hT) ⟨by rw [g4.1 130 (by omega)]; exact hD.1, fun i d hi => by rw [g4.1 139 (by omega)]; exact hD.2 i d hi⟩ g2
    exact ⟨S2, k1, k2, fr0_trans g4 k4⟩
/-! findDays leaves the longs -/
theorem lg_adds49 : ∀ (n : Nat) (x1 x2 x3 : Int32) (S : sd_St) (a : Unit) (S2 : sd_St), f_X12_adds_l49 n x1 x2 x3 S = some (a, S2) → S2.2 = S.2 := by
  intro n
  induction n with
  | zero =>
    intro x1 x2 x3 S a S2 h
    unfold f_X12_adds_l49 at h
    cases h
  | succ n ih =>
    intro x1 x2 x3 S a S2 h
    unfold f_X12_adds_l49 at h
    by_cases c : x3 ≤ x2
    · rw [if_pos c] at h
      obtain ⟨-, S1, e1, h⟩ := sd_st_some h
      rw [sd_nm_eq] at h
      cases h
      rw [e1]
      rfl
    · rw [if_neg c] at h
      obtain ⟨-, v, -, h⟩ := sd_ld_some h
      obtain ⟨-, S1, e1, h⟩ := sd_st_some h
      have := ih _ _ _ _ _ _ h
      rw [this, e1]
      rfl
theorem lg_adds44 {x1 x2 : Int32} {S : sd_St} {a : Unit} {S2 : sd_St} (h : f_X12_adds_b44 x1 x2 S = some (a, S2)) : S2.2 = S.2 := by
  unfold f_X12_adds_b44 at h
  rw [sd_nm_eq] at h
  exact lg_adds49 _ _ _ _ _ _ _ h
theorem lg_adds26 {x1 x2 : Int32} {S : sd_St} {a : Unit} {S2 : sd_St} (h : f_X12_adds_b26 x1 x2 S = some (a, S2)) : S2.2 = S.2 := by
  unfold f_X12_adds_b26 at h
  by_cases c : x2 = S.1 130 16
  · rw [if_pos c] at h
    exact lg_adds44 h
  · rw [if_neg c] at h
    obtain ⟨-, v, -, h⟩ := sd_ld_some h
    by_cases c2 : v = x1
    · rw [if_pos c2] at h
      cases h
      rfl
    · rw [if_neg c2] at h
      exact lg_adds44 h
theorem lg_adds2 : ∀ (n : Nat) (x1 x2 : Int32) (S : sd_St) (a : Unit) (S2 : sd_St), f_X12_adds_l2 n x1 x2 S = some (a, S2) → S2.2 = S.2 := by
  intro n
  induction n with
  | zero =>
    intro x1 x2 S a S2 h
    unfold f_X12_adds_l2 at h
    cases h
  | succ n ih =>
    intro x1 x2 S a S2 h
    unfold f_X12_adds_l2 at h
    by_cases c : S.1 130 16 ≤ x2
    · rw [if_pos c] at h
      exact lg_adds26 h
    · rw [if_neg c] at h
      obtain ⟨-, v, -, h⟩ := sd_ld_some h
      by_cases c2 : x1 ≤ v
      · rw [if_pos c2] at h
        exact lg_adds26 h
      · rw [if_neg c2] at h
        exact ih _ _ _ _ _ h
theorem lg_adds {x1 : Int32} {S : sd_St} {a : Unit} {S2 : sd_St} (h : f_X12_adds x1 S = some (a, S2)) : S2.2 = S.2 := by
  unfold f_X12_adds at h
  exact lg_adds2 _ _ _ _ _ _ h
theorem lg_find7 : ∀ (n : Nat) (x1 : Int32) (S : sd_St) (a : Unit) (S2 : sd_St), f_X12_findDays_l7 n x1 S = some (a, S2) → S2.2 = S.2 := by
  intro n
  induction n with
  | zero =>
    intro x1 S a S2 h
    unfold f_X12_findDays_l7 at h
    cases h
  | succ n ih =>
    intro x1 S a S2 h
    unfold f_X12_findDays_l7 f_X12_findDays_b67 at h
    obtain ⟨r, S1, e1, h⟩ := sd_cl_some h
    unfold f_X12_people at e1
    obtain ⟨-, v, -, e1⟩ := sd_ld_some e1
    cases e1
    by_cases c : r ≤ x1
    · rw [if_pos c] at h
      cases h
      rfl
    · rw [if_neg c] at h
      obtain ⟨r2, S3, e2, h⟩ := sd_cl_some h
      unfold f_X12_bornOf at e2
      obtain ⟨-, v, -, e2⟩ := sd_ld_some e2
      cases e2
      obtain ⟨r3, S4, e3, h⟩ := sd_cl_some h
      have h4 := lg_adds e3
      obtain ⟨-, v2, -, h⟩ := sd_ld_some h
      by_cases c2 : v2 = 1
      · rw [if_pos c2] at h
        obtain ⟨-, v3, -, h⟩ := sd_ld_some h
        by_cases c3 : v3 ≤ 0
        · rw [if_pos c3] at h
          rw [ih _ _ _ _ h, h4]
        · rw [if_neg c3] at h
          obtain ⟨-, v4, -, h⟩ := sd_ld_some h
          obtain ⟨r5, S5, e5, h⟩ := sd_cl_some h
          rw [ih _ _ _ _ h, lg_adds e5, h4]
      · rw [if_neg c2] at h
        rw [ih _ _ _ _ h, h4]
theorem lg_findDays {S : sd_St} {a : Unit} {S2 : sd_St} (h : f_X12_findDays S = some (a, S2)) : S2.2 = S.2 := by
  unfold f_X12_findDays at h
  rw [sd_nm_eq] at h
  rw [lg_find7 _ _ _ _ _ h]
  rfl
theorem n_dy_l8 {T : TW} (hw : wfT T) (hfull : fullT T) {s : Nat} (hs : s < ts T) {x : Int64} : ∀ (m n p : Nat) (S : sd_St), p + m = tn T → m < n → RTg (S.1 136) T → S.2 130 33 = x → (∀ j, j < p → S.1 140 j = nI (h0 (tg T s) (tx T s) j)) →
    ∃ S2, f_X12_drawsYears_l8 n (nI s) (nI (tg T s)) (nI p) S = some ((), S2) ∧ RX S2 T (rnR T (tg T s) (evs T 4392) (x, h0 (tg T s) (tx T s))) ∧ frm (fun a => a = 130 ∨ a = 139 ∨ a = 140) S S2 ∧ ∀ j, j ≠ 16 → S2.1 130 j = S.1 130 j := by
  have h12 := hw.1
  obtain ⟨w1, w2⟩ := hw.2.2.2.2.2.1 s hs
  intro m
  induction m with
  | zero =>
    intro n p S hp hn hT hx hS
    obtain ⟨n, rfl⟩ : ∃ n', n = n' + 1 := ⟨n - 1, by omega⟩
    unfold f_X12_drawsYears_l8
    rw [sd_cl_ok (n_people hT), if_pos (nI_le (by omega) (by omega))]
    obtain ⟨S1, D, e1, e2, e3, e4, e5, e6, e7⟩ := n_findDays hw hfull hT
    rw [sd_cl_ok e1]
    have hmx : ∀ d ∈ D, d < 366 := fun d hd => by
      obtain ⟨_, _, h, _⟩ := (e4 d).mp hd
      exact h
    obtain ⟨S2, k1, k2, k4⟩ := n_dy_l50 hw hmx e5 w1 (12 * D.length) sd_FU 0 S1 (x, h0 (tg T s) (tx T s)) (by omega) (by unfold sd_FU; omega) (by rw [e6.1 136 (by omega)]; exact hT) e2 ⟨by rw [lg_findDays e1]; exact hx, fun j hj => by
      rw [e6.1 140 (by omega)]
      exact hS j (by omega), (hok_0 w1 w2).2.2.2.1⟩
    rw [EV_eq (rev_EV e3 e4)] at k2
    exact ⟨S2, k1, k2, ⟨fun a ha => by rw [k4.1 a (by omega), e6.1 a (by omega)], fun a ha => by rw [k4.2 a (by omega), e6.2 a (by omega)]⟩, fun j hj => by rw [k4.1 130 (by omega)]; exact e7 j hj⟩
  | succ m ih =>
    intro n p S hp hn hT hx hS
    obtain ⟨n, rfl⟩ : ∃ n', n = n' + 1 := ⟨n - 1, by omega⟩
    have hpn : p < tn T := by omega
    unfold f_X12_drawsYears_l8 f_X12_drawsYears_b37
    rw [sd_cl_ok (n_people hT), if_neg (nI_ge hpn (by omega)), sd_cl_ok (n_fromOf hw hT hs)]
    have hgo : ∀ v : Nat, v = h0 (tg T s) (tx T s) p → ∃ S2, sd_st S 140 (nI p) (nI v) (fun S_1 => f_X12_drawsYears_l8 n (nI s) (nI (tg T s)) (nI p + 1) S_1) = some ((), S2) ∧ RX S2 T (rnR T (tg T s) (evs T 4392) (x, h0 (tg T s) (tx T s))) ∧ frm (fun a => a = 130 ∨ a = 139 ∨ a = 140) S S2 ∧ ∀ j, j ≠ 16 → S2.1 130 j = S.1 130 j := by
      intro v hv
      rw [sd_st_ok (by rw [al140]; omega) (sd_al_lt _), nI_1]
      obtain ⟨S2, k1, k2, k3, k4⟩ := ih n (p + 1) (sd_I S 140 p (nI v)) (by omega) (by omega) (by rw [rI_cell (by decide)]; exact hT) hx (fun j hj => by
        by_cases c : j = p
        · subst c
          rw [rI_same, hv]
        · rw [rI_oth c]
          exact hS j (by omega))
      refine ⟨S2, k1, k2, frm_trans (frm_I (c := fun a => a = 130 ∨ a = 139 ∨ a = 140) (by omega)) k3 (fun _ h => h) (fun _ h => h), fun j hj => ?_⟩
      rw [k4 j hj, rI_cell (by decide)]
    by_cases c : p = tg T s
    · rw [if_pos (by rw [c])]
      exact hgo (tx T s) (by unfold h0; rw [if_pos c])
    · rw [if_neg (fun z => c (nI_inj (by omega) (by omega) z))]
      exact hgo FARN (by unfold h0; rw [if_neg c])
theorem n_dy {T : TW} (hw : wfT T) (hfull : fullT T) {s : Nat} (hs : s < ts T) {x : Int64} {S : sd_St} (hT : RTg (S.1 136) T) (hx : S.2 130 33 = x) : ∃ S2, f_X12_drawsYears (nI s) S = some ((), S2) ∧ RX S2 T (rnR T (tg T s) (evs T 4392) (x, h0 (tg T s) (tx T s))) ∧ frm (fun a => a = 130 ∨ a = 139 ∨ a = 140) S S2 ∧ ∀ j, j ≠ 16 → S2.1 130 j = S.1 130 j := by
  have h12 := hw.1
  have h4 := hw.2.2.2.2.1
  obtain ⟨a1, -⟩ := hT.2.2.2.2.2.2.2 s hs
  unfold f_X12_drawsYears f_X12_beginner
  rw [ix2, ldT (by omega), a1, sd_cl_ok rfl]
  exact n_dy_l8 hw hfull hs (tn T) sd_FU 0 S (by omega) (by unfold sd_FU; omega) hT hx (fun j hj => absurd hj (Nat.not_lt_zero _))
