/-! THE REFERENCE'S WALK: when each has it, and by whom (teller and one) -/
abbrev Z2 : Type := (Nat → Nat) × (Nat → Nat)
def stB (T : TW) (b t e : Nat) (z : Z2) : Z2 := (stp T b t e z.1, fun q => cond (tellsB b z.1 e t && (z.1 q == FARN && guestB T t e q)) (e + 1) (z.2 q))
def rnB (T : TW) (b : Nat) (L : List (Nat × Nat)) (z : Z2) : Z2 := L.foldl (fun z ev => stB T b ev.1 ev.2 z) z
theorem rnB_run (T : TW) (b : Nat) : ∀ (L : List (Nat × Nat)) (z : Z2), (rnB T b L z).1 = run T b L z.1 := by
  intro L
  induction L with
  | nil => intro z; rfl
  | cons ev L ih => intro z; exact ih _
def BR (S : sd_St) (T : TW) (z : Z2) : Prop := ∀ p, p < tn T → S.1 140 p = nI (z.1 p) ∧ S.1 141 p = nI (z.2 p) - 1
def zk (T : TW) (z : Z2) : Prop := (∀ q, z.1 q = FARN ∨ z.1 q < 4392) ∧ ∀ q, z.2 q ≤ 12
theorem zk_st {T : TW} {b t e : Nat} {z : Z2} (hz : zk T z) (ht : t < 4392) (he : e < 12) : zk T (stB T b t e z) := by
  refine ⟨fun q => ?_, fun q => ?_⟩
  · unfold stB stp
    dsimp only
    cases tellsB b z.1 e t && (z.1 q == FARN && guestB T t e q)
    · exact hz.1 q
    · exact Or.inr ht
  · unfold stB
    dsimp only
    cases tellsB b z.1 e t && (z.1 q == FARN && guestB T t e q)
    · exact hz.2 q
    · show e + 1 ≤ 12
      omega
theorem n_goes_l124 {T : TW} (hw : wfT T) (q47 : Int32 → Int32 → sd_St → Option (Unit × sd_St)) (q85 : Int32 → Int32 → Int32 → Int32 → sd_St → Option (Unit × sd_St)) {b t e : Nat} {xk : Int32} (ht : t < 4392) (he : e < tn T) {z : Z2} (hz : zk T z) (htl : tellsB b z.1 e t = true) : ∀ (m n q : Nat) (S : sd_St), q + m = tn T → m < n → RTg (S.1 136) T →
    (∀ j, j < tn T → S.1 140 j = nI (if j < q then (stB T b t e z).1 j else z.1 j) ∧ S.1 141 j = nI (if j < q then (stB T b t e z).2 j else z.2 j) - 1) →
    ∃ S2, f_X12_goes_l124 q47 q85 n (nI b) xk (nI t) (nI e) (nI q) S = q85 (nI b) xk (nI t) (nI (e + 1)) S2 ∧ BR S2 T (stB T b t e z) ∧ frm (fun a => a = 140 ∨ a = 141) S S2 := by
  have h12 := hw.1
  intro m
  induction m with
  | zero =>
    intro n q S hq hn hT hS
    obtain ⟨n, rfl⟩ : ∃ n', n = n' + 1 := ⟨n - 1, by omega⟩
    unfold f_X12_goes_l124 f_X12_goes_b192
    rw [sd_cl_ok (n_people hT), if_pos (nI_le (by omega) (by omega)), nI_1]
    refine ⟨S, rfl, fun j hj => ?_, frm_rfl⟩
    have := hS j hj
    rw [if_pos (by omega), if_pos (by omega)] at this
    exact this
  | succ m ih =>
    intro n q S hq hn hT hS
    obtain ⟨n, rfl⟩ : ∃ n', n = n' + 1 := ⟨n - 1, by omega⟩
    have hqn : q < tn T := by omega
    obtain ⟨s1, s2⟩ := hS q hqn
    rw [if_neg (by omega)] at s1 s2
    unfold f_X12_goes_l124 f_X12_goes_b186
    rw [sd_cl_ok (n_people hT), if_neg (nI_ge hqn (by omega)), sd_ld_ok (by rw [al140]; omega) (sd_al_lt _), s1]
    have hskip : (z.1 q == FARN && guestB T t e q) = false → ∃ S2, f_X12_goes_l124 q47 q85 n (nI b) xk (nI t) (nI e) (nI (q + 1)) S = q85 (nI b) xk (nI t) (nI (e + 1)) S2 ∧ BR S2 T (stB T b t e z) ∧ frm (fun a => a = 140 ∨ a = 141) S S2 := by
      intro hu
      refine ih n (q + 1) S (by omega) (by omega) hT (fun j hj => ?_)
      obtain ⟨o1, o2⟩ := hS j hj
      by_cases c : j = q
      · subst c
        rw [if_pos (by omega), if_pos (by omega), s1, s2]
        unfold stB stp
        dsimp only
        rw [hu, Bool.and_false]
        exact ⟨rfl, rfl⟩
      · rw [o1, o2]
        by_cases c2 : j < q
        · rw [if_pos c2, if_pos c2, if_pos (by omega), if_pos (by omega)]
          exact ⟨rfl, rfl⟩
        · rw [if_neg c2, if_neg c2, if_neg (by omega), if_neg (by omega)]
          exact ⟨rfl, rfl⟩
    have hv : z.1 q < 2 ^ 30 := by
      rcases hz.1 q with g | g
      · rw [g]; decide
      · omega
    by_cases c1 : z.1 q = FARN
    · rw [c1, if_pos (show nI FARN = (1000000 : Int32) from rfl), sd_cl_ok (n_calls hT hw (by omega) he)]
      cases c2 : (tc T e).testBit q with
      | false =>
        rw [if_pos (by decide), nI_1]
        exact hskip (by unfold guestB; rw [c2]; simp)
      | true =>
        rw [if_neg (by decide), sd_cl_ok (n_isGone hT hw (by omega) ht)]
        cases c3 : goneB T q t with
        | true =>
          rw [if_neg (by decide), nI_1]
          exact hskip (by unfold guestB; rw [c3]; simp)
        | false =>
          have hu : (z.1 q == FARN && guestB T t e q) = true := by
            unfold guestB
            rw [c2, c3, c1]
            rfl
          rw [if_pos (by decide), sd_st_ok (by rw [al140]; omega) (sd_al_lt _), sd_st_ok (by rw [al141]; omega) (sd_al_lt _), nI_1]
          obtain ⟨S2, g1, g2, g3⟩ := ih n (q + 1) (sd_I (sd_I S 140 q (nI t)) 141 q (nI e)) (by omega) (by omega) (by rw [rI_cell (by decide), rI_cell (by decide)]; exact hT) (fun j hj => by
            obtain ⟨o1, o2⟩ := hS j hj
            rw [rI_cell (by decide)]
            by_cases c : j = q
            · subst c
              rw [rI_same, rI_same, if_pos (by omega), if_pos (by omega)]
              unfold stB stp
              dsimp only
              rw [hu, htl]
              refine ⟨rfl, ?_⟩
              show nI e = nI (e + 1) - 1
              rw [nI_pred]
            · rw [rI_oth c, rI_oth c, rI_cell (by decide), o1, o2]
              by_cases c2 : j < q
              · rw [if_pos c2, if_pos c2, if_pos (by omega), if_pos (by omega)]
                exact ⟨rfl, rfl⟩
              · rw [if_neg c2, if_neg c2, if_neg (by omega), if_neg (by omega)]
                exact ⟨rfl, rfl⟩)
          exact ⟨S2, g1, g2, frm_trans (frm_trans (frm_I (c := fun a => a = 140 ∨ a = 141) (Or.inl rfl)) (frm_I (c := fun a => a = 140 ∨ a = 141) (Or.inr rfl)) (fun _ h => h) (fun _ h => h)) g3 (fun _ h => h) (fun _ h => h)⟩
    · rw [if_neg (show ¬ nI (z.1 q) = (1000000 : Int32) from fun w => c1 (nI_inj (b := FARN) (by omega) (by decide) w)), nI_1]
      exact hskip (by
        have : (z.1 q == FARN) = false := by simpa using c1
        rw [this]
        rfl)
theorem dayT {T : TW} {t : Nat} (p m : Nat) : ((List.range' p (m + 1)).filter (fun p => freeB T p t)).map (fun p => (t, p)) = (if freeB T p t then [(t, p)] else []) ++ ((List.range' (p + 1) m).filter (fun p => freeB T p t)).map (fun p => (t, p)) := by
  rw [List.range'_succ]
  cases c : freeB T p t with
  | true => rw [List.filter_cons_of_pos (p := fun p => freeB T p t) c]; rfl
  | false => rw [List.filter_cons_of_neg (by rw [c]; decide)]; rfl
theorem n_goes_l85 {T : TW} (hw : wfT T) (q47 : Int32 → Int32 → sd_St → Option (Unit × sd_St)) {b t k : Nat} (hb : b < tn T) (ht : t < 4392) : ∀ (m n e : Nat) (S : sd_St) (z : Z2), e + m = tn T → m < n → RTg (S.1 136) T → zk T z → BR S T z →
    ∃ S2, f_X12_goes_l85 q47 n (nI b) (nI k) (nI t) (nI e) S = q47 (nI b) (nI (k + 1)) S2 ∧ BR S2 T (rnB T b (((List.range' e m).filter (fun p => freeB T p t)).map (fun p => (t, p))) z) ∧ zk T (rnB T b (((List.range' e m).filter (fun p => freeB T p t)).map (fun p => (t, p))) z) ∧ frm (fun a => a = 140 ∨ a = 141) S S2 := by
  have h12 := hw.1
  intro m
  induction m with
  | zero =>
    intro n e S z he hn hT hz hS
    obtain ⟨n, rfl⟩ : ∃ n', n = n' + 1 := ⟨n - 1, by omega⟩
    unfold f_X12_goes_l85
    rw [sd_cl_ok (n_people hT), if_pos (nI_le (by omega) (by omega)), nI_1]
    exact ⟨S, rfl, hS, hz, frm_rfl⟩
  | succ m ih =>
    intro n e S z he hn hT hz hS
    obtain ⟨n, rfl⟩ : ∃ n', n = n' + 1 := ⟨n - 1, by omega⟩
    have hen : e < tn T := by omega
    unfold f_X12_goes_l85 f_X12_goes_b192
    rw [sd_cl_ok (n_people hT), if_neg (nI_ge hen (by omega)), show (366 : Int32) = nI 366 from rfl, nI_rem (by omega) (by decide) (by decide), sd_cl_ok (n_isDayOf hT hw hen (Nat.mod_lt _ (by decide))), dayT, nI_1]
    have hskip : (freeB T e t = false ∨ tellsB b z.1 e t = false) → rnB T b ((if freeB T e t then [(t, e)] else []) ++ ((List.range' (e + 1) m).filter (fun p => freeB T p t)).map (fun p => (t, p))) z = rnB T b (((List.range' (e + 1) m).filter (fun p => freeB T p t)).map (fun p => (t, p))) z := by
      intro h
      cases c : freeB T e t with
      | false => rfl
      | true =>
        have h : tellsB b z.1 e t = false := by
          rcases h with h | h
          · rw [c] at h; cases h
          · exact h
        have : stB T b t e z = z := by
          unfold stB stp
          rw [h]
          rfl
        exact (congrArg (rnB T b (((List.range' (e + 1) m).filter (fun p => freeB T p t)).map (fun p => (t, p)))) this)
    cases c1 : feastB T e (t % 366) with
    | false =>
      have hfr : freeB T e t = false := by unfold freeB; rw [c1]; simp
      rw [if_pos (by decide), hskip (Or.inl hfr)]
      exact ih n (e + 1) S z (by omega) (by omega) hT hz hS
    | true =>
      rw [if_neg (by decide), sd_cl_ok (n_tells hT hw (fun p hp => (hS p hp).1) hz.1 hen hb ht)]
      cases c2 : tellsB b z.1 e t && freeB T e t with
      | false =>
        rw [if_pos (by decide), hskip (by
          rw [Bool.and_eq_false_iff] at c2
          exact c2.symm)]
        exact ih n (e + 1) S z (by omega) (by omega) hT hz hS
      | true =>
        rw [Bool.and_eq_true] at c2
        rw [if_neg (by decide), c2.2]
        obtain ⟨S1, g1, g2, g3⟩ := n_goes_l124 hw q47 (f_X12_goes_l85 q47 n) (xk := nI k) ht hen hz c2.1 (tn T) sd_FU 0 S (by omega) (by unfold sd_FU; omega) hT (fun j hj => by
          rw [if_neg (by omega), if_neg (by omega)]
          exact hS j hj)
        rw [show (0 : Int32) = nI 0 from rfl, g1]
        obtain ⟨S2, k1, k2, k3, k4⟩ := ih n (e + 1) S1 (stB T b t e z) (by omega) (by omega) (by rw [g3.1 136 (by omega)]; exact hT) (zk_st hz ht (by omega)) g2
        exact ⟨S2, k1, k2, k3, frm_trans g3 k4 (fun _ h => h) (fun _ h => h)⟩
theorem rnB_app (T : TW) (b : Nat) (L M : List (Nat × Nat)) (z : Z2) : rnB T b (L ++ M) z = rnB T b M (rnB T b L z) := by
  unfold rnB
  rw [List.foldl_append]
theorem n_goes_l47 {T : TW} (hw : wfT T) {D : List Nat} (hmx : ∀ d ∈ D, d < 366) (hl : D.length ≤ 24) {b : Nat} (hb : b < tn T) : ∀ (m n k : Nat) (S : sd_St) (z : Z2), k + m = 12 * D.length → m < n → RTg (S.1 136) T → DL S D → zk T z → BR S T z →
    ∃ S2, f_X12_goes_l47 n (nI b) (nI k) S = some ((), S2) ∧ BR S2 T (rnB T b (rev T D k m) z) ∧ zk T (rnB T b (rev T D k m) z) ∧ frm (fun a => a = 140 ∨ a = 141) S S2 := by
  have h12 := hw.1
  intro m
  induction m with
  | zero =>
    intro n k S z hk hn hT hD hz hS
    obtain ⟨n, rfl⟩ : ∃ n', n = n' + 1 := ⟨n - 1, by omega⟩
    unfold f_X12_goes_l47
    rw [hD.1, show (12 : Int32) = nI 12 from rfl, nI_mul, if_pos (nI_le (by omega) (by omega))]
    exact ⟨S, rfl, hS, hz, frm_rfl⟩
  | succ m ih =>
    intro n k S z hk hn hT hD hz hS
    obtain ⟨n, rfl⟩ : ∃ n', n = n' + 1 := ⟨n - 1, by omega⟩
    have h0 : 0 < D.length := by omega
    have hat := tk_at (k := k) h0
    have hm := hmx _ (List.mem_of_getElem? hat)
    have hkl := Nat.mod_lt k h0
    have hkd : k / D.length < 12 := Nat.div_lt_of_lt_mul (by omega)
    unfold f_X12_goes_l47
    rw [hD.1, show (12 : Int32) = nI 12 from rfl, nI_mul, if_neg (nI_ge (by omega) (by omega))]
    have hnz : ∀ (f : Option (Unit × sd_St)), sd_nz (nI D.length) f = f := fun f => by
      unfold sd_nz
      rw [if_neg (nI_ne0 h0 (by omega))]
    rw [hnz, hnz, nI_rem (by omega) h0 (by omega), sd_ld_ok (by rw [al139]; omega) (sd_al_lt _), hD.2 _ _ hat, nI_div (by omega) h0 (by omega), show (366 : Int32) = nI 366 from rfl, nI_mul, nI_add, sd_nm_eq]
    have htk : 366 * (k / D.length) + D.getD (k % D.length) 0 = tk D k := rfl
    rw [htk]
    have htl : tk D k < 4392 := by unfold tk; omega
    obtain ⟨S1, g1, g2, g3, g4⟩ := n_goes_l85 hw (f_X12_goes_l47 n) (k := k) hb htl (tn T) sd_FU 0 S z (by omega) (by unfold sd_FU; omega) hT hz hS
    rw [show (0 : Int32) = nI 0 from rfl, g1]
    have hrv : rev T D k (m + 1) = dayE T (tk D k) ++ rev T D (k + 1) m := by
      unfold rev
      rw [List.range'_succ, List.flatMap_cons]
    have hdy : dayE T (tk D k) = ((List.range' 0 (tn T)).filter (fun p => freeB T p (tk D k))).map (fun p => (tk D k, p)) := by
      unfold dayE
      rw [List.range_eq_range']
    rw [hrv, rnB_app, hdy]
    obtain ⟨S2, k1, k2, k3, k4⟩ := ih n (k + 1) S1 _ (by omega) (by omega) (by rw [g4.1 136 (by omega)]; exact hT) ⟨by rw [g4.1 130 (by omega)]; exact hD.1, fun i d hi => by rw [g4.1 139 (by omega)]; exact hD.2 i d hi⟩ g3 g2
    exact ⟨S2, k1, k2, k3, frm_trans g4 k4 (fun _ h => h) (fun _ h => h)⟩
theorem n_goes_l2 {T : TW} (hw : wfT T) (hfull : fullT T) {b f : Nat} (hb : b < tn T) (hf : f < 4392) : ∀ (m n p : Nat) (S : sd_St), p + m = tn T → m < n → RTg (S.1 136) T → (∀ j, j < p → S.1 140 j = nI (h0 b f j) ∧ S.1 141 j = -1) →
    ∃ S2, f_X12_goes_l2 n (nI b) (nI f) (nI p) S = some ((), S2) ∧ BR S2 T (rnB T b (evs T 4392) (h0 b f, fun _ => 0)) ∧ frm (fun a => a = 130 ∨ (139 ≤ a ∧ a ≤ 141)) S S2 ∧ ∀ j, j ≠ 16 → S2.1 130 j = S.1 130 j := by
  have h12 := hw.1
  intro m
  induction m with
  | zero =>
    intro n p S hp hn hT hS
    obtain ⟨n, rfl⟩ : ∃ n', n = n' + 1 := ⟨n - 1, by omega⟩
    unfold f_X12_goes_l2
    rw [sd_cl_ok (n_people hT), if_pos (nI_le (by omega) (by omega))]
    obtain ⟨S1, D, e1, e2, e3, e4, e5, e6, e7⟩ := n_findDays hw hfull hT
    rw [sd_cl_ok e1]
    have hmx : ∀ d ∈ D, d < 366 := fun d hd => by
      obtain ⟨_, _, h, _⟩ := (e4 d).mp hd
      exact h
    obtain ⟨S2, k1, k2, -, k4⟩ := n_goes_l47 hw hmx e5 hb (12 * D.length) sd_FU 0 S1 (h0 b f, fun _ => 0) (by omega) (by unfold sd_FU; omega) (by rw [e6.1 136 (by omega)]; exact hT) e2 ⟨fun q => by
      unfold h0
      dsimp only
      by_cases c : q = b
      · rw [if_pos c]; exact Or.inr hf
      · rw [if_neg c]; exact Or.inl rfl, fun q => Nat.zero_le _⟩ (fun j hj => by
      rw [e6.1 140 (by omega), e6.1 141 (by omega)]
      exact hS j (by omega))
    rw [EV_eq (rev_EV e3 e4)] at k2
    exact ⟨S2, k1, k2, frm_trans e6 k4 (fun a h => by omega) (fun a h => by omega), fun j hj => by rw [k4.1 130 (by omega)]; exact e7 j hj⟩
  | succ m ih =>
    intro n p S hp hn hT hS
    obtain ⟨n, rfl⟩ : ∃ n', n = n' + 1 := ⟨n - 1, by omega⟩
    have hpn : p < tn T := by omega
    unfold f_X12_goes_l2 f_X12_goes_b27
    rw [sd_cl_ok (n_people hT), if_neg (nI_ge hpn (by omega))]
    have hgo : ∀ v : Nat, v = h0 b f p → ∃ S2, sd_st S 140 (nI p) (nI v) (fun S_1 => sd_st S_1 141 (nI p) (-1 : Int32) (fun S_2 => f_X12_goes_l2 n (nI b) (nI f) (nI p + 1) S_2)) = some ((), S2) ∧ BR S2 T (rnB T b (evs T 4392) (h0 b f, fun _ => 0)) ∧ frm (fun a => a = 130 ∨ (139 ≤ a ∧ a ≤ 141)) S S2 ∧ ∀ j, j ≠ 16 → S2.1 130 j = S.1 130 j := by
      intro v hv
      rw [sd_st_ok (by rw [al140]; omega) (sd_al_lt _), sd_st_ok (by rw [al141]; omega) (sd_al_lt _), nI_1]
      obtain ⟨S2, k1, k2, k3, k4⟩ := ih n (p + 1) (sd_I (sd_I S 140 p (nI v)) 141 p (-1)) (by omega) (by omega) (by rw [rI_cell (by decide), rI_cell (by decide)]; exact hT) (fun j hj => by
        rw [rI_cell (by decide)]
        by_cases c : j = p
        · subst c
          rw [rI_same, rI_same, hv]
          exact ⟨rfl, rfl⟩
        · rw [rI_oth c, rI_oth c, rI_cell (by decide)]
          exact hS j (by omega))
      refine ⟨S2, k1, k2, frm_trans (frm_trans (frm_I (c := fun a => a = 130 ∨ (139 ≤ a ∧ a ≤ 141)) (by omega)) (frm_I (c := fun a => a = 130 ∨ (139 ≤ a ∧ a ≤ 141)) (by omega)) (fun _ h => h) (fun _ h => h)) k3 (fun _ h => h) (fun _ h => h), fun j hj => ?_⟩
      rw [k4 j hj, rI_cell (by decide), rI_cell (by decide)]
    by_cases c : p = b
    · rw [if_pos (by rw [c])]
      exact hgo f (by unfold h0; rw [if_pos c])
    · rw [if_neg (fun z => c (nI_inj (by omega) (by omega) z))]
      exact hgo FARN (by unfold h0; rw [if_neg c])
theorem n_goes {T : TW} (hw : wfT T) (hfull : fullT T) {b f : Nat} (hb : b < tn T) (hf : f < 4392) {S : sd_St} (hT : RTg (S.1 136) T) : ∃ S2, f_X12_goes (nI b) (nI f) S = some ((), S2) ∧ BR S2 T (rnB T b (evs T 4392) (h0 b f, fun _ => 0)) ∧ frm (fun a => a = 130 ∨ (139 ≤ a ∧ a ≤ 141)) S S2 ∧ ∀ j, j ≠ 16 → S2.1 130 j = S.1 130 j := by
  have h12 := hw.1
  unfold f_X12_goes
  exact n_goes_l2 hw hfull hb hf (tn T) sd_FU 0 S (by omega) (by unfold sd_FU; omega) hT (fun j hj => absurd hj (Nat.not_lt_zero _))
/-! by whom: the least of those who tell on that date -/
theorem rnB_day {T : TW} {b f l : Nat} (hl : l < 4392) (hf : f < 4392) : ∀ (es : List Nat) (z : Z2), z.1 b = f → (rnB T b (es.map (fun e => (l, e))) z).2 = fun q => cond (z.1 q == FARN) (((es.filter (fun e => tlB T b z.1 l e q)).head?.map (· + 1)).getD (z.2 q)) (z.2 q) := by
  intro es
  induction es with
  | nil =>
    intro z _
    funext q
    show z.2 q = cond (z.1 q == FARN) (z.2 q) (z.2 q)
    cases (z.1 q == FARN) <;> rfl
  | cons e es ih =>
    intro z hzb
    have hst : (stB T b l e z).1 b = f := by
      unfold stB stp
      dsimp only
      rw [hzb]
      have : (f == FARN) = false := by unfold FARN; simp; omega
      rw [this]
      simp
    have htl : ∀ e2, tellsB b (stB T b l e z).1 e2 l = tellsB b z.1 e2 l := by
      intro e2
      unfold tellsB
      by_cases c : e2 = b
      · rw [if_pos c, if_pos c, c, hst, hzb]
      · rw [if_neg c, if_neg c]
        have hiff : (stB T b l e z).1 e2 < l ↔ z.1 e2 < l := by
          show stp T b l e z.1 e2 < l ↔ _
          unfold stp
          by_cases c2 : (tellsB b z.1 e l && (z.1 e2 == FARN && guestB T l e e2)) = true
          · rw [cd_t c2]
            simp only [Bool.and_eq_true, beq_iff_eq] at c2
            rw [c2.2.1]
            unfold FARN
            omega
          · rw [cd_f c2]
        simp only [hiff]
    show (rnB T b (es.map (fun e => (l, e))) (stB T b l e z)).2 = _
    rw [ih _ hst]
    have hfl : ∀ q, es.filter (fun e2 => tlB T b (stB T b l e z).1 l e2 q) = es.filter (fun e2 => tlB T b z.1 l e2 q) := by
      intro q
      apply List.filter_congr
      intro e2 _
      unfold tlB
      rw [htl]
    funext q
    rw [hfl q]
    cases c1 : z.1 q == FARN with
    | false =>
      have : (stB T b l e z).1 q = z.1 q := by unfold stB stp; dsimp only; rw [c1]; simp
      rw [this, c1]
      unfold stB
      dsimp only
      rw [c1]
      simp
    | true =>
      cases c2 : tlB T b z.1 l e q with
      | true =>
        have c2' : (tellsB b z.1 e l && guestB T l e q) = true := c2
        rw [Bool.and_eq_true] at c2'
        rw [List.filter_cons_of_pos (p := fun e => tlB T b z.1 l e q) c2]
        have h1 : (stB T b l e z).1 q = l := by unfold stB stp; dsimp only; rw [c1, c2'.1, c2'.2]; rfl
        have h2 : (l == FARN) = false := by unfold FARN; simp; omega
        rw [h1, h2]
        unfold stB
        dsimp only
        rw [c1, c2'.1, c2'.2]
        rfl
      | false =>
        have c2' : (tellsB b z.1 e l && guestB T l e q) = false := c2
        rw [List.filter_cons_of_neg (by rw [c2]; decide)]
        have h1 : (tellsB b z.1 e l && (true && guestB T l e q)) = false := by rw [Bool.true_and]; exact c2'
        have h3 : (stB T b l e z).1 q = z.1 q := by unfold stB stp; dsimp only; rw [c1, h1]; rfl
        rw [h3, c1]
        unfold stB
        dsimp only
        rw [c1, h1]
        rfl
theorem tells_fin {T : TW} {b f l e : Nat} (hf : f < 4392) (hl : l ≤ 4392) : tellsB b (hdt T b f l) e l = tellsB b (hdt T b f 4392) e l := by
  unfold tellsB
  by_cases c : e = b
  · rw [if_pos c, if_pos c, c, hd_b hf, hd_b hf]
  · rw [if_neg c, if_neg c]
    have : hdt T b f l e < l ↔ hdt T b f 4392 e < l := by
      constructor
      · intro h
        rw [hd_keep2 hl (by unfold FARN; omega)]
        exact h
      · intro h
        rw [hd_back c rfl (by unfold FARN; omega) l h hl]
        exact h
    simp only [this]
theorem rnB_evs {T : TW} {b f : Nat} (hf : f < 4392) : ∀ l, l ≤ 4392 → (rnB T b (evs T l) (h0 b f, fun _ => 0)).1 = hdt T b f l := by
  intro l hl
  rw [rnB_run]
  refine run_hdx hl ((evs_lx T l).imp (fun {a b} h => by unfold lx at h; omega)) (fun t p => evs_mem) hf
/-- by whom in the reference is by whom in the class -/
theorem by_same {T : TW} (hw : wfT T) {b f : Nat} (hb : b < tn T) (hf : f < 4392) : (rnB T b (evs T 4392) (h0 b f, fun _ => 0)).2 = (zt T b (hdt T b f 4392) 4392).1 := by
  have hstep : ∀ l, l < 4392 → (rnB T b (evs T (l + 1)) (h0 b f, fun _ => 0)).2 = fun q => cond (hdt T b f l q == FARN) (((tels T b (hdt T b f 4392) l q).head?.map (· + 1)).getD ((rnB T b (evs T l) (h0 b f, fun _ => 0)).2 q)) ((rnB T b (evs T l) (h0 b f, fun _ => 0)).2 q) := by
    intro l hl
    rw [evs_succ, rnB_app]
    have h1 := rnB_evs (T := T) (b := b) hf l (by omega)
    unfold dayE
    rw [rnB_day hl hf _ _ (by rw [h1]; exact hd_b hf l), h1]
    funext q
    unfold tels
    rw [List.filter_filter]
    have : (List.range (tn T)).filter (fun a => tlB T b (hdt T b f l) l a q && freeB T a l) = (List.range (tn T)).filter (fun e => freeB T e l && tlB T b (hdt T b f 4392) l e q) := by
      apply List.filter_congr
      intro e _
      unfold tlB
      rw [tells_fin hf (by omega), Bool.and_comm]
    rw [this]
  have hh := hok_hd hw hb hf 4392 (Nat.le_refl _)
  obtain ⟨z1, -, -, z4, z5⟩ := zt_spec hh
  -- who is told on l
  have htold : ∀ l q, l < 4392 → hdt T b f l q = FARN → (hdt T b f (l + 1) q = FARN ↔ tels T b (hdt T b f 4392) l q = []) := by
    intro l q hl hF
    have e : hdt T b f (l + 1) q = cond (hdt T b f l q == FARN && (List.range (tn T)).any (fun e => freeB T e l && (guestB T l e q && tellsB b (hdt T b f l) e l))) l (hdt T b f l q) := rfl
    rw [e, hF]
    have hany : (List.range (tn T)).any (fun e => freeB T e l && (guestB T l e q && tellsB b (hdt T b f l) e l)) = !(tels T b (hdt T b f 4392) l q).isEmpty := by
      rw [Bool.eq_iff_iff, List.any_eq_true]
      unfold tels
      constructor
      · rintro ⟨x, h1, h2⟩
        rw [Bool.and_eq_true, Bool.and_eq_true, tells_fin hf (by omega)] at h2
        have hm : x ∈ (List.range (tn T)).filter (fun e => freeB T e l && tlB T b (hdt T b f 4392) l e q) := List.mem_filter.mpr ⟨h1, by unfold tlB; rw [h2.1, h2.2.1, h2.2.2]; rfl⟩
        cases hc : (List.range (tn T)).filter (fun e => freeB T e l && tlB T b (hdt T b f 4392) l e q) with
        | nil => rw [hc] at hm; cases hm
        | cons _ _ => rfl
      · intro h
        cases hc : (List.range (tn T)).filter (fun e => freeB T e l && tlB T b (hdt T b f 4392) l e q) with
        | nil => rw [hc] at h; cases h
        | cons x _ =>
          have hm : x ∈ (List.range (tn T)).filter (fun e => freeB T e l && tlB T b (hdt T b f 4392) l e q) := by rw [hc]; exact List.mem_cons_self
          obtain ⟨h1, h2⟩ := List.mem_filter.mp hm
          unfold tlB at h2
          rw [Bool.and_eq_true, Bool.and_eq_true] at h2
          exact ⟨x, h1, by rw [h2.1, h2.2.2, tells_fin hf (by omega), h2.2.1]; rfl⟩
    rw [hany]
    cases hc : tels T b (hdt T b f 4392) l q with
    | nil => simp
    | cons x y =>
      simp
      unfold FARN
      omega
  -- nobody before
  have hnone : ∀ l q, l ≤ 4392 → q ≠ b → hdt T b f l q = FARN → (rnB T b (evs T l) (h0 b f, fun _ => 0)).2 q = 0 := by
    intro l
    induction l with
    | zero => intro q _ _ _; rfl
    | succ l ih =>
      intro q hl hq hF
      have hF0 : hdt T b f l q = FARN := by
        rcases hd_step T b f l q with h | ⟨h, -⟩
        · rw [← h]; exact hF
        · exact h
      rw [hstep l (by omega)]
      dsimp only
      rw [hF0, (htold l q (by omega) hF0).mp hF, ih q (by omega) hq hF0]
      rfl
  have hkeep : ∀ m l q, l + m ≤ 4392 → hdt T b f l q ≠ FARN → (rnB T b (evs T (l + m)) (h0 b f, fun _ => 0)).2 q = (rnB T b (evs T l) (h0 b f, fun _ => 0)).2 q := by
    intro m
    induction m with
    | zero => intro l q _ _; rfl
    | succ m ih =>
      intro l q hl hq
      rw [← Nat.add_assoc, hstep (l + m) (by omega)]
      dsimp only
      have : (hdt T b f (l + m) q == FARN) = false := by
        rw [hd_keep hq m]
        simpa using hq
      rw [this]
      exact ih l q (by omega) hq
  funext q
  by_cases hq : q = b
  · subst hq
    rw [z1]
    have := hkeep 4392 0 q (by omega) (by
      show h0 q f q ≠ FARN
      unfold h0
      rw [if_pos rfl]
      unfold FARN
      omega)
    rw [Nat.zero_add] at this
    rw [this]
    rfl
  · by_cases hF : hdt T b f 4392 q = FARN
    · rw [(z4 q hq hF).1, hnone 4392 q (Nat.le_refl _) hq hF]
    · rw [(z5 q hq hF).1]
      have hv : hdt T b f 4392 q < 4392 := by
        rcases hh.2.2.2.1 q with g | g
        · exact absurd g hF
        · exact g
      generalize hl : hdt T b f 4392 q = l at hv hF
      have h1 : hdt T b f (l + 1) q = l := hd_back hq hl hF (l + 1) (by omega) (by omega)
      have h0' : hdt T b f l q = FARN := by
        rcases hd_val (T := T) (b := b) (f := f) l q hq with h | h
        · exact h
        · have := hd_keep2 (T := T) (b := b) (f := f) (q := q) (show l ≤ 4392 by omega) (by unfold FARN; omega)
          omega
      have h2 := hkeep (4392 - (l + 1)) (l + 1) q (by omega) (by rw [h1]; exact hF)
      rw [show l + 1 + (4392 - (l + 1)) = 4392 by omega] at h2
      rw [h2, hstep l hv]
      dsimp only
      rw [h0', hnone l q (by omega) hq h0']
      rfl
