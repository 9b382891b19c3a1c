/-! WHO TOLD WHOM: by, hands, ways -/
abbrev MDN : Nat := 1000000007
abbrev Z3 : Type := (Nat → Nat) × (Nat → Nat) × (Nat → Nat)
def upT (T : TW) (b : Nat) (h : Nat → Nat) (t e p : Nat) : Bool := !(p == b) && (h p == t && guestB T t e p)
/-- a door's telling: teller and one, tellings and one, ways -/
def stT (T : TW) (b : Nat) (h : Nat → Nat) (t e : Nat) (z : Z3) : Z3 := (fun p => cond (upT T b h t e p && z.1 p == 0) (e + 1) (z.1 p), fun p => cond (upT T b h t e p && z.1 p == 0) (z.2.1 e + 1) (z.2.1 p), fun p => cond (upT T b h t e p) ((z.2.2 p + z.2.2 e) % MDN) (z.2.2 p))
def TR (r : Nat) (S : sd_St) (z : Z3) : Prop := ∀ p, p < 12 → S.1 (r + 2) p = nI (z.1 p) - 1 ∧ S.1 (r + 3) p = nI (z.2.1 p) - 1 ∧ S.1 (r + 4) p = nI (z.2.2 p)
def zok (n : Nat) (z : Z3) : Prop := ∀ p, z.1 p ≤ 12 ∧ z.2.1 p ≤ n ∧ z.2.2 p < MDN
theorem up_self {T : TW} (hw : wfT T) {b : Nat} {h : Nat → Nat} {t e : Nat} (he : e < tn T) : upT T b h t e e = false := by
  have h4 := (hw.2.1 e he).2.2.2.2
  unfold upT guestB
  rw [h4]
  simp
theorem zok_st {T : TW} {b : Nat} {h : Nat → Nat} {t e n : Nat} {z : Z3} (hz : zok n z) (he : e < 12) : zok (n + 1) (stT T b h t e z) := by
  intro p
  obtain ⟨h1, h2, h3⟩ := hz p
  obtain ⟨g1, g2, g3⟩ := hz e
  unfold stT
  dsimp only
  refine ⟨?_, ?_, ?_⟩
  · cases upT T b h t e p && z.1 p == 0
    · simpa using h1
    · simp; omega
  · cases upT T b h t e p && z.1 p == 0
    · simp; omega
    · simp; omega
  · cases upT T b h t e p
    · simpa using h3
    · exact Nat.mod_lt _ (by decide)
theorem nI_mod {x y : Nat} (hx : x < MDN) (hy : y < MDN) : sd_rem (nI x + nI y) (1000000007 : Int32) = nI ((x + y) % MDN) := by
  rw [nI_add, show (1000000007 : Int32) = nI MDN from rfl, nI_rem (by unfold MDN at hx hy; omega) (by decide) (by decide)]
theorem nI_s1z {a : Nat} (ha : a < 2 ^ 30) : nI a - 1 = -1 ↔ a = 0 := by
  constructor
  · intro h
    rcases Nat.eq_zero_or_pos a with c | c
    · exact c
    · rw [nI_s1 c] at h
      exact absurd h (nI_neg1 (by omega))
  · intro h
    subst h
    decide
/-- one person at a door -/
theorem m_trace1 {r d : Nat} (hr : sd_kd r = 5) (hd : sd_kd d = 1) {T : TW} (hw : wfT T) {L : List (Nat × Nat)} {b f : Nat} {h : Nat → Nat} (hh : hok T b f h) {i t e : Nat} (hi : L[i]? = some (t, e)) (ht : t < 4392) (he : e < tn T) {z : Z3} {N : Nat} (hN : N < 10000) (hz : zok N z) (q10 : Int32 → Int32 → Int32 → sd_St → Option (Unit × sd_St)) {p : Nat} (hp : p < 12) {S : sd_St} (hL : DR d S T L) (hR : RM r S b h)
    (hS : ∀ j, j < 12 → S.1 (r + 2) j = nI (if j < p then (stT T b h t e z).1 j else z.1 j) - 1 ∧ S.1 (r + 3) j = nI (if j < p then (stT T b h t e z).2.1 j else z.2.1 j) - 1 ∧ S.1 (r + 4) j = nI (if j < p then (stT T b h t e z).2.2 j else z.2.2 j)) :
    ∃ S2, (sd_ld S (r + 1) (nI p) (fun v_15 => sd_ld S (d + 2) (nI i) (fun v_16 => (if v_15 = (v_16 + (1 : Int32)) then (if nI p = (S.1 r 0) then f_X5_traceDoor_b48 q10 r d (nI i) (nI e) (nI p) S else f_X5_traceDoor_b49 q10 r d (nI i) (nI e) (nI p) (1 : Int32) S) else f_X5_traceDoor_b48 q10 r d (nI i) (nI e) (nI p) S)))) = q10 (nI i) (nI e) (nI (p + 1)) S2 ∧ frm (fun a => r + 2 ≤ a ∧ a ≤ r + 4) S S2 ∧
      ∀ j, j < 12 → S2.1 (r + 2) j = nI (if j < p + 1 then (stT T b h t e z).1 j else z.1 j) - 1 ∧ S2.1 (r + 3) j = nI (if j < p + 1 then (stT T b h t e z).2.1 j else z.2.1 j) - 1 ∧ S2.1 (r + 4) j = nI (if j < p + 1 then (stT T b h t e z).2.2 j else z.2.2 j) := by
  have hal := al5 hr
  have hal1 := al1 hd
  have hdis := rd_dis hr hd
  have hn := hw.1
  obtain ⟨l0, l1, l2⟩ := hL
  obtain ⟨d1, d2, d3⟩ := l2 i t e hi
  obtain ⟨r1, r2, r3⟩ := hR
  have hil := (List.getElem?_eq_some_iff.mp hi).1
  have hrl : rdy b h p < 2 ^ 31 := by
    unfold rdy
    rcases hh.2.2.2.1 p with g | g
    · rw [if_pos g]; omega
    · rw [if_neg (by unfold FARN; omega)]
      by_cases c : p = b
      · rw [if_pos c]; omega
      · rw [if_neg c]; omega
  have hb12 : b < 12 := by have := hh.1; omega
  rw [sd_ld_ok (by omega) (sd_al_lt _), sd_ld_ok (by omega) (sd_al_lt _), r3 p hp, d1, nI_1, r1]
  have hskip : upT T b h t e p = false → ∃ S2, f_X5_traceDoor_b131 q10 r d (nI i) (nI e) (nI p) S = q10 (nI i) (nI e) (nI (p + 1)) S2 ∧ frm (fun a => r + 2 ≤ a ∧ a ≤ r + 4) S S2 ∧
      ∀ j, j < 12 → S2.1 (r + 2) j = nI (if j < p + 1 then (stT T b h t e z).1 j else z.1 j) - 1 ∧ S2.1 (r + 3) j = nI (if j < p + 1 then (stT T b h t e z).2.1 j else z.2.1 j) - 1 ∧ S2.1 (r + 4) j = nI (if j < p + 1 then (stT T b h t e z).2.2 j else z.2.2 j) := by
    intro hu
    unfold f_X5_traceDoor_b131
    rw [nI_1]
    refine ⟨S, rfl, frm_rfl, fun j hj => ?_⟩
    by_cases c : j = p
    · subst c
      have := hS j hj
      rw [if_neg (by omega), if_neg (by omega), if_neg (by omega)] at this
      rw [if_pos (by omega), if_pos (by omega), if_pos (by omega)]
      unfold stT
      dsimp only
      rw [hu]
      exact this
    · have := hS j hj
      by_cases c2 : j < p
      · rw [if_pos c2, if_pos c2, if_pos c2] at this
        rw [if_pos (by omega), if_pos (by omega), if_pos (by omega)]
        exact this
      · rw [if_neg c2, if_neg c2, if_neg c2] at this
        rw [if_neg (by omega), if_neg (by omega), if_neg (by omega)]
        exact this
  have hb48 : f_X5_traceDoor_b48 q10 r d (nI i) (nI e) (nI p) S = f_X5_traceDoor_b131 q10 r d (nI i) (nI e) (nI p) S := by
    unfold f_X5_traceDoor_b48 f_X5_traceDoor_b49
    rw [if_pos rfl]
  by_cases c1 : rdy b h p = t + 1
  · rw [if_pos (by rw [c1])]
    by_cases c2 : p = b
    · rw [if_pos (by rw [c2]), hb48]
      exact hskip (by unfold upT; simp [c2])
    · rw [if_neg (fun w => c2 (nI_inj (by omega) (by omega) w))]
      have hpt : h p = t := by
        unfold rdy at c1
        by_cases c : h p = FARN
        · rw [if_pos c] at c1; omega
        · rw [if_neg c, if_neg c2] at c1; omega
      unfold f_X5_traceDoor_b49
      rw [if_neg (by decide), sd_ld_ok (by omega) (sd_al_lt _), sd_cl_ok (m_has _ (by omega) S), d3 p]
      cases c3 : guestB T t e p with
      | false =>
        rw [if_pos (by decide)]
        exact hskip (by unfold upT; simp [c3])
      | true =>
        have hu : upT T b h t e p = true := by
          unfold upT
          simp [c2, hpt, c3]
        rw [if_neg (by decide), sd_ld_ok (by omega) (sd_al_lt _)]
        obtain ⟨s1, s2, s3⟩ := hS p hp
        rw [if_neg (by omega)] at s1 s2 s3
        have hpe : ¬ e = p := fun w => by
          have := up_self hw (b := b) (h := h) (t := t) he
          rw [w] at this
          rw [w, this] at hu
          cases hu
        have hue := up_self hw (b := b) (h := h) (t := t) he
        obtain ⟨_, s5, s6⟩ := hS e (by omega)
        have e5 : S.1 (r + 3) e = nI (z.2.1 e) - 1 := by
          rw [s5]
          unfold stT
          dsimp only
          rw [hue]
          simp
        have e6 : S.1 (r + 4) e = nI (z.2.2 e) := by
          rw [s6]
          unfold stT
          dsimp only
          rw [hue]
          simp
        obtain ⟨zp1, zp2, zp3⟩ := hz p
        obtain ⟨ze1, ze2, ze3⟩ := hz e
        have hfin : ∀ S1 : sd_St, S1.1 (r + 4) = S.1 (r + 4) → frm (fun a => r + 2 ≤ a ∧ a ≤ r + 4) S S1 → (∀ j, j < 12 → S1.1 (r + 2) j = nI (if j < p + 1 then (stT T b h t e z).1 j else z.1 j) - 1 ∧ S1.1 (r + 3) j = nI (if j < p + 1 then (stT T b h t e z).2.1 j else z.2.1 j) - 1) →
            ∃ S2, f_X5_traceDoor_b107 q10 r d (nI i) (nI e) (nI p) S1 = q10 (nI i) (nI e) (nI (p + 1)) S2 ∧ frm (fun a => r + 2 ≤ a ∧ a ≤ r + 4) S S2 ∧
              ∀ j, j < 12 → S2.1 (r + 2) j = nI (if j < p + 1 then (stT T b h t e z).1 j else z.1 j) - 1 ∧ S2.1 (r + 3) j = nI (if j < p + 1 then (stT T b h t e z).2.1 j else z.2.1 j) - 1 ∧ S2.1 (r + 4) j = nI (if j < p + 1 then (stT T b h t e z).2.2 j else z.2.2 j) := by
          intro S1 q1 q2 q3
          unfold f_X5_traceDoor_b107 f_X5_traceDoor_b131
          rw [sd_ld_ok (by omega) (sd_al_lt _), sd_ld_ok (by omega) (sd_al_lt _), sd_st_ok (by omega) (sd_al_lt _), q1, s3, e6, nI_mod zp3 ze3, nI_1]
          refine ⟨_, rfl, frm_trans q2 (frm_I (c := fun a => r + 2 ≤ a ∧ a ≤ r + 4) (by omega)) (fun _ h => h) (fun _ h => h), fun j hj => ?_⟩
          obtain ⟨q4, q5⟩ := q3 j hj
          rw [rI_cell (by omega), rI_cell (by omega)]
          refine ⟨q4, q5, ?_⟩
          by_cases c : j = p
          · subst c
            rw [rI_same, if_pos (by omega)]
            unfold stT
            dsimp only
            rw [hu]
            rfl
          · rw [rI_oth c, q1, (hS j hj).2.2]
            by_cases c2 : j < p
            · rw [if_pos c2, if_pos (by omega)]
            · rw [if_neg c2, if_neg (by omega)]
        rw [s1]
        by_cases c4 : z.1 p = 0
        · rw [if_pos ((nI_s1z (by omega)).mpr c4), sd_st_ok (by omega) (sd_al_lt _), sd_ld_ok (by omega) (sd_al_lt _), rI_cell (by omega), e5, sd_st_ok (by omega) (sd_al_lt _)]
          refine hfin _ (by rw [rI_cell (by omega), rI_cell (by omega)]) (frm_trans (frm_I (c := fun a => r + 2 ≤ a ∧ a ≤ r + 4) (by omega)) (frm_I (c := fun a => r + 2 ≤ a ∧ a ≤ r + 4) (by omega)) (fun _ h => h) (fun _ h => h)) (fun j hj => ?_)
          by_cases c : j = p
          · subst c
            have e9 : nI (z.2.1 e) - 1 + 1 = nI (z.2.1 e + 1) - 1 := by
              rw [nI_pred]
              simp
            refine ⟨?_, ?_⟩
            · rw [rI_cell (by omega), rI_same, if_pos (by omega)]
              unfold stT
              dsimp only
              rw [hu, c4]
              show nI e = nI (e + 1) - 1
              rw [nI_pred]
            · rw [rI_same, if_pos (by omega)]
              unfold stT
              dsimp only
              rw [hu, c4]
              exact e9
          · obtain ⟨o1, o2, -⟩ := hS j hj
            refine ⟨?_, ?_⟩
            · rw [rI_cell (by omega), rI_oth c, o1]
              by_cases c2 : j < p
              · rw [if_pos c2, if_pos (by omega)]
              · rw [if_neg c2, if_neg (by omega)]
            · rw [rI_oth c, rI_cell (by omega), o2]
              by_cases c2 : j < p
              · rw [if_pos c2, if_pos (by omega)]
              · rw [if_neg c2, if_neg (by omega)]
        · rw [if_neg (fun w => c4 ((nI_s1z (by omega)).mp w))]
          refine hfin S rfl frm_rfl (fun j hj => ?_)
          obtain ⟨o1, o2, -⟩ := hS j hj
          rw [o1, o2]
          by_cases c : j = p
          · subst c
            have : (z.1 j == 0) = false := by simpa using c4
            refine ⟨?_, ?_⟩
            · rw [if_neg (by omega), if_pos (by omega)]
              unfold stT
              dsimp only
              rw [this, Bool.and_false]
              rfl
            · rw [if_neg (by omega), if_pos (by omega)]
              unfold stT
              dsimp only
              rw [this, Bool.and_false]
              rfl
          · refine ⟨?_, ?_⟩
            · by_cases c2 : j < p
              · rw [if_pos c2, if_pos (by omega)]
              · rw [if_neg c2, if_neg (by omega)]
            · by_cases c2 : j < p
              · rw [if_pos c2, if_pos (by omega)]
              · rw [if_neg c2, if_neg (by omega)]
  · rw [if_neg (fun w => c1 (nI_inj hrl (by omega) w)), hb48]
    refine hskip ?_
    unfold upT
    by_cases c2 : p = b
    · simp [c2]
    · have : ¬ h p = t := by
        intro w
        apply c1
        unfold rdy
        rw [if_neg (by unfold FARN; omega), if_neg c2, w]
      simp [this]
theorem m_traceDoor_l {r d : Nat} (hr : sd_kd r = 5) (hd : sd_kd d = 1) {T : TW} (hw : wfT T) {L : List (Nat × Nat)} {b f : Nat} {h : Nat → Nat} (hh : hok T b f h) {i t e : Nat} (hi : L[i]? = some (t, e)) (ht : t < 4392) (he : e < tn T) {z : Z3} {N : Nat} (hN : N < 10000) (hz : zok N z) : ∀ (m n p : Nat) (S : sd_St), p + m = 12 → m < n → DR d S T L → RM r S b h →
    (∀ j, j < 12 → S.1 (r + 2) j = nI (if j < p then (stT T b h t e z).1 j else z.1 j) - 1 ∧ S.1 (r + 3) j = nI (if j < p then (stT T b h t e z).2.1 j else z.2.1 j) - 1 ∧ S.1 (r + 4) j = nI (if j < p then (stT T b h t e z).2.2 j else z.2.2 j)) →
    ∃ S2, f_X5_traceDoor_l10 r d n (nI i) (nI e) (nI p) S = some ((), S2) ∧ TR r S2 (stT T b h t e z) ∧ frm (fun a => r + 2 ≤ a ∧ a ≤ r + 4) S S2 := by
  have hdis := rd_dis hr hd
  intro m
  induction m with
  | zero =>
    intro n p S hp hn hL hR hS
    obtain ⟨n, rfl⟩ : ∃ n', n = n' + 1 := ⟨n - 1, by omega⟩
    unfold f_X5_traceDoor_l10
    rw [if_pos (show (12 : Int32) ≤ nI p from nI_le (a := 12) (by omega) (by omega))]
    refine ⟨S, rfl, fun j hj => ?_, frm_rfl⟩
    have := hS j hj
    rw [if_pos (by omega), if_pos (by omega), if_pos (by omega)] at this
    exact this
  | succ m ih =>
    intro n p S hp hn hL hR hS
    obtain ⟨n, rfl⟩ : ∃ n', n = n' + 1 := ⟨n - 1, by omega⟩
    unfold f_X5_traceDoor_l10
    rw [if_neg (show ¬ (12 : Int32) ≤ nI p from nI_ge (b := 12) (by omega) (by omega))]
    obtain ⟨S1, e1, e2, e3⟩ := m_trace1 hr hd hw hh hi ht he hN hz (f_X5_traceDoor_l10 r d n) (p := p) (by omega) hL hR hS
    rw [e1]
    obtain ⟨S2, k1, k2, k3⟩ := ih n (p + 1) S1 (by omega) (by omega) (DR_fr hL (by rw [e2.1 d (by omega)]) (fun a h1 h2 => e2.1 a (by omega))) (RM_fr hR (e2.1 r (by omega)) (e2.1 (r + 1) (by omega))) e3
    exact ⟨S2, k1, k2, frm_trans e2 k3 (fun _ h => h) (fun _ h => h)⟩
theorem m_traceDoor {r d : Nat} (hr : sd_kd r = 5) (hd : sd_kd d = 1) {T : TW} (hw : wfT T) {L : List (Nat × Nat)} {b f : Nat} {h : Nat → Nat} (hh : hok T b f h) {i t e : Nat} (hi : L[i]? = some (t, e)) (ht : t < 4392) (he : e < tn T) {z : Z3} {N : Nat} (hN : N < 10000) (hz : zok N z) {S : sd_St} (hL : DR d S T L) (hR : RM r S b h) (hS : TR r S z) :
    ∃ S2, f_X5_traceDoor r d (nI i) S = some ((), S2) ∧ TR r S2 (stT T b h t e z) ∧ frm (fun a => r + 2 ≤ a ∧ a ≤ r + 4) S S2 := by
  have hal1 := al1 hd
  have hil := (List.getElem?_eq_some_iff.mp hi).1
  have hl := hL.2.1
  unfold f_X5_traceDoor
  rw [sd_ld_ok (by omega) (sd_al_lt _), (hL.2.2 i t e hi).2.1]
  exact m_traceDoor_l hr hd hw hh hi ht he hN hz 12 sd_FU 0 S rfl (by unfold sd_FU; omega) hL hR (fun j hj => by
    rw [if_neg (by omega), if_neg (by omega), if_neg (by omega)]
    exact hS j hj)
/-- the tellings of a list of doors -/
def rnT (T : TW) (b : Nat) (h : Nat → Nat) (L : List (Nat × Nat)) (z : Z3) : Z3 := L.foldl (fun z ev => cond (tellsB b h ev.2 ev.1) (stT T b h ev.1 ev.2 z) z) z
def z0 (b : Nat) : Z3 := (fun _ => 0, fun p => cond (p == b) 1 0, fun p => cond (p == b) 1 0)
theorem m_trace_l {r d : Nat} (hr : sd_kd r = 5) (hd : sd_kd d = 1) {T : TW} (hw : wfT T) {L : List (Nat × Nat)} (hev : ∀ t e, (t, e) ∈ L → t < 4392 ∧ e < tn T) {b f : Nat} {h : Nat → Nat} (hh : hok T b f h) : ∀ (m n i : Nat) (S : sd_St) (z : Z3), i + m = L.length → m < n → DR d S T L → RM r S b h → TR r S z → zok (i + 1) z →
    ∃ S2, f_X5_trace_l46 r d n (nI i) S = some ((), S2) ∧ TR r S2 (rnT T b h (L.drop i) z) ∧ frm (fun a => r + 2 ≤ a ∧ a ≤ r + 4) S S2 := by
  have hal := al5 hr
  have hal1 := al1 hd
  have hdis := rd_dis hr hd
  have hn12 := hw.1
  intro m
  induction m with
  | zero =>
    intro n i S z hi hn hL hR hS hz
    obtain ⟨n, rfl⟩ : ∃ n', n = n' + 1 := ⟨n - 1, by omega⟩
    have l1 := hL.2.1
    unfold f_X5_trace_l46
    rw [hL.1, if_pos (nI_le (by omega) (by omega)), List.drop_eq_nil_of_le (by omega)]
    exact ⟨S, rfl, hS, frm_rfl⟩
  | succ m ih =>
    intro n i S z hi hn hL hR hS hz
    obtain ⟨n, rfl⟩ : ∃ n', n = n' + 1 := ⟨n - 1, by omega⟩
    have l1 := hL.2.1
    have hil : i < L.length := by omega
    have hzz : L[i]? = some L[i] := List.getElem?_eq_getElem hil
    have hdr : L.drop i = L[i] :: L.drop (i + 1) := List.drop_eq_getElem_cons hil
    have hmem := List.getElem_mem hil
    generalize L[i] = ev at hzz hdr hmem
    obtain ⟨t, e⟩ := ev
    obtain ⟨g1, g2⟩ := hev t e hmem
    have hrl : rdy b h e < 2 ^ 31 := by
      unfold rdy
      rcases hh.2.2.2.1 e with g | g
      · rw [if_pos g]; omega
      · rw [if_neg (by unfold FARN; omega)]
        by_cases c : e = b
        · rw [if_pos c]; omega
        · rw [if_neg c]; omega
    unfold f_X5_trace_l46
    rw [hL.1, if_neg (nI_ge hil (by omega)), sd_ld_ok (by omega) (sd_al_lt _), (hL.2.2 i t e hzz).2.1, sd_ld_ok (by omega) (sd_al_lt _), sd_ld_ok (by omega) (sd_al_lt _), (hL.2.2 i t e hzz).1, hR.2.2 e (by omega), hdr]
    have hrn : rnT T b h ((t, e) :: L.drop (i + 1)) z = rnT T b h (L.drop (i + 1)) (cond (tellsB b h e t) (stT T b h t e z) z) := rfl
    rw [hrn]
    unfold f_X5_trace_b80
    cases ctl : tellsB b h e t with
    | false =>
      have : ¬ rdy b h e ≤ t := fun w => by rw [(rdy_le g1).mp w] at ctl; cases ctl
      rw [if_pos (nI_lt (by omega) hrl), nI_1]
      exact ih n (i + 1) S z (by omega) (by omega) hL hR hS (fun p => ⟨(hz p).1, by have := (hz p).2.1; omega, (hz p).2.2⟩)
    | true =>
      rw [if_neg (nI_nlt ((rdy_le g1).mpr ctl) (by omega))]
      obtain ⟨S1, e1, e2, e3⟩ := m_traceDoor hr hd hw hh hzz g1 g2 (by omega) hz hL hR hS
      rw [sd_cl_ok e1, nI_1]
      obtain ⟨S2, k1, k2, k3⟩ := ih n (i + 1) S1 _ (by omega) (by omega) (DR_fr hL (by rw [e3.1 d (by omega)]) (fun a h1 h2 => e3.1 a (by omega))) (RM_fr hR (e3.1 r (by omega)) (e3.1 (r + 1) (by omega))) e2 (zok_st hz (by omega))
      exact ⟨S2, k1, k2, frm_trans e3 k3 (fun _ h => h) (fun _ h => h)⟩
theorem m_trace {r d : Nat} (hr : sd_kd r = 5) (hd : sd_kd d = 1) {T : TW} (hw : wfT T) {L : List (Nat × Nat)} (hev : ∀ t e, (t, e) ∈ L → t < 4392 ∧ e < tn T) {b f : Nat} {h : Nat → Nat} (hh : hok T b f h) {S : sd_St} (hL : DR d S T L) (hR : RM r S b h) :
    ∃ S2, f_X5_trace r d S = some ((), S2) ∧ TR r S2 (rnT T b h L (z0 b)) ∧ frm (fun a => r + 2 ≤ a ∧ a ≤ r + 4) S S2 := by
  have hal := al5 hr
  have hal1 := al1 hd
  have hdis := rd_dis hr hd
  have hn12 := hw.1
  have hb12 : b < 12 := by have := hh.1; omega
  have l1 := hL.2.1
  unfold f_X5_trace
  obtain ⟨Sa, a1, a2, a3⟩ := m_fill2 (k := r + 2) (by omega) (-1) S
  obtain ⟨Sb, b1, b2, b3⟩ := m_fill2 (k := r + 3) (by omega) (-1) Sa
  obtain ⟨Sc, c1, c2, c3⟩ := m_fill2 (k := r + 4) (by omega) 0 Sb
  have hfr : frm (fun a => r + 2 ≤ a ∧ a ≤ r + 4) S Sc := frm_trans (frm_trans a3 b3 (e := fun a => r + 2 ≤ a ∧ a ≤ r + 4) (fun a h => by omega) (fun a h => by omega)) c3 (fun _ h => h) (fun a h => by omega)
  have hr0 : Sc.1 r 0 = nI b := by rw [hfr.1 r (by omega)]; exact hR.1
  rw [sd_cl_ok a1, sd_cl_ok b1, sd_cl_ok c1, hr0, sd_st_ok (by omega) (sd_al_lt _), rI_cell (by omega), hr0, sd_st_ok (by omega) (sd_al_lt _)]
  have hfr2 : frm (fun a => r + 2 ≤ a ∧ a ≤ r + 4) S (sd_I (sd_I Sc (r + 3) b 0) (r + 4) b 1) := frm_trans (frm_trans hfr (frm_I (c := fun a => r + 2 ≤ a ∧ a ≤ r + 4) (by omega)) (fun _ h => h) (fun _ h => h)) (frm_I (c := fun a => r + 2 ≤ a ∧ a ≤ r + 4) (by omega)) (fun _ h => h) (fun _ h => h)
  obtain ⟨S2, k1, k2, k3⟩ := m_trace_l hr hd hw hev hh L.length sd_FU 0 (sd_I (sd_I Sc (r + 3) b 0) (r + 4) b 1) (z0 b) (by omega) (by unfold sd_FU; omega)
    (DR_fr hL (by rw [hfr2.1 d (by omega)]) (fun a h1 h2 => hfr2.1 a (by omega)))
    (RM_fr hR (hfr2.1 r (by omega)) (hfr2.1 (r + 1) (by omega)))
    (fun p hp => by
      refine ⟨?_, ?_, ?_⟩
      · rw [rI_cell (by omega), rI_cell (by omega), c3.1 (r + 2) (by omega), b3.1 (r + 2) (by omega), a2 p (by omega)]
        rfl
      · rw [rI_cell (by omega)]
        by_cases c : p = b
        · subst c
          rw [rI_same]
          unfold z0
          simp
          rfl
        · rw [rI_oth c, c3.1 (r + 3) (by omega), b2 p (by omega)]
          unfold z0
          have : (p == b) = false := by simpa using c
          simp only [this, cond_false]
          rfl
      · by_cases c : p = b
        · subst c
          rw [rI_same]
          unfold z0
          simp
          rfl
        · rw [rI_oth c, rI_cell (by omega), c2 p (by omega)]
          unfold z0
          have : (p == b) = false := by simpa using c
          simp only [this, cond_false]
          rfl)
    (fun p => by
      unfold z0
      refine ⟨by simp, ?_, ?_⟩
      · dsimp only
        cases (p == b) <;> simp
      · dsimp only
        cases (p == b) <;> simp [MDN])
  rw [show (0 : Int32) = nI 0 from rfl]
  refine ⟨S2, k1, by simpa using k2, frm_trans hfr2 k3 (fun _ h => h) (fun _ h => h)⟩
