/-! all doors of a town -/
theorem nI_date {y d : Nat} : nI y * (366 : Int32) + nI d = nI (y * 366 + d) := by
  rw [show (366 : Int32) = nI 366 from rfl, nI_mul, nI_add]
theorem YR_fr {d : Nat} {S S2 : sd_St} {Y : List Nat} (h : YR d S Y) (h4 : S2.1 d 4 = S.1 d 4) (hs : S2.1 (d + 1) = S.1 (d + 1)) : YR d S2 Y := by
  unfold YR at h ⊢
  rw [h4, hs]
  exact h
theorem m_unfold_l15 {d k : Nat} (hd : sd_kd d = 1) (hk : sd_kd k = 8) {T : TW} (hw : wfT T) {Y : List Nat} (hmx : ∀ e ∈ Y, e / 16 < 366 ∧ e % 16 < tn T) (hYl : Y.length ≤ sd_al (d + 1)) (q7 : Int32 → sd_St → Option (Unit × sd_St)) {y : Nat} (hy : y < 12) : ∀ (n i : Nat) (S : sd_St) (L : List (Nat × Nat)), i ≤ Y.length → Y.length - i < n → CT k S T → YR d S Y → DR d S T L → L.length + (Y.length - i) ≤ sd_al (d + 2) →
    ∃ S2, f_X1_unfold_l15 q7 d k n (nI y) (nI i) S = q7 (nI (y + 1)) S2 ∧ CT k S2 T ∧ YR d S2 Y ∧ DR d S2 T (L ++ yev T y (Y.drop i)) ∧ frm (fun a => a = d ∨ (d + 2 ≤ a ∧ a ≤ d + 4)) S S2 ∧ ∀ j, j ≠ 0 → S2.1 d j = S.1 d j := by
  have hal := al1 hd
  have hdk : d + 4 < k ∨ k + 10 < d := by
    rcases kd_1 hd with h | h | h <;> rcases kd_8 hk with g | g | g <;> omega
  intro n
  induction n with
  | zero => intro i S L _ h; omega
  | succ n ih =>
    intro i S L hi hn hT hY hL hr
    unfold f_X1_unfold_l15
    rw [hY.1]
    by_cases hie : i = Y.length
    · rw [if_pos (nI_le (by omega) (by omega)), nI_1]
      refine ⟨S, rfl, hT, hY, ?_, frm_rfl, fun _ _ => rfl⟩
      rw [hie, List.drop_length]
      unfold yev
      simpa using hL
    · have hlt : i < Y.length := by omega
      have hz : Y[i]? = some Y[i] := List.getElem?_eq_getElem hlt
      have hdr : Y.drop i = Y[i] :: Y.drop (i + 1) := List.drop_eq_getElem_cons hlt
      obtain ⟨m1, m2⟩ := hmx Y[i] (List.getElem_mem hlt)
      have hn12 := hw.1
      generalize hE : Y[i] = E at hz hdr m1 m2
      have hE2 : E < 8192 := by omega
      rw [if_neg (nI_ge hlt (by omega)), sd_ld_ok (by omega) (sd_al_lt _), hY.2 i E hz, nI_sr4 (by omega), sd_nm_eq, sd_cl_ok (m_hasDay hT hw hy m1)]
      have hyev : yev T y (Y.drop i) = (if thereB T (y * 366 + E / 16) && !goneB T (E % 16) (y * 366 + E / 16) then [(y * 366 + E / 16, E % 16)] else []) ++ yev T y (Y.drop (i + 1)) := by
        unfold yev
        rw [hdr, List.filterMap_cons]
        by_cases c : (thereB T (y * 366 + E / 16) && !goneB T (E % 16) (y * 366 + E / 16)) = true
        · simp [c]
        · simp [c]
      by_cases c1 : thereB T (y * 366 + E / 16) = true
      · rw [c1, if_pos rfl, if_neg (by decide), sd_ld_ok (by omega) (sd_al_lt _), hY.2 i E hz, nI_and15 (by omega), nI_date]
        obtain ⟨S1, g1, g2, g3, g4⟩ := m_addDoor hd hk hT hw hL (by omega) (t := y * 366 + E / 16) (p := E % 16) (by omega) m2
        rw [sd_cl_ok g1]
        unfold f_X1_unfold_b65
        rw [nI_1]
        have hT1 : CT k S1 T := CT_fr hT (fun a h1 h2 => g3.1 a (by omega))
        have hY1 : YR d S1 Y := YR_fr hY (g4 4 (by decide)) (g3.1 _ (by omega))
        obtain ⟨S2, e1, e2, e3, e4, e5, e6⟩ := ih (i + 1) S1 _ (by omega) (by omega) hT1 hY1 g2 (by
          by_cases c : goneB T (E % 16) (y * 366 + E / 16) = true
          · rw [if_pos c]; omega
          · rw [if_neg c, List.length_append]; simp; omega)
        refine ⟨S2, e1, e2, e3, ?_, frm_trans g3 e5 (fun _ h => h) (fun _ h => h), fun j hj => (e6 j hj).trans (g4 j hj)⟩
        rw [hyev, c1]
        by_cases c : goneB T (E % 16) (y * 366 + E / 16) = true
        · rw [if_pos c] at e4
          rw [c]
          simpa using e4
        · rw [if_neg c] at e4
          have c : goneB T (E % 16) (y * 366 + E / 16) = false := by simpa using c
          rw [c]
          simpa using e4
      · have c1 : thereB T (y * 366 + E / 16) = false := by simpa using c1
        rw [c1, if_pos (by decide)]
        unfold f_X1_unfold_b65
        rw [nI_1]
        obtain ⟨S2, e1, e2, e3, e4, e5, e6⟩ := ih (i + 1) S L (by omega) (by omega) hT hY hL (by omega)
        refine ⟨S2, e1, e2, e3, ?_, e5, e6⟩
        rw [hyev, c1]
        simpa using e4
theorem yev_len (T : TW) (y : Nat) (Y : List Nat) : (yev T y Y).length ≤ Y.length := List.length_filterMap_le _ _
theorem m_unfold_l7 {d k : Nat} (hd : sd_kd d = 1) (hk : sd_kd k = 8) {T : TW} (hw : wfT T) {Y : List Nat} (hmx : ∀ e ∈ Y, e / 16 < 366 ∧ e % 16 < tn T) (hYl : Y.length ≤ sd_al (d + 1)) : ∀ (m n y : Nat) (S : sd_St) (L : List (Nat × Nat)), y + m = 12 → m < n → CT k S T → YR d S Y → DR d S T L → L.length ≤ y * Y.length →
    ∃ S2, f_X1_unfold_l7 d k n (nI y) S = some ((), S2) ∧ CT k S2 T ∧ YR d S2 Y ∧ DR d S2 T (L ++ (List.range' y m).flatMap (fun y => yev T y Y)) ∧ frm (fun a => a = d ∨ (d + 2 ≤ a ∧ a ≤ d + 4)) S S2 ∧ ∀ j, j ≠ 0 → S2.1 d j = S.1 d j := by
  have hal := al1 hd
  intro m
  induction m with
  | zero =>
    intro n y S L hy hn hT hY hL _
    obtain ⟨n, rfl⟩ : ∃ n', n = n' + 1 := ⟨n - 1, by omega⟩
    unfold f_X1_unfold_l7
    rw [if_pos (show (12 : Int32) ≤ nI y from nI_le (a := 12) (by omega) (by omega))]
    exact ⟨S, rfl, hT, hY, by simpa using hL, frm_rfl, fun _ _ => rfl⟩
  | succ m ih =>
    intro n y S L hy hn hT hY hL hr
    obtain ⟨n, rfl⟩ : ∃ n', n = n' + 1 := ⟨n - 1, by omega⟩
    unfold f_X1_unfold_l7
    rw [if_neg (show ¬ (12 : Int32) ≤ nI y from nI_ge (b := 12) (by omega) (by omega))]
    have hyl : (y + 1) * Y.length ≤ 12 * Y.length := Nat.mul_le_mul_right _ (by omega)
    have hyl2 : 12 * Y.length ≤ 12 * sd_al (d + 1) := Nat.mul_le_mul_left _ hYl
    have hyl3 : (y + 1) * Y.length = y * Y.length + Y.length := Nat.succ_mul _ _
    obtain ⟨S1, e1, e2, e3, e4, e5, e6⟩ := m_unfold_l15 hd hk hw hmx hYl (f_X1_unfold_l7 d k n) (y := y) (by omega) sd_FU 0 S L (Nat.zero_le _) (by unfold sd_FU; omega) hT hY hL (by omega)
    rw [show (0 : Int32) = nI 0 from rfl, e1]
    rw [List.drop_zero] at e4
    have hlen := yev_len T y Y
    obtain ⟨S2, g1, g2, g3, g4, g5, g6⟩ := ih n (y + 1) S1 _ (by omega) (by omega) e2 e3 e4 (by rw [List.length_append]; omega)
    refine ⟨S2, g1, g2, g3, ?_, frm_trans e5 g5 (fun _ h => h) (fun _ h => h), fun j hj => (g6 j hj).trans (e6 j hj)⟩
    rw [List.range'_succ, List.flatMap_cons, ← List.append_assoc]
    exact g4
def aev (T : TW) (Y : List Nat) : List (Nat × Nat) := (List.range' 0 12).flatMap (fun y => yev T y Y)
theorem m_unfold {d k : Nat} (hd : sd_kd d = 1) (hk : sd_kd k = 8) {T : TW} (hw : wfT T) {Y : List Nat} (hmx : ∀ e ∈ Y, e / 16 < 366 ∧ e % 16 < tn T) (hYl : Y.length ≤ sd_al (d + 1)) {S : sd_St} (hT : CT k S T) (hY : YR d S Y) :
    ∃ S2, f_X1_unfold d k S = some ((), S2) ∧ DR d S2 T (aev T Y) ∧ frm (fun a => a = d ∨ (d + 2 ≤ a ∧ a ≤ d + 4)) S S2 := by
  have hdk : d + 4 < k ∨ k + 10 < d := by
    rcases kd_1 hd with h | h | h <;> rcases kd_8 hk with g | g | g <;> omega
  unfold f_X1_unfold
  rw [sd_nm_eq]
  obtain ⟨S2, e1, -, -, e4, e5, -⟩ := m_unfold_l7 hd hk hw hmx hYl 12 sd_FU 0 (sd_I S d 0 0) [] rfl (by unfold sd_FU; omega) (CT_fr hT (fun a h1 h2 => rI_cell (by omega))) (YR_fr hY (rI_oth (by decide)) (rI_cell (by omega))) ⟨rI_same, Nat.zero_le _, fun i t p h => by simp at h⟩ (by simp)
  refine ⟨S2, e1, ?_, frm_trans (frm_I (c := fun a => a = d ∨ (d + 2 ≤ a ∧ a ≤ d + 4)) (Or.inl rfl)) e5 (fun _ h => h) (fun _ h => h)⟩
  rw [List.nil_append] at e4
  exact e4
/-! the year's entries of all persons -/
def ent (T : TW) (p e : Nat) : Prop := e % 16 < p ∧ e / 16 < 366 ∧ feastB T (e % 16) (e / 16) = true
theorem feast_iff (T : TW) (p d : Nat) : feastB T p d = true ↔ tb T p = d + 1 ∨ (tz T = 1 ∧ tm T p = d + 1) := by
  unfold feastB
  simp
theorem m_openAll_l {d k : Nat} (hd : sd_kd d = 1) (h24 : sd_al (d + 1) = 24) (hk : sd_kd k = 8) {T : TW} (hw : wfT T) : ∀ (m n p : Nat) (S : sd_St) (Y : List Nat), p + m = tn T → m < n → CT k S T → YR d S Y → Y.Pairwise (· < ·) → (∀ e, e ∈ Y ↔ ent T p e) → Y.length ≤ 2 * p →
    ∃ S2 Y2, f_X1_openAll_l7 d k n (nI p) S = some ((), S2) ∧ DR d S2 T (aev T Y2) ∧ Y2.Pairwise (· < ·) ∧ (∀ e, e ∈ Y2 ↔ ent T (tn T) e) ∧ frm (fun a => d ≤ a ∧ a ≤ d + 4) S S2 := by
  have hal := al1 hd
  have hal8 := al8 hk
  have hn12 := hw.1
  have hdk : d + 4 < k ∨ k + 10 < d := by
    rcases kd_1 hd with h | h | h <;> rcases kd_8 hk with g | g | g <;> omega
  intro m
  induction m with
  | zero =>
    intro n p S Y hp hn hT hY hs hm hl
    obtain ⟨n, rfl⟩ : ∃ n', n = n' + 1 := ⟨n - 1, by omega⟩
    unfold f_X1_openAll_l7
    rw [hT.1, if_pos (nI_le (by omega) (by omega))]
    obtain ⟨S2, e1, e2, e3⟩ := m_unfold hd hk hw (Y := Y) (fun e he => by
      have := (hm e).mp he
      exact ⟨this.2.1, by have := this.1; omega⟩) (by omega) hT hY
    rw [sd_cl_ok e1]
    have hpe : p = tn T := by omega
    refine ⟨S2, Y, rfl, e2, hs, ?_, frm_mono e3 (fun a h => by omega)⟩
    rw [← hpe]
    exact hm
  | succ m ih =>
    intro n p S Y hp hn hT hY hs hm hl
    obtain ⟨n, rfl⟩ : ∃ n', n = n' + 1 := ⟨n - 1, by omega⟩
    have hpn : p < tn T := by omega
    obtain ⟨a1, a2, -, -⟩ := hT.2.1 p hpn
    obtain ⟨b1, b2, -⟩ := hw.2.1 p hpn
    unfold f_X1_openAll_l7
    rw [hT.1, if_neg (nI_ge hpn (by omega)), sd_ld_ok (by omega) (sd_al_lt _), a1]
    have hmx : ∀ e ∈ Y, e < 8192 := fun e he => by
      have := (hm e).mp he
      have := this.2.1
      omega
    obtain ⟨S1, Y1, g1, g2, g3, g4, g5, g6, g7⟩ := m_addToYear hd hY hs hmx (by omega) (x := tb T p) (p := p) b1 (by omega)
    rw [sd_cl_ok g1]
    have hT1 : CT k S1 T := CT_fr hT (fun a h1 h2 => g6.1 a (by omega))
    have hm1 : ∀ e, e ∈ Y1 ↔ ent T p e ∨ (0 < tb T p ∧ e = 16 * (tb T p - 1) + p) := fun e => by rw [g4 e, hm e]
    rw [hT1.2.2.2.2.2.2.2]
    by_cases c : tz T = 0
    · rw [c, if_pos (by decide)]
      unfold f_X1_openAll_b44
      rw [nI_1]
      obtain ⟨S2, Y2, e1, e2, e3, e4, e5⟩ := ih n (p + 1) S1 Y1 (by omega) (by omega) hT1 g2 g3 (fun e => by
        rw [hm1 e]
        unfold ent
        rw [feast_iff]
        constructor
        · rintro (⟨h1, h2, h3⟩ | ⟨h1, h2⟩)
          · exact ⟨by omega, h2, h3⟩
          · subst h2
            have e1 : (16 * (tb T p - 1) + p) % 16 = p := by omega
            have e2 : (16 * (tb T p - 1) + p) / 16 = tb T p - 1 := by omega
            rw [e1, e2]
            exact ⟨by omega, by omega, Or.inl (by omega)⟩
        · rintro ⟨h1, h2, h3⟩
          by_cases he : e % 16 = p
          · right
            rw [he] at h3
            rcases h3 with h3 | ⟨h3, -⟩
            · omega
            · omega
          · left
            exact ⟨by omega, h2, h3⟩) (by omega)
      exact ⟨S2, Y2, e1, e2, e3, e4, frm_trans g6 e5 (fun a h => by omega) (fun a h => h)⟩
    · have c1 : tz T = 1 := by
        have := hw.2.2.2.2.2.2.2
        omega
      rw [c1, if_neg (by decide), sd_ld_ok (by omega) (sd_al_lt _), (hT1.2.1 p hpn).2.1]
      have hmx1 : ∀ e ∈ Y1, e < 8192 := fun e he => by
        rcases (hm1 e).mp he with h | ⟨h1, h2⟩
        · have := h.2.1
          omega
        · omega
      obtain ⟨S3, Y3, k1, k2, k3, k4, k5, k6, k7⟩ := m_addToYear hd g2 g3 hmx1 (by omega) (x := tm T p) (p := p) b2 (by omega)
      rw [sd_cl_ok k1]
      unfold f_X1_openAll_b44
      rw [nI_1]
      obtain ⟨S2, Y2, e1, e2, e3, e4, e5⟩ := ih n (p + 1) S3 Y3 (by omega) (by omega) (CT_fr hT1 (fun a h1 h2 => k6.1 a (by omega))) k2 k3 (fun e => by
        rw [k4 e, hm1 e]
        unfold ent
        rw [feast_iff]
        constructor
        · rintro ((⟨h1, h2, h3⟩ | ⟨h1, h2⟩) | ⟨h1, h2⟩)
          · exact ⟨by omega, h2, h3⟩
          · subst h2
            have e1 : (16 * (tb T p - 1) + p) % 16 = p := by omega
            have e2 : (16 * (tb T p - 1) + p) / 16 = tb T p - 1 := by omega
            rw [e1, e2]
            exact ⟨by omega, by omega, Or.inl (by omega)⟩
          · subst h2
            have e1 : (16 * (tm T p - 1) + p) % 16 = p := by omega
            have e2 : (16 * (tm T p - 1) + p) / 16 = tm T p - 1 := by omega
            rw [e1, e2]
            exact ⟨by omega, by omega, Or.inr ⟨c1, by omega⟩⟩
        · rintro ⟨h1, h2, h3⟩
          by_cases he : e % 16 = p
          · rw [he] at h3
            rcases h3 with h3 | ⟨-, h3⟩
            · left; right
              omega
            · right
              omega
          · left; left
            exact ⟨by omega, h2, h3⟩) (by omega)
      exact ⟨S2, Y2, e1, e2, e3, e4, frm_trans (frm_trans g6 k6 (fun a h => h) (fun a h => h)) e5 (fun a h => by omega) (fun a h => h)⟩
/-! events: dates and persons in their order -/
def lx (a b : Nat × Nat) : Prop := a.1 < b.1 ∨ (a.1 = b.1 ∧ a.2 < b.2)
def EV (T : TW) (L : List (Nat × Nat)) : Prop := L.Pairwise lx ∧ ∀ t p, (t, p) ∈ L ↔ p < tn T ∧ freeB T p t = true
theorem yev_mem {T : TW} {y : Nat} {Y : List Nat} {t p : Nat} : (t, p) ∈ yev T y Y ↔ ∃ e ∈ Y, thereB T (y * 366 + e / 16) = true ∧ goneB T (e % 16) (y * 366 + e / 16) = false ∧ t = y * 366 + e / 16 ∧ p = e % 16 := by
  unfold yev
  rw [List.mem_filterMap]
  constructor
  · rintro ⟨e, h1, h2⟩
    by_cases c : (thereB T (y * 366 + e / 16) && !goneB T (e % 16) (y * 366 + e / 16)) = true
    · rw [if_pos c] at h2
      cases h2
      rw [Bool.and_eq_true, Bool.not_eq_true'] at c
      exact ⟨e, h1, c.1, c.2, rfl, rfl⟩
    · rw [if_neg c] at h2
      cases h2
  · rintro ⟨e, h1, h2, h3, h4, h5⟩
    refine ⟨e, h1, ?_⟩
    rw [h2, h3, h4, h5]
    rfl
theorem aev_mem {T : TW} {Y : List Nat} {t p : Nat} : (t, p) ∈ aev T Y ↔ ∃ y, y < 12 ∧ ∃ e ∈ Y, thereB T (y * 366 + e / 16) = true ∧ goneB T (e % 16) (y * 366 + e / 16) = false ∧ t = y * 366 + e / 16 ∧ p = e % 16 := by
  unfold aev
  rw [List.mem_flatMap]
  constructor
  · rintro ⟨y, h1, h2⟩
    rw [List.mem_range'_1] at h1
    exact ⟨y, by omega, yev_mem.mp h2⟩
  · rintro ⟨y, h1, h2⟩
    exact ⟨y, List.mem_range'_1.mpr (by omega), yev_mem.mpr h2⟩
theorem aev_lx {T : TW} {Y : List Nat} (hs : Y.Pairwise (· < ·)) (hmx : ∀ e ∈ Y, e / 16 < 366) : (aev T Y).Pairwise lx := by
  unfold aev
  rw [List.pairwise_flatMap]
  constructor
  · intro y _
    unfold yev
    refine List.Pairwise.filterMap _ (R := (· < ·)) ?_ hs
    intro a b hab x hx z hz
    by_cases c : (thereB T (y * 366 + a / 16) && !goneB T (a % 16) (y * 366 + a / 16)) = true
    · by_cases c2 : (thereB T (y * 366 + b / 16) && !goneB T (b % 16) (y * 366 + b / 16)) = true
      · rw [if_pos c] at hx
        rw [if_pos c2] at hz
        cases hx
        cases hz
        unfold lx
        dsimp only
        omega
      · rw [if_neg c2] at hz
        cases hz
    · rw [if_neg c] at hx
      cases hx
  · refine List.Pairwise.imp ?_ (List.pairwise_lt_range' (s := 0) (n := 12))
    intro y z hyz x hx w hw
    obtain ⟨t, p⟩ := x
    obtain ⟨t2, p2⟩ := w
    obtain ⟨e, h1, -, -, h2, -⟩ := yev_mem.mp hx
    obtain ⟨e2, h3, -, -, h4, -⟩ := yev_mem.mp hw
    have := hmx e h1
    left
    dsimp only
    omega
theorem aev_EV {T : TW} {Y : List Nat} (hs : Y.Pairwise (· < ·)) (hw : wfT T) (hm : ∀ e, e ∈ Y ↔ ent T (tn T) e) : EV T (aev T Y) := by
  refine ⟨aev_lx hs (fun e he => ((hm e).mp he).2.1), fun t p => ?_⟩
  rw [aev_mem]
  constructor
  · rintro ⟨y, h1, e, h2, h3, h4, h5, h6⟩
    obtain ⟨g1, g2, g3⟩ := (hm e).mp h2
    subst h5; subst h6
    refine ⟨g1, ?_⟩
    unfold freeB
    rw [h3, h4, show (y * 366 + e / 16) % 366 = e / 16 by omega, g3]
    rfl
  · rintro ⟨h1, h2⟩
    unfold freeB at h2
    rw [Bool.and_eq_true, Bool.and_eq_true, Bool.not_eq_true'] at h2
    obtain ⟨h3, h4, h5⟩ := h2
    have ht : t < 4392 := by
      unfold thereB at h3
      rw [Bool.and_eq_true, decide_eq_true_eq] at h3
      exact h3.1
    have hn := hw.1
    have e1 : (16 * (t % 366) + p) / 16 = t % 366 := by omega
    have e2 : (16 * (t % 366) + p) % 16 = p := by omega
    have e3 : t / 366 * 366 + t % 366 = t := by omega
    refine ⟨t / 366, by omega, 16 * (t % 366) + p, (hm _).mpr ?_, ?_, ?_, ?_, ?_⟩
    · unfold ent
      rw [e1, e2]
      exact ⟨h1, by omega, h4⟩
    · rw [e1, e3]; exact h3
    · rw [e1, e2, e3]; exact h5
    · rw [e1, e3]
    · rw [e2]
theorem m_openAll {d k : Nat} (hd : sd_kd d = 1) (h24 : sd_al (d + 1) = 24) (hk : sd_kd k = 8) {T : TW} (hw : wfT T) {S : sd_St} (hT : CT k S T) : ∃ S2 L, f_X1_openAll d k S = some ((), S2) ∧ DR d S2 T L ∧ EV T L ∧ frm (fun a => d ≤ a ∧ a ≤ d + 4) S S2 := by
  have hdk : d + 4 < k ∨ k + 10 < d := by
    rcases kd_1 hd with h | h | h <;> rcases kd_8 hk with g | g | g <;> omega
  have hn := hw.1
  unfold f_X1_openAll
  rw [sd_nm_eq]
  obtain ⟨S2, Y, e1, e2, e3, e4, e5⟩ := m_openAll_l hd h24 hk hw (tn T) sd_FU 0 (sd_I S d 4 0) [] (by omega) (by unfold sd_FU; omega) (CT_fr hT (fun a h1 h2 => rI_cell (by omega))) ⟨rI_same, fun i e h => by simp at h⟩ List.Pairwise.nil (fun e => by
    unfold ent
    simp) (by simp)
  exact ⟨S2, aev T Y, e1, e2, aev_EV e3 hw e4, frm_trans (frm_I (c := fun a => d ≤ a ∧ a ≤ d + 4) (by omega)) e5 (fun _ h => h) (fun _ h => h)⟩
/-- the doors of one person's one day -/
theorem m_openOne {d k : Nat} (hd : sd_kd d = 1) (hk : sd_kd k = 8) {T : TW} (hw : wfT T) {S : sd_St} (hT : CT k S T) {p x : Nat} (hp : p < tn T) (hx : x < 366) : ∃ S2 L, f_X1_openOne d k (nI p) (nI x) S = some ((), S2) ∧ DR d S2 T L ∧ L.Pairwise lx ∧ (∀ t q, (t, q) ∈ L ↔ q = p ∧ thereB T t = true ∧ t % 366 = x ∧ goneB T p t = false) ∧ frm (fun a => d ≤ a ∧ a ≤ d + 4) S S2 := by
  have hal := al1 hd
  have hdk : d + 4 < k ∨ k + 10 < d := by
    rcases kd_1 hd with h | h | h <;> rcases kd_8 hk with g | g | g <;> omega
  have hn := hw.1
  unfold f_X1_openOne
  rw [sd_nm_eq]
  have hT0 : CT k (sd_I S d 4 0) T := CT_fr hT (fun a h1 h2 => rI_cell (by omega))
  obtain ⟨S1, Y1, g1, g2, g3, g4, g5, g6, g7⟩ := m_addToYear hd (S := sd_I S d 4 0) (Y := []) ⟨rI_same, fun i e h => by simp at h⟩ List.Pairwise.nil (fun e h => by simp at h) (by simp; omega) (x := x + 1) (p := p) (by omega) (by omega)
  rw [show nI (x + 1) - 1 = nI x from nI_pred x] at g1
  rw [sd_cl_ok g1]
  have hm : ∀ e, e ∈ Y1 ↔ e = 16 * x + p := fun e => by
    rw [g4 e]
    simp
  obtain ⟨S2, e1, e2, e3⟩ := m_unfold hd hk hw (Y := Y1) (fun e he => by rw [(hm e).mp he]; omega) (by simp at g5; omega) (CT_fr hT0 (fun a h1 h2 => g6.1 a (by omega))) g2
  rw [sd_cl_ok e1]
  refine ⟨S2, aev T Y1, rfl, e2, aev_lx g3 (fun e he => by rw [(hm e).mp he]; omega), fun t q => ?_, ?_⟩
  · rw [aev_mem]
    have e1 : (16 * x + p) / 16 = x := by omega
    have e2 : (16 * x + p) % 16 = p := by omega
    constructor
    · rintro ⟨y, h1, e, h2, h3, h4, h5, h6⟩
      rw [(hm e).mp h2, e1] at h3 h5
      rw [(hm e).mp h2, e1, e2] at h4
      rw [(hm e).mp h2, e2] at h6
      subst h6
      rw [h5]
      exact ⟨rfl, h3, by omega, h4⟩
    · rintro ⟨h1, h2, h3, h4⟩
      have ht : t < 4392 := by
        unfold thereB at h2
        rw [Bool.and_eq_true, decide_eq_true_eq] at h2
        exact h2.1
      have e3 : t / 366 * 366 + x = t := by omega
      refine ⟨t / 366, by omega, 16 * x + p, (hm _).mpr rfl, ?_, ?_, ?_, ?_⟩
      · rw [e1, e3]; exact h2
      · rw [e1, e2, e3]; exact h4
      · rw [e1, e3]
      · rw [e2]; exact h1
  · exact frm_trans (frm_trans (frm_I (c := fun a => d ≤ a ∧ a ≤ d + 4) (by omega)) g6 (fun _ h => h) (fun a h => by omega)) e3 (fun _ h => h) (fun a h => by omega)
