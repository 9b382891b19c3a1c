/-! date, free, away -/
theorem b01 (b : Bool) : (if b = true then (1 : Int32) else 0) = 0 ↔ b = false := by cases b <;> decide
theorem m_isThere {S : sd_St} {T : TW} (hT : CT 17 S T) (hw : wfT T) {t : Nat} (ht : t < 4392) : f_X11_isThere (nI t) S = some (if thereB T t then 1 else 0, S) := by
  unfold f_X11_isThere
  rw [sd_cl_ok (m_isDate ht), if_neg (by decide), show (366 : Int32) = nI 366 from rfl, nI_div (by omega) (by decide) (by decide), nI_rem (by omega) (by decide) (by decide), sd_cl_ok (m_hasDay hT hw (by omega) (by omega)), show t / 366 * 366 + t % 366 = t by omega]
  cases c : thereB T t with
  | true => rfl
  | false => rfl
theorem m_isThere_n {S : sd_St} {x : Int32} (h : x < 0 ∨ nI 4392 ≤ x) : f_X11_isThere x S = some (0, S) := by
  unfold f_X11_isThere
  rw [sd_cl_ok (m_isDate_n h), if_pos rfl]
theorem n_isThere_n {S : sd_St} {x : Int32} (h : x < 0 ∨ nI 4392 ≤ x) : f_X12_isThere x S = some (0, S) := by
  unfold f_X12_isThere
  rw [sd_cl_ok (n_isDate_n h), if_pos rfl]
theorem n_within {S : sd_St} {i m : Nat} (hi : i < m + 1) (hm : m < 2 ^ 30) : f_X12_within (nI i) 0 (nI m) S = some (1, S) := by
  unfold f_X12_within
  rw [if_neg (nI_pos (by omega)), if_neg (nI_nlt (by omega) (by omega))]
theorem n_within_n {S : sd_St} {x : Int32} {m : Nat} (hm : m < 2 ^ 30) (h : x < 0 ∨ nI (m + 1) ≤ x) : f_X12_within x 0 (nI m) S = some (0, S) := by
  unfold f_X12_within
  rcases h with h | h
  · rw [if_pos h]
  · by_cases c : x < 0
    · rw [if_pos c]
    · rw [if_neg c, if_pos (Int32.lt_of_lt_of_le (nI_lt (show m < m + 1 by omega) (by omega)) h)]
theorem ag_date (x1 x2 : Int32) : AG (f_X11_date x1 x2) (f_X12_date x1 x2) := by
  intro σ hw
  have hw1 := hw.1
  rcases ix_or x1 (show 12 < 2 ^ 31 by decide) with ⟨y, hy, rfl⟩ | c1
  · rcases ix_or x2 (show 366 < 2 ^ 31 by decide) with ⟨d, hd, rfl⟩ | c2
    · refine AG_none hw (v := if thereB σ.1 (y * 366 + d) then nI (y * 366 + d) else -1) (fun S h => ?_) (fun S h => ?_)
      · unfold f_X11_date
        rw [if_neg (nI_pos (by omega)), if_neg (show ¬ (12 : Int32) ≤ nI y from nI_ge (b := 12) hy (by decide)), if_neg (nI_pos (by omega)), if_pos (show nI d < (366 : Int32) from nI_lt (b := 366) hd (by decide)), sd_cl_ok (m_hasDay (IC_T h) hw1 hy hd), show (366 : Int32) = nI 366 from rfl, nI_mul, nI_add]
        cases c : thereB σ.1 (y * 366 + d) with
        | true => rfl
        | false => rfl
      · have t1 := (IR_thr h).1
        unfold f_X12_date
        rw [sd_nm_eq, show (11 : Int32) = nI 11 from rfl, sd_cl_ok (n_within (by omega) (by decide)), if_neg (by decide), show (365 : Int32) = nI 365 from rfl, sd_cl_ok (n_within (by omega) (by decide)), if_neg (by decide), show (366 : Int32) = nI 366 from rfl, nI_mul, nI_add, Nat.mul_comm 366 y, sd_cl_ok (n_isThere (IR_T t1) hw1 (by omega))]
        cases c : thereB σ.1 (y * 366 + d) with
        | true => rfl
        | false => rfl
    · refine AG_none hw (v := -1) (fun S h => ?_) (fun S h => ?_)
      · unfold f_X11_date
        rw [if_neg (nI_pos (by omega)), if_neg (show ¬ (12 : Int32) ≤ nI y from nI_ge (b := 12) hy (by decide))]
        by_cases c : x2 < 0
        · rw [if_pos c]
        · rw [if_neg c, if_neg (show ¬ x2 < (366 : Int32) from Int32.not_lt.mpr (c2.resolve_left c))]
      · unfold f_X12_date
        rw [sd_nm_eq, show (11 : Int32) = nI 11 from rfl, sd_cl_ok (n_within (by omega) (by decide)), if_neg (by decide), show (365 : Int32) = nI 365 from rfl, sd_cl_ok (n_within_n (by decide) c2), if_pos rfl]
  · refine AG_none hw (v := -1) (fun S h => ?_) (fun S h => ?_)
    · unfold f_X11_date
      by_cases c : x1 < 0
      · rw [if_pos c]
      · rw [if_neg c, if_pos (show (12 : Int32) ≤ x1 from c1.resolve_left c)]
    · unfold f_X12_date
      rw [sd_nm_eq, show (11 : Int32) = nI 11 from rfl, sd_cl_ok (n_within_n (by decide) c1), if_pos rfl]
theorem ag_free (x1 x2 : Int32) : AG (f_X11_free x1 x2) (f_X12_free x1 x2) := by
  intro σ hw
  have hw1 := hw.1
  have h12 := hw1.1
  rcases ix_or x1 (wf31 hw1).1 with ⟨p, hp, rfl⟩ | c1
  · rcases ix_or x2 (show 4392 < 2 ^ 31 by decide) with ⟨t, ht, rfl⟩ | c2
    · refine AG_none hw (v := if thereB σ.1 t then (if freeB σ.1 p t then 1 else 0) else -1) (fun S h => ?_) (fun S h => ?_)
      · have hT := IC_T h
        unfold f_X11_free
        obtain ⟨y, y1, y2⟩ := m_awayOn al17 hT hw1 ht
        rw [sd_cl_ok (m_isPerson hT hw1 hp), if_neg (by decide), sd_cl_ok (m_isThere hT hw1 ht), show (366 : Int32) = nI 366 from rfl, nI_rem (by omega) (by decide) (by decide), sd_cl_ok (m_isFeast al17 hT hw1 hp (by omega)), sd_cl_ok y1, sd_cl_ok (m_has y (by omega) S), y2]
        unfold freeB
        cases c : thereB σ.1 t with
        | false => rfl
        | true =>
          cases c2 : feastB σ.1 p (t % 366) with
          | false => rfl
          | true =>
            cases c3 : goneB σ.1 p t with
            | false => rfl
            | true => rfl
      · have t1 := (IR_thr h).1
        unfold f_X12_free
        rw [sd_nm_eq, sd_cl_ok (n_isPerson (IR_T t1) hw1 hp), if_neg (by decide), sd_cl_ok (n_isThere (IR_T t1) hw1 ht), sd_cl_ok (n_isFree (IR_T t1) hw1 hp ht)]
        cases c : thereB σ.1 t with
        | false => rfl
        | true =>
          cases c2 : freeB σ.1 p t with
          | false => rfl
          | true => rfl
    · refine AG_none hw (v := -1) (fun S h => ?_) (fun S h => ?_)
      · unfold f_X11_free
        rw [sd_cl_ok (m_isPerson (IC_T h) hw1 hp), if_neg (by decide), sd_cl_ok (m_isThere_n c2), if_pos rfl]
      · unfold f_X12_free
        rw [sd_nm_eq, sd_cl_ok (n_isPerson (IR_T (IR_thr h).1) hw1 hp), if_neg (by decide), sd_cl_ok (n_isThere_n c2), if_pos rfl]
  · refine AG_none hw (v := -1) (fun S h => ?_) (fun S h => ?_)
    · unfold f_X11_free
      rw [sd_cl_ok (m_isPerson_n (IC_T h) c1), if_pos rfl]
    · unfold f_X12_free
      rw [sd_nm_eq, sd_cl_ok (n_isPerson_n (IR_T (IR_thr h).1) c1), if_pos rfl]
theorem ag_away (x1 x2 : Int32) : AG (f_X11_away x1 x2) (f_X12_away x1 x2) := by
  intro σ hw
  have hw1 := hw.1
  have h12 := hw1.1
  rcases ix_or x1 (wf31 hw1).1 with ⟨p, hp, rfl⟩ | c1
  · rcases ix_or x2 (show 4392 < 2 ^ 31 by decide) with ⟨t, ht, rfl⟩ | c2
    · refine AG_none hw (v := if thereB σ.1 t then (if goneB σ.1 p t then 1 else 0) else -1) (fun S h => ?_) (fun S h => ?_)
      · have hT := IC_T h
        unfold f_X11_away
        obtain ⟨y, y1, y2⟩ := m_awayOn al17 hT hw1 ht
        rw [sd_cl_ok (m_isPerson hT hw1 hp), if_neg (by decide), sd_cl_ok (m_isThere hT hw1 ht), sd_cl_ok y1, sd_cl_ok (m_has y (by omega) S), y2]
        cases c : thereB σ.1 t with
        | false => rfl
        | true =>
          cases c3 : goneB σ.1 p t with
          | false => rfl
          | true => rfl
      · have t1 := (IR_thr h).1
        unfold f_X12_away
        rw [sd_nm_eq, sd_cl_ok (n_isPerson (IR_T t1) hw1 hp), if_neg (by decide), sd_cl_ok (n_isThere (IR_T t1) hw1 ht), sd_cl_ok (n_isGone (IR_T t1) hw1 (by omega) ht)]
        cases c : thereB σ.1 t with
        | false => rfl
        | true =>
          cases c2 : goneB σ.1 p t with
          | false => rfl
          | true => rfl
    · refine AG_none hw (v := -1) (fun S h => ?_) (fun S h => ?_)
      · unfold f_X11_away
        rw [sd_cl_ok (m_isPerson (IC_T h) hw1 hp), if_neg (by decide), sd_cl_ok (m_isThere_n c2), if_pos rfl]
      · unfold f_X12_away
        rw [sd_nm_eq, sd_cl_ok (n_isPerson (IR_T (IR_thr h).1) hw1 hp), if_neg (by decide), sd_cl_ok (n_isThere_n c2), if_pos rfl]
  · refine AG_none hw (v := -1) (fun S h => ?_) (fun S h => ?_)
    · unfold f_X11_away
      rw [sd_cl_ok (m_isPerson_n (IC_T h) c1), if_pos rfl]
    · unfold f_X12_away
      rw [sd_nm_eq, sd_cl_ok (n_isPerson_n (IR_T (IR_thr h).1) c1), if_pos rfl]
/-! all -/
def mxp (h : Nat → Nat) (n : Nat) : Nat := (List.range n).foldl (fun a q => max a (h q + 1)) 0
theorem mxp_succ (h : Nat → Nat) (n : Nat) : mxp h (n + 1) = max (mxp h n) (h n + 1) := by
  unfold mxp
  rw [List.range_succ, List.foldl_append]
  rfl
theorem mxp_le {h : Nat → Nat} {B : Nat} (hB : ∀ q, h q ≤ B) : ∀ n, mxp h n ≤ B + 1 := by
  intro n
  induction n with
  | zero => exact Nat.zero_le _
  | succ n ih =>
    rw [mxp_succ]
    have := hB n
    omega
theorem mxp_ge {h : Nat → Nat} : ∀ {n q}, q < n → h q + 1 ≤ mxp h n := by
  intro n
  induction n with
  | zero => intro q hq; omega
  | succ n ih =>
    intro q hq
    rw [mxp_succ]
    by_cases c : q = n
    · subst c; omega
    · have := ih (show q < n by omega)
      omega
theorem mxp_far {h : Nat → Nat} (hv : ∀ q, h q = FARN ∨ h q < 4392) : ∀ n, (∀ q, q < n → h q ≠ FARN) → mxp h n ≤ 4392 := by
  intro n
  induction n with
  | zero => intro _; exact Nat.zero_le _
  | succ n ih =>
    intro hq
    rw [mxp_succ]
    have := ih (fun q h => hq q (by omega))
    have := (hv n).resolve_left (hq n (by omega))
    omega
theorem nI_m1le {a b : Nat} (ha : a < 2 ^ 30) (hb : b < 2 ^ 30) : nI a ≤ nI b - 1 ↔ a < b := by
  cases b with
  | zero =>
    constructor
    · intro h
      exact absurd (Int32.lt_of_lt_of_le (nI_lt_neg1 (a := a) (by omega)) h) (by rw [show nI 0 - 1 = (-1 : Int32) from rfl]; decide)
    · intro h; omega
  | succ b =>
    rw [nI_pred]
    constructor
    · intro h
      apply Classical.byContradiction
      intro z
      exact nI_ge (show b < a by omega) (by omega) h
    · intro h
      exact nI_le (by omega) (by omega)
def allI (h : Nat → Nat) (n : Nat) : Int32 := if mxp h n = FARN + 1 then -1 else nI (mxp h n) - 1
theorem m_mx {a b : Nat} (ha : a < 2 ^ 30) (hb : b < 2 ^ 30) : sd_mx (nI a - 1) (nI b) = nI (max a (b + 1)) - 1 := by
  unfold sd_mx
  by_cases c : b < a
  · rw [if_neg (fun z => by have := (nI_s1lt ha hb).mp z; omega), Nat.max_eq_left (by omega)]
  · rw [if_pos ((nI_s1lt ha hb).mpr (by omega)), Nat.max_eq_right (by omega), nI_pred]
theorem m_all_l {S : sd_St} {T : TW} (hw : wfT T) (hT : CT 17 S T) {s : Nat} (hs : s < ts T) {b f : Nat} {h : Nat → Nat} (hR : RM (34 + 5 * s) S b h) (hh : hok T b f h) : ∀ (m n p : Nat), p + m = tn T → m < n → (∀ q, q < p → h q ≠ FARN) → f_X11_all_l18 n (nI s) (nI (mxp h p) - 1) (nI p) S = some (allI h (tn T), S) := by
  have h12 := hw.1
  have h4 := hw.2.2.2.2.1
  have hv := hh.2.2.2.1
  have hb12 := hh.1
  intro m
  induction m with
  | zero =>
    intro n p hp hn hq
    obtain ⟨n, rfl⟩ : ∃ n', n = n' + 1 := ⟨n - 1, by omega⟩
    unfold f_X11_all_l18 allI
    have := mxp_far hv p hq
    rw [hT.1, if_pos (nI_le (by omega) (by omega)), show tn T = p by omega, if_neg (by unfold FARN; omega)]
  | succ m ih =>
    intro n p hp hn hq
    obtain ⟨n, rfl⟩ : ∃ n', n = n' + 1 := ⟨n - 1, by omega⟩
    unfold f_X11_all_l18
    rw [hT.1, if_neg (nI_ge (by omega) (by omega)), rum_ix (by omega), sd_cl_ok (m_had (kd_r (by omega)) hR hh (by omega) (by omega))]
    unfold hadI
    by_cases c : h p = FARN
    · rw [if_pos c, if_pos rfl]
      unfold allI
      have h1 := mxp_ge (h := h) (show p < tn T by omega)
      have h2 := mxp_le (h := h) (B := FARN) (fun q => by rcases hv q with g | g <;> unfold FARN at * <;> omega) (tn T)
      rw [if_pos (by omega)]
    · have hc := (hv p).resolve_left c
      have := mxp_far hv p hq
      rw [if_neg c, if_neg (nI_neg1 (by omega)), m_mx (by omega) (by omega), ← mxp_succ, sd_nm_eq, nI_1]
      exact ih n (p + 1) (by omega) (by omega) (fun q hq2 => by
        by_cases cq : q = p
        · rw [cq]; exact c
        · exact hq q (by omega))
theorem n_all_l {S : sd_St} {T : TW} (hw : wfT T) (hT : RTg (S.1 136) T) {h : Nat → Nat} (hB : ∀ p, p < tn T → S.1 140 p = nI (h p)) (hv : ∀ q, h q = FARN ∨ h q < 4392) : ∀ (m n p : Nat), p + m = tn T → m < n → f_X12_all_l24 n (nI (mxp h p) - 1) (nI p) S = some (allI h (tn T), S) := by
  have h12 := hw.1
  have hB2 : ∀ q, h q ≤ FARN := fun q => by rcases hv q with g | g <;> unfold FARN at * <;> omega
  intro m
  induction m with
  | zero =>
    intro n p hp hn
    obtain ⟨n, rfl⟩ : ∃ n', n = n' + 1 := ⟨n - 1, by omega⟩
    unfold f_X12_all_l24 allI
    have hm := mxp_le hB2 p
    rw [sd_cl_ok (n_people hT), if_pos (nI_le (by omega) (by omega)), show tn T = p by omega]
    by_cases c : mxp h p = FARN + 1
    · rw [if_pos c, c, if_pos (by decide)]
    · rw [if_neg c, if_neg]
      intro z
      have := (nI_sub1 (b := 1000000) (by unfold FARN at hm; omega) (by decide)).mp z
      exact c this
  | succ m ih =>
    intro n p hp hn
    obtain ⟨n, rfl⟩ : ∃ n', n = n' + 1 := ⟨n - 1, by omega⟩
    have hm := mxp_le hB2 p
    have hp2 := hB2 p
    unfold FARN at hm hp2
    have ih := ih n (p + 1) (by omega) (by omega)
    rw [mxp_succ] at ih
    unfold f_X12_all_l24 f_X12_all_b52
    rw [sd_cl_ok (n_people hT), if_neg (nI_ge (by omega) (by omega)), sd_ld_ok (by rw [al140]; omega) (sd_al_lt _), sd_ld_ok (by rw [al140]; omega) (sd_al_lt _), hB p (by omega), nI_1]
    by_cases c : h p < mxp h p
    · rw [if_pos ((nI_m1le (by omega) (by omega)).mpr c)]
      rw [Nat.max_eq_left (by omega)] at ih
      exact ih
    · rw [if_neg (fun z => c ((nI_m1le (by omega) (by omega)).mp z))]
      rw [Nat.max_eq_right (by omega), nI_pred] at ih
      exact ih
theorem BR_h {S : sd_St} {T : TW} {h z : Nat → Nat} (hB : BR S T (h, z)) : ∀ p, p < tn T → S.1 140 p = nI (h p) := fun p hp => (hB p hp).1
theorem ag_all (x1 : Int32) : AG (f_X11_all x1) (f_X12_all x1) := by
  intro σ hw
  have hw1 := hw.1
  have h12 := hw1.1
  rcases ix_or x1 (wf31 hw1).2 with ⟨s, hs, rfl⟩ | c1
  · refine ⟨allI (hF σ.1 s) (tn σ.1), σ, hw, fun S h => ?_, fun S h => ?_⟩
    · obtain ⟨S1, e1, e2, e3, e4⟩ := IC_up hw h
      refine ⟨S1, ?_, e3, e4⟩
      unfold f_X11_all
      rw [sd_cl_ok (m_isSecret (IC_T h) hw1 hs), if_neg (by decide), sd_cl_ok e1]
      exact m_all_l hw1 (IC_T e3) hs (e2.2.2 s hs).1 (hok_F hw1 hs) (tn σ.1) sd_FU 0 (by omega) (by unfold sd_FU; omega) (fun q hq => absurd hq (by omega))
    · obtain ⟨t1, t2⟩ := IR_thr h
      obtain ⟨S1, e1, e2, e3, e4⟩ := IR_find hw t1 hs
      refine ⟨S1, ?_, e3, frm_trans t2 e4 (fun _ h => h) (fun _ h => h)⟩
      unfold f_X12_all
      rw [sd_nm_eq, sd_cl_ok (n_isSecret (IR_T t1) hw1 hs), if_neg (by decide), sd_cl_ok e1]
      exact n_all_l hw1 (IR_T e3) (BR_h e2) (hok_F hw1 hs).2.2.2.1 (tn σ.1) sd_FU 0 (by omega) (by unfold sd_FU; omega)
  · refine AG_none hw (v := -1) (fun S h => ?_) (fun S h => ?_)
    · unfold f_X11_all
      rw [sd_cl_ok (m_isSecret_n (IC_T h) c1), if_pos rfl]
    · unfold f_X12_all
      rw [sd_nm_eq, sd_cl_ok (n_isSecret_n (IR_T (IR_thr h).1) c1), if_pos rfl]
