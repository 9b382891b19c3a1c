/-! THE TOWN: its numbers by row and place -/
abbrev TW : Type := Nat → Nat → Nat
abbrev tn (T : TW) : Nat := T 0 0
/-- the birthday and one, 0: none -/
abbrev tb (T : TW) (p : Nat) : Nat := T 1 p
/-- the name day and one, 0: none -/
abbrev tm (T : TW) (p : Nat) : Nat := T 2 p
abbrev ti (T : TW) (p : Nat) : Nat := T 3 p
/-- who calls on p, as bits -/
abbrev tc (T : TW) (p : Nat) : Nat := T 4 p
abbrev ta (T : TW) : Nat := T 5 0
abbrev tw (T : TW) (i : Nat) : Nat := T 6 i
abbrev tf (T : TW) (i : Nat) : Nat := T 7 i
abbrev tt (T : TW) (i : Nat) : Nat := T 8 i
abbrev ts (T : TW) : Nat := T 9 0
abbrev tg (T : TW) (s : Nat) : Nat := T 10 s
abbrev tx (T : TW) (s : Nat) : Nat := T 11 s
abbrev tl (T : TW) : Nat := T 12 0
abbrev tz (T : TW) : Nat := T 13 0
/-- what a town keeps to; a town told has all birthdays besides -/
def wfT (T : TW) : Prop := tn T ≤ 12 ∧ (∀ p, p < tn T → tb T p ≤ 366 ∧ tm T p ≤ 366 ∧ ti T p ≤ 99 ∧ tc T p < 2 ^ tn T ∧ (tc T p).testBit p = false) ∧ ta T ≤ 12 ∧ (∀ i, i < ta T → tw T i < tn T ∧ tf T i ≤ tt T i ∧ tt T i < 4392) ∧ ts T ≤ 4 ∧ (∀ s, s < ts T → tg T s < tn T ∧ tx T s < 4392) ∧ tl T ≤ 3 ∧ tz T ≤ 1
/-- the days -/
def goneB (T : TW) (q t : Nat) : Bool := (List.range (ta T)).any (fun i => tw T i == q && (decide (tf T i ≤ t) && decide (t ≤ tt T i)))
def thereB (T : TW) (t : Nat) : Bool := decide (t < 4392) && (!(t % 366 == 59) || (t / 366 % 4 == tl T))
def fullT (T : TW) : Prop := ∀ p, p < tn T → 0 < tb T p
def feastB (T : TW) (p d : Nat) : Bool := tb T p == d + 1 || (tz T == 1 && tm T p == d + 1)
def freeB (T : TW) (p t : Nat) : Bool := thereB T t && (feastB T p (t % 366) && !goneB T p t)
/-- q may be told by p on t -/
def guestB (T : TW) (t p q : Nat) : Bool := (tc T p).testBit q && !goneB T q t
/-! THE CLASS'S TOWN at cell k -/
def CT (k : Nat) (S : sd_St) (T : TW) : Prop :=
  S.1 k 0 = nI (tn T) ∧ (∀ p, p < tn T → S.1 (k + 1) p = nI (tb T p) - 1 ∧ S.1 (k + 2) p = nI (tm T p) - 1 ∧ S.1 (k + 3) p = nI (ti T p) ∧ S.1 (k + 4) p = nI (tc T p)) ∧ S.1 k 7 = nI (ta T) ∧ (∀ i, i < ta T → S.1 (k + 6) i = nI (tw T i) ∧ S.1 (k + 7) i = nI (tf T i) ∧ S.1 (k + 8) i = nI (tt T i)) ∧ S.1 k 11 = nI (ts T) ∧ (∀ s, s < ts T → S.1 (k + 9) s = nI (tg T s) ∧ S.1 (k + 10) s = nI (tx T s)) ∧ S.1 k 14 = nI (tl T) ∧ S.1 k 15 = nI (tz T)
theorem al8 {k : Nat} (h : sd_kd k = 8) : k < 155 ∧ sd_al (k + 1) = 12 ∧ sd_al (k + 2) = 12 ∧ sd_al (k + 3) = 12 ∧ sd_al (k + 4) = 12 ∧ sd_al (k + 5) = 12 ∧ sd_al (k + 6) = 12 ∧ sd_al (k + 7) = 12 ∧ sd_al (k + 8) = 12 ∧ sd_al (k + 9) = 4 ∧ sd_al (k + 10) = 4 := by
  have hk := sd_lt (k := k) (by rw [h]; decide)
  have : ∀ k, k < 155 → sd_kd k = 8 → k < 155 ∧ sd_al (k + 1) = 12 ∧ sd_al (k + 2) = 12 ∧ sd_al (k + 3) = 12 ∧ sd_al (k + 4) = 12 ∧ sd_al (k + 5) = 12 ∧ sd_al (k + 6) = 12 ∧ sd_al (k + 7) = 12 ∧ sd_al (k + 8) = 12 ∧ sd_al (k + 9) = 4 ∧ sd_al (k + 10) = 4 := by decide +kernel
  exact this k hk h
theorem goneB_succ (T : TW) (q t i : Nat) : (List.range (i + 1)).any (fun i => tw T i == q && (decide (tf T i ≤ t) && decide (t ≤ tt T i))) = ((List.range i).any (fun i => tw T i == q && (decide (tf T i ≤ t) && decide (t ≤ tt T i))) || (tw T i == q && (decide (tf T i ≤ t) && decide (t ≤ tt T i)))) := by
  rw [List.range_succ, List.any_append]
  simp
theorem m_has (x : Int32) {p : Nat} (hp : p < 32) (S : sd_St) : f_X11_has x (nI p) S = some (if hb x p then 1 else 0, S) := by
  unfold f_X11_has
  by_cases h : hb x p = true
  · rw [if_neg (by rw [hb_has x hp]; simp [h]), h]; rfl
  · have h2 : hb x p = false := by simpa using h
    rw [if_pos ((hb_has x hp).mpr h2), h2]; rfl
/-- who is away on a date -/
theorem m_awayOn_l {k : Nat} (hk : sd_kd k = 8) {S : sd_St} {T : TW} (hT : CT k S T) (hw : wfT T) {t : Nat} (ht : t < 4392) : ∀ (n i : Nat) (x : Int32), i ≤ ta T → ta T - i < n → (∀ q, hb x q = (List.range i).any (fun i => tw T i == q && (decide (tf T i ≤ t) && decide (t ≤ tt T i)))) → ∃ y, f_X8_awayOn_l4 k n (nI t) x (nI i) S = some (y, S) ∧ ∀ q, hb y q = goneB T q t := by
  have hal := al8 hk
  obtain ⟨-, -, h7, hA, -⟩ := hT
  obtain ⟨hn12, -, ha12, hwA, -⟩ := hw
  intro n
  induction n with
  | zero => intro i x _ h; omega
  | succ n ih =>
    intro i x hi hn hx
    unfold f_X8_awayOn_l4
    rw [h7]
    by_cases hie : i = ta T
    · rw [if_pos (nI_le (by omega) (by omega))]
      refine ⟨x, rfl, fun q => ?_⟩
      rw [hx q, hie]; rfl
    · have hlt : i < ta T := by omega
      obtain ⟨a1, a2, a3⟩ := hA i hlt
      obtain ⟨b1, b2, b3⟩ := hwA i hlt
      rw [if_neg (nI_ge hlt (by omega)), sd_ld_ok (by omega) (sd_al_lt _), a2]
      have hstep : ∀ q, (List.range (i + 1)).any (fun i => tw T i == q && (decide (tf T i ≤ t) && decide (t ≤ tt T i))) = ((List.range i).any (fun i => tw T i == q && (decide (tf T i ≤ t) && decide (t ≤ tt T i))) || (tw T i == q && (decide (tf T i ≤ t) && decide (t ≤ tt T i)))) := fun q => goneB_succ T q t i
      by_cases c1 : t < tf T i
      · rw [if_pos (nI_lt c1 (by omega))]
        unfold f_X8_awayOn_b43
        rw [nI_1]
        refine ih (i + 1) x (by omega) (by omega) (fun q => ?_)
        rw [hstep, hx q]
        simp [Nat.not_le.mpr c1]
      · rw [if_neg (nI_nlt (by omega) (by omega)), sd_ld_ok (by omega) (sd_al_lt _), a3]
        by_cases c2 : tt T i < t
        · rw [if_pos (nI_lt c2 (by omega))]
          unfold f_X8_awayOn_b43
          rw [nI_1]
          refine ih (i + 1) x (by omega) (by omega) (fun q => ?_)
          rw [hstep, hx q]
          simp [Nat.not_le.mpr c2]
        · rw [if_neg (nI_nlt (by omega) (by omega)), sd_ld_ok (by omega) (sd_al_lt _), a1]
          unfold sd_nm f_X8_awayOn_b43
          rw [nI_1]
          refine ih (i + 1) _ (by omega) (by omega) (fun q => ?_)
          rw [hstep, hb_or, hx q, hb_shl (by omega)]
          have e1 : tf T i ≤ t := by omega
          have e2 : t ≤ tt T i := by omega
          simp only [e1, e2, decide_true, Bool.and_true]
          congr 1
          by_cases hq : q = tw T i
          · subst hq; simp
          · simp [hq, Ne.symm hq]
theorem m_awayOn {k : Nat} (hk : sd_kd k = 8) {S : sd_St} {T : TW} (hT : CT k S T) (hw : wfT T) {t : Nat} (ht : t < 4392) : ∃ y, f_X8_awayOn k (nI t) S = some (y, S) ∧ ∀ q, hb y q = goneB T q t := by
  unfold f_X8_awayOn
  have h12 := hw.2.2.1
  exact m_awayOn_l hk hT hw ht sd_FU 0 0 (Nat.zero_le _) (by unfold sd_FU; omega) (fun q => by rw [hb_0]; rfl)
theorem m_hasDay {k : Nat} {S : sd_St} {T : TW} (hT : CT k S T) (hw : wfT T) {y d : Nat} (hy : y < 12) (hd : d < 366) : f_X8_hasDay k (nI y) (nI d) S = some (if thereB T (y * 366 + d) then 1 else 0, S) := by
  obtain ⟨-, -, -, -, -, -, h14, -⟩ := hT
  obtain ⟨-, -, -, -, -, -, hl, -⟩ := hw
  have e1 : (y * 366 + d) % 366 = d := by omega
  have e2 : (y * 366 + d) / 366 = y := by omega
  have e3 : y * 366 + d < 4392 := by omega
  unfold f_X8_hasDay thereB
  rw [h14, e1, e2]
  by_cases c : d = 59
  · subst c
    rw [if_pos (show nI 59 = (59 : Int32) from rfl), show (4 : Int32) = nI 4 from rfl, nI_rem (by omega) (by decide) (by decide)]
    by_cases c2 : y % 4 = tl T
    · rw [if_pos (by rw [c2])]
      simp [e3, c2]
    · rw [if_neg (fun h => c2 (nI_inj (by omega) (by omega) h))]
      simp [c2]
  · rw [if_neg (show ¬ nI d = (59 : Int32) from fun h => c (nI_inj (b := 59) (by omega) (by decide) h))]
    simp [e3, c]
theorem nI_sub1 {a b : Nat} (ha : a < 2 ^ 30) (hb : b < 2 ^ 30) : nI a - 1 = nI b ↔ a = b + 1 := by
  constructor
  · intro h
    have h2 : nI a = nI b + 1 := by rw [← h]; simp
    rw [nI_1] at h2
    exact nI_inj (by omega) (by omega) h2
  · intro h
    subst h
    exact nI_pred b
theorem m_isFeast {k : Nat} (hk : sd_kd k = 8) {S : sd_St} {T : TW} (hT : CT k S T) (hw : wfT T) {p d : Nat} (hp : p < tn T) (hd : d < 366) : f_X8_isFeast k (nI p) (nI d) S = some (if feastB T p d then 1 else 0, S) := by
  have hal := al8 hk
  obtain ⟨-, hP, -, -, -, -, -, h15⟩ := hT
  obtain ⟨hn, hwP, -, -, -, -, -, hz⟩ := hw
  obtain ⟨a1, a2, -, -⟩ := hP p hp
  obtain ⟨b1, b2, -⟩ := hwP p hp
  unfold f_X8_isFeast feastB
  rw [sd_ld_ok (by omega) (sd_al_lt _), a1]
  by_cases c : tb T p = d + 1
  · rw [if_pos ((nI_sub1 (by omega) (by omega)).mpr c)]
    simp [c]
  · rw [if_neg (fun h => c ((nI_sub1 (by omega) (by omega)).mp h)), h15]
    by_cases c2 : tz T = 0
    · rw [if_pos (by rw [c2]; rfl)]
      simp [c, c2]
    · have c3 : tz T = 1 := by omega
      rw [if_neg (by rw [c3]; decide), sd_ld_ok (by omega) (sd_al_lt _), a2]
      by_cases c4 : tm T p = d + 1
      · rw [if_pos ((nI_sub1 (by omega) (by omega)).mpr c4)]
        simp [c3, c4]
      · rw [if_neg (fun h => c4 ((nI_sub1 (by omega) (by omega)).mp h))]
        simp [c, c3, c4]
theorem kd_8 {k : Nat} (h : sd_kd k = 8) : k = 2 ∨ k = 17 ∨ k = 102 := (show ∀ k, k < 155 → sd_kd k = 8 → k = 2 ∨ k = 17 ∨ k = 102 by decide +kernel) k (sd_lt (by rw [h]; decide)) h
theorem kd_1 {k : Nat} (h : sd_kd k = 1) : k = 28 ∨ k = 113 ∨ k = 118 := (show ∀ k, k < 155 → sd_kd k = 1 → k = 28 ∨ k = 113 ∨ k = 118 by decide +kernel) k (sd_lt (by rw [h]; decide)) h
theorem kd_5 {k : Nat} (h : sd_kd k = 5) : k = 34 ∨ k = 39 ∨ k = 44 ∨ k = 49 ∨ k = 54 ∨ k = 123 := (show ∀ k, k < 155 → sd_kd k = 5 → k = 34 ∨ k = 39 ∨ k = 44 ∨ k = 49 ∨ k = 54 ∨ k = 123 by decide +kernel) k (sd_lt (by rw [h]; decide)) h
theorem kd_4 {k : Nat} (h : sd_kd k = 4) : k = 72 ∨ k = 81 ∨ k = 86 ∨ k = 91 ∨ k = 96 := (show ∀ k, k < 155 → sd_kd k = 4 → k = 72 ∨ k = 81 ∨ k = 86 ∨ k = 91 ∨ k = 96 by decide +kernel) k (sd_lt (by rw [h]; decide)) h
/-- what stays: all cells but those of a kind -/
def frm (c : Nat → Prop) (S S2 : sd_St) : Prop := (∀ a, ¬ c a → S2.1 a = S.1 a) ∧ (∀ a, ¬ c a → S2.2 a = S.2 a)
theorem frm_rfl {c : Nat → Prop} {S : sd_St} : frm c S S := ⟨fun _ _ => rfl, fun _ _ => rfl⟩
theorem frm_trans {c d e : Nat → Prop} {S S2 S3 : sd_St} (h : frm c S S2) (g : frm d S2 S3) (hc : ∀ a, c a → e a) (hd : ∀ a, d a → e a) : frm e S S3 :=
  ⟨fun a ha => (g.1 a (fun z => ha (hd a z))).trans (h.1 a (fun z => ha (hc a z))), fun a ha => (g.2 a (fun z => ha (hd a z))).trans (h.2 a (fun z => ha (hc a z)))⟩
theorem frm_I {c : Nat → Prop} {S : sd_St} {k j : Nat} {v : Int32} (h : c k) : frm c S (sd_I S k j v) := ⟨fun a ha => rI_cell (fun e => ha (e ▸ h)), fun _ _ => rfl⟩
theorem frm_L {c : Nat → Prop} {S : sd_St} {k j : Nat} {v : Int64} (h : c k) : frm c S (sd_L S k j v) := ⟨fun _ _ => rfl, fun a ha => rL_cell (fun e => ha (e ▸ h))⟩
theorem frm_A {c : Nat → Prop} {S : sd_St} {k : Nat} {f : Nat → Int32} (h : c k) : frm c S (sd_A S k f) := ⟨fun a ha => rA_cell (fun e => ha (e ▸ h)), fun _ _ => rfl⟩
theorem frm_mono {c d : Nat → Prop} {S S2 : sd_St} (h : frm c S S2) (hc : ∀ a, c a → d a) : frm d S S2 := ⟨fun a ha => h.1 a (fun z => ha (hc a z)), fun a ha => h.2 a (fun z => ha (hc a z))⟩
theorem CT_fr {k : Nat} {S S2 : sd_St} {T : TW} (h : CT k S T) (hs : ∀ a, k ≤ a → a ≤ k + 10 → S2.1 a = S.1 a) : CT k S2 T := by
  unfold CT at h ⊢
  rw [hs k (by omega) (by omega), hs (k + 1) (by omega) (by omega), hs (k + 2) (by omega) (by omega), hs (k + 3) (by omega) (by omega), hs (k + 4) (by omega) (by omega), hs (k + 6) (by omega) (by omega), hs (k + 7) (by omega) (by omega), hs (k + 8) (by omega) (by omega), hs (k + 9) (by omega) (by omega), hs (k + 10) (by omega) (by omega)]
  exact h
