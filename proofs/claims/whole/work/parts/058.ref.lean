/-! THE REFERENCE'S TOWN: the row of numbers g -/
def RTg (g : Nat → Int32) (T : TW) : Prop :=
  g 0 = nI (tl T) ∧ g 1 = nI (tz T) ∧ g 2 = nI (tn T) ∧ (∀ p, p < tn T → g (3 + 4 * p) = nI (tb T p) - 1 ∧ g (3 + 4 * p + 1) = nI (tm T p) ∧ g (3 + 4 * p + 2) = nI (ti T p) ∧ g (3 + 4 * p + 3) = nI (tc T p)) ∧ g 51 = nI (ta T) ∧ (∀ i, i < ta T → g (52 + 3 * i) = nI (tw T i) ∧ g (52 + 3 * i + 1) = nI (tf T i) ∧ g (52 + 3 * i + 2) = nI (tt T i)) ∧ g 88 = nI (ts T) ∧ ∀ s, s < ts T → g (89 + 2 * s) = nI (tg T s) ∧ g (89 + 2 * s + 1) = nI (tx T s)
theorem ix4 (p : Nat) : (3 : Int32) + (4 : Int32) * nI p = nI (3 + 4 * p) := by
  rw [show (3 : Int32) = nI 3 from rfl, show (4 : Int32) = nI 4 from rfl, nI_mul, nI_add]
theorem ix3 (p : Nat) : (52 : Int32) + (3 : Int32) * nI p = nI (52 + 3 * p) := by
  rw [show (52 : Int32) = nI 52 from rfl, show (3 : Int32) = nI 3 from rfl, nI_mul, nI_add]
theorem ix2 (p : Nat) : (89 : Int32) + (2 : Int32) * nI p = nI (89 + 2 * p) := by
  rw [show (89 : Int32) = nI 89 from rfl, show (2 : Int32) = nI 2 from rfl, nI_mul, nI_add]
theorem ixa (a : Nat) : nI a + (2 : Int32) = nI (a + 2) := by rw [show (2 : Int32) = nI 2 from rfl, nI_add]
theorem ixb (a : Nat) : nI a + (3 : Int32) = nI (a + 3) := by rw [show (3 : Int32) = nI 3 from rfl, nI_add]
theorem al136 : sd_al 136 = 1020 := by decide
theorem al139 : sd_al 139 = 24 := by decide
theorem al140 : sd_al 140 = 12 := by decide
theorem al141 : sd_al 141 = 12 := by decide
/-- a place of the town's row -/
theorem ldT {β : Type} {S : sd_St} {i : Nat} {f : Int32 → Option β} (h : i < 1020) : sd_ld S 136 (nI i) f = f (S.1 136 i) := sd_ld_ok (by rw [al136]; exact h) (sd_al_lt _)
section REFB
variable {S : sd_St} {T : TW}
theorem n_people (hT : RTg (S.1 136) T) : f_X12_people S = some (nI (tn T), S) := by
  unfold f_X12_people
  rw [show (2 : Int32) = nI 2 from rfl, ldT (by decide), hT.2.2.1]
theorem n_secrets (hT : RTg (S.1 136) T) : f_X12_secrets S = some (nI (ts T), S) := by
  unfold f_X12_secrets
  rw [show (88 : Int32) = nI 88 from rfl, ldT (by decide), hT.2.2.2.2.2.2.1]
theorem n_bornOf (hT : RTg (S.1 136) T) {p : Nat} (hw : wfT T) (hp : p < tn T) : f_X12_bornOf (nI p) S = some (nI (tb T p) - 1, S) := by
  have := hw.1
  unfold f_X12_bornOf
  rw [ix4, ldT (by omega), (hT.2.2.2.1 p hp).1]
theorem n_callers (hT : RTg (S.1 136) T) {p : Nat} (hw : wfT T) (hp : p < tn T) : f_X12_callers (nI p) S = some (nI (tc T p), S) := by
  have := hw.1
  unfold f_X12_callers
  rw [ix4, ixb, ldT (by omega), (hT.2.2.2.1 p hp).2.2.2]
theorem bit1 (x : Int32) {p : Nat} (hp : p < 32) : ((x >>> (nI p &&& 31)) &&& 1) = 1 ↔ hb x p = true := by
  have h0 := hb_has x hp
  constructor
  · intro h
    cases c : hb x p with
    | true => rfl
    | false =>
      rw [h0.mpr c] at h
      exact absurd h (by decide)
  · intro h
    have hne : ¬ ((x >>> (nI p &&& 31)) &&& 1) = 0 := fun z => by rw [h0.mp z] at h; cases h
    generalize (x >>> (nI p &&& 31)) = y at hne ⊢
    apply hb_ext
    intro q hq
    have h2 : ∀ q, hb 1 q = decide (q = 0) := by
      intro q
      have h : (1 : Int32).toBitVec = BitVec.twoPow 32 0 := by decide
      unfold hb
      rw [h, BitVec.getLsbD_twoPow]
      by_cases hq : q = 0
      · subst hq; decide
      · simp [hq, Ne.symm hq]
    rw [hb_and, h2]
    by_cases c : q = 0
    · subst c
      cases c2 : hb y 0 with
      | true => rfl
      | false =>
        exfalso
        apply hne
        apply hb_ext
        intro q _
        rw [hb_and, h2, hb_0]
        by_cases c : q = 0
        · subst c; rw [c2]; rfl
        · simp [c]
    · simp [c]
theorem n_calls (hT : RTg (S.1 136) T) (hw : wfT T) {p q : Nat} (hq : q < 12) (hp : p < tn T) : f_X12_calls (nI q) (nI p) S = some (if (tc T p).testBit q then 1 else 0, S) := by
  unfold f_X12_calls
  rw [sd_cl_ok (n_callers hT hw hp)]
  cases c : (tc T p).testBit q with
  | true => rw [if_pos ((bit1 _ (by omega)).mpr (by rw [hb_nI (by omega)]; exact c))]; rfl
  | false => rw [if_neg (fun z => by rw [bit1 _ (by omega), hb_nI (by omega), c] at z; cases z)]; rfl
theorem n_isGone_l (hT : RTg (S.1 136) T) (hw : wfT T) {p t : Nat} (hp : p < 2 ^ 30) (ht : t < 4392) : ∀ (m n i : Nat) (a : Bool), i + m = ta T → m < n → a = (List.range i).any (fun i => tw T i == p && (decide (tf T i ≤ t) && decide (t ≤ tt T i))) → f_X12_isGone_l5 n (nI p) (nI t) (if a then 1 else 0) (nI i) S = some (if goneB T p t then 1 else 0, S) := by
  have h12 := hw.1
  have ha12 := hw.2.2.1
  intro m
  induction m with
  | zero =>
    intro n i a hi hn ha
    obtain ⟨n, rfl⟩ : ∃ n', n = n' + 1 := ⟨n - 1, by omega⟩
    unfold f_X12_isGone_l5
    rw [show (51 : Int32) = nI 51 from rfl, ldT (by decide), hT.2.2.2.2.1, if_pos (nI_le (by omega) (by omega))]
    have : a = goneB T p t := by rw [ha, show i = ta T by omega]; rfl
    rw [← this]
    unfold sd_ckz
    cases a <;> rfl
  | succ m ih =>
    intro n i a hi hn ha
    obtain ⟨n, rfl⟩ : ∃ n', n = n' + 1 := ⟨n - 1, by omega⟩
    have hlt : i < ta T := by omega
    obtain ⟨a1, a2, a3⟩ := hT.2.2.2.2.2.1 i hlt
    obtain ⟨b1, b2, b3⟩ := hw.2.2.2.1 i hlt
    have hgo : ∀ c : Bool, c = (a || (tw T i == p && (decide (tf T i ≤ t) && decide (t ≤ tt T i)))) → f_X12_isGone_l5 n (nI p) (nI t) (if c then 1 else 0) (nI (i + 1)) S = some (if goneB T p t then 1 else 0, S) := fun c hc => ih n (i + 1) c (by omega) (by omega) (by rw [hc, ha, goneB_succ])
    unfold f_X12_isGone_l5
    rw [show (51 : Int32) = nI 51 from rfl, ldT (by decide), hT.2.2.2.2.1, if_neg (nI_ge hlt (by omega)), ix3, sd_nm_eq]
    unfold f_X12_isGone_b71 f_X12_isGone_b67 f_X12_isGone_b72
    simp only [nI_1]
    cases a with
    | true =>
      rw [show (if true = true then (1 : Int32) else 0) = 1 from rfl, if_neg (by decide)]
      exact hgo true (by simp)
    | false =>
      rw [show (if false = true then (1 : Int32) else 0) = 0 from rfl, if_pos rfl, ldT (by omega), a1]
      by_cases c1 : tw T i = p
      · rw [if_pos (by rw [c1]), ldT (by omega), a2]
        by_cases c2 : t < tf T i
        · rw [if_pos (nI_lt c2 (by omega))]
          exact hgo false (by simp [c1, Nat.not_le.mpr c2])
        · rw [if_neg (nI_nlt (by omega) (by omega)), ixa, ldT (by omega), a3]
          by_cases c3 : tt T i < t
          · rw [if_pos (nI_lt c3 (by omega))]
            exact hgo false (by simp [c1, Nat.not_le.mpr c3])
          · rw [if_neg (nI_nlt (by omega) (by omega))]
            refine hgo true ?_
            have e1 : tf T i ≤ t := by omega
            have e2 : t ≤ tt T i := by omega
            simp [c1, e1, e2]
      · rw [if_neg (fun z => c1 (nI_inj (by omega) (by omega) z))]
        exact hgo false (by simp [c1])
theorem n_isGone (hT : RTg (S.1 136) T) (hw : wfT T) {p t : Nat} (hp : p < 2 ^ 30) (ht : t < 4392) : f_X12_isGone (nI p) (nI t) S = some (if goneB T p t then 1 else 0, S) := by
  have := hw.2.2.1
  exact n_isGone_l hT hw hp ht (ta T) sd_FU 0 false (by omega) (by unfold sd_FU; omega) rfl
theorem n_isDate {t : Nat} (ht : t < 4392) : f_X12_isDate (nI t) S = some (1, S) := by
  unfold f_X12_isDate
  rw [if_neg (nI_pos (by omega)), if_neg (show ¬ (4392 : Int32) ≤ nI t from nI_ge (b := 4392) (by omega) (by decide))]
theorem n_isThere (hT : RTg (S.1 136) T) (hw : wfT T) {t : Nat} (ht : t < 4392) : f_X12_isThere (nI t) S = some (if thereB T t then 1 else 0, S) := by
  have hl := hw.2.2.2.2.2.2.1
  unfold f_X12_isThere thereB
  rw [sd_cl_ok (n_isDate ht), if_neg (by decide), show (366 : Int32) = nI 366 from rfl, nI_rem (by omega) (by decide) (by decide)]
  by_cases c : t % 366 = 59
  · rw [if_pos (show nI (t % 366) = (59 : Int32) by rw [c]; rfl), show (0 : Int32) = nI 0 from rfl, ldT (by decide), hT.1, nI_div (by omega) (by decide) (by decide), show (4 : Int32) = nI 4 from rfl, nI_rem (by omega) (by decide) (by decide)]
    by_cases c2 : t / 366 % 4 = tl T
    · rw [if_pos (by rw [c2])]
      simp [ht, c, c2]
    · rw [if_neg (fun z => c2 (nI_inj (by omega) (by omega) z))]
      simp [c, c2]
  · rw [if_neg (show ¬ nI (t % 366) = (59 : Int32) from fun z => c (nI_inj (b := 59) (by omega) (by decide) z))]
    simp [ht, c]
theorem n_isDayOf (hT : RTg (S.1 136) T) (hw : wfT T) {p d : Nat} (hp : p < tn T) (hd : d < 366) : f_X12_isDayOf (nI p) (nI d) S = some (if feastB T p d then 1 else 0, S) := by
  have h12 := hw.1
  obtain ⟨b1, b2, -⟩ := hw.2.1 p hp
  have hz := hw.2.2.2.2.2.2.2
  unfold f_X12_isDayOf feastB
  rw [sd_cl_ok (n_bornOf hT hw hp)]
  by_cases c : tb T p = d + 1
  · rw [if_pos ((nI_sub1 (by omega) (by omega)).mpr c)]
    simp [c]
  · rw [if_neg (fun h => c ((nI_sub1 (by omega) (by omega)).mp h)), show sd_ld S 136 (1 : Int32) = sd_ld (β := Int32 × sd_St) S 136 (nI 1) from rfl, ldT (by decide), hT.2.1]
    by_cases c2 : tz T = 1
    · rw [if_pos (by rw [c2]; rfl), ix4, nI_1, ldT (by omega), (hT.2.2.2.1 p hp).2.1, nI_1]
      by_cases c3 : tm T p = d + 1
      · rw [if_pos (by rw [c3])]
        simp [c2, c3]
      · rw [if_neg (fun z => c3 (nI_inj (by omega) (by omega) z))]
        simp [c, c2, c3]
    · rw [if_neg (show ¬ nI (tz T) = (1 : Int32) from fun z => c2 (nI_inj (b := 1) (by omega) (by decide) z))]
      simp [c, c2]
theorem n_isFree (hT : RTg (S.1 136) T) (hw : wfT T) {p t : Nat} (hp : p < tn T) (ht : t < 4392) : f_X12_isFree (nI p) (nI t) S = some (if freeB T p t then 1 else 0, S) := by
  have h12 := hw.1
  unfold f_X12_isFree freeB
  rw [sd_cl_ok (n_isThere hT hw ht)]
  cases c1 : thereB T t with
  | false => rfl
  | true =>
    rw [if_neg (by decide), show (366 : Int32) = nI 366 from rfl, nI_rem (by omega) (by decide) (by decide), sd_cl_ok (n_isDayOf hT hw hp (by omega))]
    cases c2 : feastB T p (t % 366) with
    | false => rfl
    | true =>
      rw [if_neg (by decide), sd_cl_ok (n_isGone hT hw (by omega) ht)]
      cases c3 : goneB T p t <;> rfl
/-- when each has it, in the reference's row -/
def HR (S : sd_St) (T : TW) (h : Nat → Nat) : Prop := ∀ p, p < tn T → S.1 140 p = nI (h p)
theorem n_tells (hT : RTg (S.1 136) T) (hw : wfT T) {h : Nat → Nat} (hH : HR S T h) (hv : ∀ q, h q = FARN ∨ h q < 4392) {e b t : Nat} (he : e < tn T) (hb : b < tn T) (ht : t < 4392) : f_X12_tells (nI e) (nI b) (nI t) S = some (if tellsB b h e t && freeB T e t then 1 else 0, S) := by
  have h12 := hw.1
  have hb28 : f_X12_tells_b28 (nI e) (nI t) S = some (if freeB T e t then 1 else 0, S) := by
    unfold f_X12_tells_b28
    rw [sd_cl_ok (n_isFree hT hw he ht)]
    cases freeB T e t <;> rfl
  have hhe : h e < 2 ^ 30 := by
    rcases hv e with g | g
    · rw [g]; decide
    · omega
  unfold f_X12_tells tellsB
  rw [sd_ld_ok (by rw [al140]; omega) (sd_al_lt _), sd_ld_ok (by rw [al140]; omega) (sd_al_lt _), hH e he]
  by_cases c : e = b
  · rw [if_pos (by rw [c]), if_pos c]
    by_cases c2 : t < h e
    · rw [if_pos (nI_lt c2 (by omega))]
      simp [Nat.not_le.mpr c2]
    · rw [if_neg (nI_nlt (by omega) (by omega)), hb28]
      simp [Nat.not_lt.mp c2]
  · rw [if_neg (fun z => c (nI_inj (by omega) (by omega) z)), if_neg c]
    by_cases c2 : t ≤ h e
    · rw [if_pos (nI_le c2 (by omega))]
      simp [Nat.not_lt.mpr c2]
    · rw [if_neg (nI_ge (by omega) (by omega)), hb28]
      simp [Nat.not_le.mp c2]
end REFB
