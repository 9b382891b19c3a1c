/-! LETTING IN: the reference's table, and both answers -/
theorem fst_far {P : Nat → Bool} {l : Nat} (hl : l ≤ 4392) : fstD P l ≤ FARN := by
  rcases fstD_le (P := P) hl with ⟨g1, -⟩ | ⟨g1, -, -⟩
  · omega
  · unfold FARN; omega
theorem fst_no {P : Nat → Bool} {l : Nat} (hl : l ≤ 4392) (h : ∀ t, t < l → P t = false) : fstD P l = FARN := by
  rcases fstD_le (P := P) hl with ⟨g1, -⟩ | ⟨g1, g2, -⟩
  · exact g1
  · rw [h _ g1] at g2; cases g2
theorem fst_v {P : Nat → Bool} {l : Nat} (hl : l ≤ 4392) : fstD P l = FARN ∨ fstD P l < 4392 := by
  rcases fstD_le (P := P) hl with ⟨g1, -⟩ | ⟨g1, -, -⟩
  · exact Or.inl g1
  · right; omega
theorem min_v {n : Nat} {v : Nat → Nat} (h : ∀ q, v q = FARN ∨ v q < 4392) : minF n v = FARN ∨ minF n v < 4392 := by
  induction n with
  | zero => exact Or.inl rfl
  | succ n ih =>
    rw [minF_succ]
    rcases ih with g | g <;> rcases h n with k | k <;> unfold FARN at * <;> omega
theorem nI_mnw {a b : Nat} (ha : a < 2 ^ 31) (hb : b < 2 ^ 31) : (if nI a ≤ nI b then nI a else nI b) = nI (min a b) := by
  by_cases c : a ≤ b
  · rw [if_pos (nI_le c hb), Nat.min_eq_left c]
  · rw [if_neg (nI_ge (by omega) ha), Nat.min_eq_right (by omega)]
def tabE (T : TW) (b D : Nat) (low : Nat → Nat) (E : Nat → Nat → Nat) : Prop := (∀ k q, E k q = FARN ∨ E k q < 4392) ∧ ∀ k p, E (k + 1) p = minF (tn T) (fun q => fstD (fun t => letB T b low (E k q) q p t) (D + 1))
theorem n_let218 {S : sd_St} {T : TW} (hw : wfT T) (hT : RTg (S.1 136) T) {b D k p lo : Nat} {low : Nat → Nat} {E : Nat → Nat} (hb : b < tn T) (hD : D < 4392) (hk : k + 1 < 12) (hp : p < tn T) (hlo : lo < 4392) (hlow : low p = lo) (hE : ∀ q, q < tn T → S.1 142 (12 * k + q) = nI (E q)) (hv : ∀ q, E q = FARN ∨ E q < 4392) {q138 : Int32 → Int32 → Int32 → Int32 → Int32 → Int32 → sd_St → Option (Int32 × sd_St)} {q173 : Int32 → Int32 → Int32 → Int32 → Int32 → Int32 → Int32 → sd_St → Option (Int32 × sd_St)} {x2 x4 x5 : Int32} : ∀ (m n q : Nat), q + m = tn T → m < n → f_X12_letIn_l218 q138 q173 n x2 (nI D) x4 x5 (nI b) (nI k) (nI p) (nI (minF q (fun q => fstD (fun t => letB T b low (E q) q p t) (D + 1)))) (nI lo) (nI q) S = q173 x2 (nI D) x4 x5 (nI b) (nI k) (nI (p + 1)) (sd_I S 142 (12 * (k + 1) + p) (nI (minF (tn T) (fun q => fstD (fun t => letB T b low (E q) q p t) (D + 1))))) := by
  have h12 := hw.1
  intro m
  induction m with
  | zero =>
    intro n q hq hn
    obtain ⟨n, rfl⟩ : ∃ n', n = n' + 1 := ⟨n - 1, by omega⟩
    unfold f_X12_letIn_l218
    rw [sd_cl_ok (n_people hT), if_pos (nI_le (by omega) (by omega)), nI_1, ix12, sd_st_ok (by rw [al142]; omega) (sd_al_lt _), nI_1, show q = tn T by omega]
  | succ m ih =>
    intro n q hq hn
    obtain ⟨n, rfl⟩ : ∃ n', n = n' + 1 := ⟨n - 1, by omega⟩
    have hqn : q < tn T := by omega
    have ih := ih n (q + 1) (by omega) (by omega)
    rw [minF_succ] at ih
    have hmf := minF_far (v := fun q => fstD (fun t => letB T b low (E q) q p t) (D + 1)) q
    have hno : (∀ t, letB T b low (E q) q p t = false) → f_X12_letIn_b263 q138 q173 (f_X12_letIn_l218 q138 q173 n) x2 (nI D) x4 x5 (nI b) (nI k) (nI p) (nI (minF q (fun q => fstD (fun t => letB T b low (E q) q p t) (D + 1)))) (nI lo) (nI q) S = q173 x2 (nI D) x4 x5 (nI b) (nI k) (nI (p + 1)) (sd_I S 142 (12 * (k + 1) + p) (nI (minF (tn T) (fun q => fstD (fun t => letB T b low (E q) q p t) (D + 1))))) := by
      intro hz
      rw [fst_no (P := fun t => letB T b low (E q) q p t) (by omega) (fun t _ => hz t), Nat.min_eq_left hmf] at ih
      unfold f_X12_letIn_b263 f_X12_letIn_b266 f_X12_letIn_b282
      rw [if_pos (show nI _ ≤ (1000000 : Int32) from nI_le (b := FARN) hmf (by decide)), nI_1]
      exact ih
    unfold f_X12_letIn_l218
    rw [sd_cl_ok (n_people hT), if_neg (nI_ge hqn (by omega))]
    by_cases c : p = b
    · rw [if_pos (by rw [c])]
      refine hno (fun t => ?_)
      unfold letB
      rw [c]; simp
    · rw [if_neg (fun z => c (nI_inj (by omega) (by omega) z)), sd_cl_ok (n_calls hT hw (by omega) hqn)]
      by_cases c2 : (tc T q).testBit p = true
      · rw [c2, if_neg (by decide), sd_cl_ok (n_earliest hw hT hqn hp hb (hv q) hD (by omega) hlo (hE q hqn))]
        have hfn : (fun t => decide (lo ≤ t) && ePr T b (E q) q p t) = fun t => letB T b low (E q) q p t := by
          funext t
          unfold letB ePr guestB
          rw [c2, hlow]
          have : (p == b) = false := by simpa using c
          rw [this]
          simp
        rw [hfn]
        have hff := fst_far (P := fun t => letB T b low (E q) q p t) (show D + 1 ≤ 4392 by omega)
        unfold f_X12_letIn_b266 f_X12_letIn_b282
        rw [nI_1]
        rw [← nI_mnw (show _ < 2 ^ 31 by unfold FARN at hmf; omega) (show _ < 2 ^ 31 by unfold FARN at hff; omega)] at ih
        split at ih
        · rename_i h1
          rw [if_pos h1]
          exact ih
        · rename_i h1
          rw [if_neg h1]
          exact ih
      · have c3 : (tc T q).testBit p = false := by simpa using c2
        rw [c3, if_pos (by decide)]
        refine hno (fun t => ?_)
        unfold letB guestB
        rw [c3]; simp
theorem n_let173 {T : TW} (hw : wfT T) {b D k U : Nat} {F : Int32} {E : Nat → Nat → Nat} (hbn : b < tn T) (hD : D < 4392) (hU : U < 4392) (hk : k + 1 < 12) (hE : tabE T b D (lowF F U) E) {q138 : Int32 → Int32 → Int32 → Int32 → Int32 → Int32 → sd_St → Option (Int32 × sd_St)} {x2 : Int32} : ∀ (m n p : Nat) (S : sd_St), p + m = tn T → m < n → RTg (S.1 136) T → (∀ j q, j ≤ k → q < tn T → S.1 142 (12 * j + q) = nI (E j q)) → (∀ q, q < p → S.1 142 (12 * (k + 1) + q) = nI (E (k + 1) q)) → ∃ S2, f_X12_letIn_l173 q138 n x2 (nI D) F (nI U) (nI b) (nI k) (nI p) S = q138 x2 (nI D) F (nI U) (nI b) (nI (k + 1)) S2 ∧ (∀ j q, j ≤ k + 1 → q < tn T → S2.1 142 (12 * j + q) = nI (E j q)) ∧ frm (fun a => a = 142) S S2 := by
  have h12 := hw.1
  intro m
  induction m with
  | zero =>
    intro n p S hp hn hT h1 h2
    obtain ⟨n, rfl⟩ : ∃ n', n = n' + 1 := ⟨n - 1, by omega⟩
    refine ⟨S, ?_, fun j q hj hq => ?_, frm_rfl⟩
    · unfold f_X12_letIn_l173 f_X12_letIn_b313
      rw [sd_cl_ok (n_people hT), if_pos (nI_le (by omega) (by omega)), nI_1]
    · by_cases c : j = k + 1
      · subst c; exact h2 q (by omega)
      · exact h1 j q (by omega) hq
  | succ m ih =>
    intro n p S hp hn hT h1 h2
    obtain ⟨n, rfl⟩ : ∃ n', n = n' + 1 := ⟨n - 1, by omega⟩
    have hpn : p < tn T := by omega
    have key : ∀ lo, lo < 4392 → lowF F U p = lo → ∃ S2, f_X12_letIn_b213 q138 (f_X12_letIn_l173 q138 n) x2 (nI D) F (nI U) (nI b) (nI k) (nI p) (1000000 : Int32) (nI lo) S = q138 x2 (nI D) F (nI U) (nI b) (nI (k + 1)) S2 ∧ (∀ j q, j ≤ k + 1 → q < tn T → S2.1 142 (12 * j + q) = nI (E j q)) ∧ frm (fun a => a = 142) S S2 := by
      intro lo hlo hlow
      have e := n_let218 (q138 := q138) (q173 := f_X12_letIn_l173 q138 n) (x2 := x2) (x4 := F) (x5 := nI U) hw hT hbn hD hk hpn hlo hlow (h1 k · (Nat.le_refl k)) (hE.1 k) (tn T) sd_FU 0 (by omega) (by unfold sd_FU; omega)
      rw [← hE.2 k p] at e
      obtain ⟨S2, g1, g2, g3⟩ := ih n (p + 1) (sd_I S 142 (12 * (k + 1) + p) (nI (E (k + 1) p))) (by omega) (by omega) (by rw [rI_cell (by decide)]; exact hT) (fun j q hj hq => by rw [rI_oth (by omega)]; exact h1 j q hj hq) (fun q hq => by
        by_cases c : q = p
        · subst c; rw [rI_same]
        · rw [rI_oth (by omega)]; exact h2 q (by omega))
      refine ⟨S2, ?_, g2, frm_trans (frm_I (c := fun a => a = 142) rfl) g3 (fun _ h => h) (fun _ h => h)⟩
      unfold f_X12_letIn_b213
      rw [show (1000000 : Int32) = nI (minF 0 (fun q => fstD (fun t => letB T b (lowF F U) (E k q) q p t) (D + 1))) from rfl, show (0 : Int32) = nI 0 from rfl, e]
      exact g1
    unfold f_X12_letIn_l173
    rw [sd_cl_ok (n_people hT), if_neg (nI_ge hpn (by omega)), nI_1, if_neg (show ¬ (12 : Int32) ≤ nI (k + 1) from nI_ge (b := 12) hk (by decide))]
    by_cases c : hb F p = true
    · rw [if_pos ((bit1 F (by omega)).mpr c)]
      exact key U hU (by unfold lowF; rw [c]; rfl)
    · rw [if_neg (fun z => c ((bit1 F (by omega)).mp z))]
      exact key 0 (by decide) (by unfold lowF; rw [if_neg c])
theorem n_let138 {T : TW} (hw : wfT T) {b D U p : Nat} {F : Int32} {E : Nat → Nat → Nat} (hb : b < tn T) (hD : D < 4392) (hU : U < 4392) (hp : p < tn T) (hE : tabE T b D (lowF F U) E) : ∀ (m n k : Nat) (S : sd_St), k + m = tn T → m < n → RTg (S.1 136) T → (∀ j q, j ≤ k → j < 12 → q < tn T → S.1 142 (12 * j + q) = nI (E j q)) → (∀ j, j < k → E j p = FARN) → ∃ S2 v, f_X12_letIn_l138 n (nI p) (nI D) F (nI U) (nI b) (nI k) S = some (v, S2) ∧ frm (fun a => a = 142) S S2 ∧ ((∃ j, j < tn T ∧ E j p < FARN ∧ (∀ i, i < j → E i p = FARN) ∧ v = nI (j + 1)) ∨ ((∀ j, j < tn T → E j p = FARN) ∧ v = -1)) := by
  have h12 := hw.1
  intro m
  induction m with
  | zero =>
    intro n k S hk hn hT h1 h2
    obtain ⟨n, rfl⟩ : ∃ n', n = n' + 1 := ⟨n - 1, by omega⟩
    refine ⟨S, -1, ?_, frm_rfl, Or.inr ⟨fun j hj => h2 j (by omega), rfl⟩⟩
    unfold f_X12_letIn_l138
    rw [sd_cl_ok (n_people hT), if_pos (nI_le (by omega) (by omega))]
  | succ m ih =>
    intro n k S hk hn hT h1 h2
    obtain ⟨n, rfl⟩ : ∃ n', n = n' + 1 := ⟨n - 1, by omega⟩
    have hv := hE.1 k p
    unfold f_X12_letIn_l138
    rw [sd_cl_ok (n_people hT), if_neg (nI_ge (by omega) (by omega)), ix12, sd_ld_ok (by rw [al142]; omega) (sd_al_lt _), h1 k p (Nat.le_refl k) (by omega) hp]
    by_cases c : E k p = FARN
    · rw [if_pos (show (1000000 : Int32) ≤ nI (E k p) by rw [c]; exact nI_le (a := FARN) (Nat.le_refl _) (by decide))]
      have h2' : ∀ j, j < k + 1 → E j p = FARN := fun j hj => by
        by_cases cj : j = k
        · rw [cj]; exact c
        · exact h2 j (by omega)
      by_cases ck : k + 1 < 12
      · obtain ⟨S2, g1, g2, g3⟩ := n_let173 (q138 := f_X12_letIn_l138 n) (x2 := nI p) hw hb hD hU ck hE (tn T) sd_FU 0 S (by omega) (by unfold sd_FU; omega) hT (fun j q hj hq => h1 j q hj (by omega) hq) (fun q hq => absurd hq (Nat.not_lt_zero q))
        obtain ⟨S3, v, e1, e2, e3⟩ := ih n (k + 1) S2 (by omega) (by omega) (by rw [g3.1 136 (by decide)]; exact hT) (fun j q hj _ hq => g2 j q hj hq) h2'
        refine ⟨S3, v, ?_, frm_trans g3 e2 (fun _ h => h) (fun _ h => h), e3⟩
        rw [show (0 : Int32) = nI 0 from rfl, g1]
        exact e1
      · obtain ⟨S3, v, e1, e2, e3⟩ := ih n (k + 1) S (by omega) (by omega) hT (fun j q hj hj2 hq => h1 j q (by omega) hj2 hq) h2'
        refine ⟨S3, v, ?_, e2, e3⟩
        show f_X12_letIn_l173 (f_X12_letIn_l138 n) (19999 + 1) _ _ _ _ _ _ _ _ = _
        unfold f_X12_letIn_l173 f_X12_letIn_b313
        rw [sd_cl_ok (n_people hT), if_neg (show ¬ nI (tn T) ≤ (0 : Int32) from nI_ge (a := 0) (by omega) (by omega)), nI_1, if_pos (show (12 : Int32) ≤ nI (k + 1) from nI_le (a := 12) (by omega) (by omega))]
        exact e1
    · have hlt : E k p < FARN := by
        rcases hv with g | g
        · exact absurd g c
        · unfold FARN; omega
      refine ⟨S, nI (k + 1), ?_, frm_rfl, Or.inl ⟨k, by omega, hlt, h2, rfl⟩⟩
      rw [if_neg (show ¬ (1000000 : Int32) ≤ nI (E k p) from nI_ge (b := FARN) hlt (by decide)), nI_1]
theorem n_beginner {S : sd_St} {T : TW} (hT : RTg (S.1 136) T) (hw : wfT T) {s : Nat} (hs : s < ts T) : f_X12_beginner (nI s) S = some (nI (tg T s), S) := by
  have h4 := hw.2.2.2.2.1
  unfold f_X12_beginner
  rw [ix2, ldT (by omega), (hT.2.2.2.2.2.2.2 s hs).1]
/-- the first row -/
theorem n_let81 {T : TW} (hw : wfT T) {s p D U : Nat} {F : Int32} (hs : s < ts T) (hp : p < tn T) (hD : D < 4392) (hU : U < 4392) {late : Bool} : ∀ (m n q : Nat) (S : sd_St), q + m = tn T → m < n → RTg (S.1 136) T → (∀ j, j < q → S.1 142 j = nI (if j = tg T s ∧ late = false ∧ tx T s ≤ D then tx T s else FARN)) → ∃ S2, f_X12_letIn_l81 n (nI s) (nI p) (nI D) F (nI U) (nI (tg T s)) (bI late) (nI q) S = f_X12_letIn_l138 sd_FU (nI p) (nI D) F (nI U) (nI (tg T s)) (0 : Int32) S2 ∧ (∀ j, j < tn T → S2.1 142 j = nI (if j = tg T s ∧ late = false ∧ tx T s ≤ D then tx T s else FARN)) ∧ frm (fun a => a = 142) S S2 := by
  have h12 := hw.1
  obtain ⟨w1, w2⟩ := hw.2.2.2.2.2.1 s hs
  intro m
  induction m with
  | zero =>
    intro n q S hq hn hT h1
    obtain ⟨n, rfl⟩ : ∃ n', n = n' + 1 := ⟨n - 1, by omega⟩
    refine ⟨S, ?_, fun j hj => h1 j (by omega), frm_rfl⟩
    unfold f_X12_letIn_l81
    rw [sd_cl_ok (n_people hT), if_pos (nI_le (by omega) (by omega))]
  | succ m ih =>
    intro n q S hq hn hT h1
    obtain ⟨n, rfl⟩ : ∃ n', n = n' + 1 := ⟨n - 1, by omega⟩
    have hqn : q < tn T := by omega
    have key : ∀ w : Nat, w = (if q = tg T s ∧ late = false ∧ tx T s ≤ D then tx T s else FARN) → ∃ S2, f_X12_letIn_b128 (f_X12_letIn_l81 n) (nI s) (nI p) (nI D) F (nI U) (nI (tg T s)) (bI late) (nI q) (nI q) (nI w) S = f_X12_letIn_l138 sd_FU (nI p) (nI D) F (nI U) (nI (tg T s)) (0 : Int32) S2 ∧ (∀ j, j < tn T → S2.1 142 j = nI (if j = tg T s ∧ late = false ∧ tx T s ≤ D then tx T s else FARN)) ∧ frm (fun a => a = 142) S S2 := by
      intro w hwv
      obtain ⟨S2, g1, g2, g3⟩ := ih n (q + 1) (sd_I S 142 q (nI w)) (by omega) (by omega) (by rw [rI_cell (by decide)]; exact hT) (fun j hj => by
        by_cases c : j = q
        · subst c; rw [rI_same, hwv]
        · rw [rI_oth c]; exact h1 j (by omega))
      refine ⟨S2, ?_, g2, frm_trans (frm_I (c := fun a => a = 142) rfl) g3 (fun _ h => h) (fun _ h => h)⟩
      unfold f_X12_letIn_b128
      rw [sd_st_ok (by rw [al142]; omega) (sd_al_lt _), nI_1]
      exact g1
    unfold f_X12_letIn_l81 f_X12_letIn_b125
    rw [sd_cl_ok (n_people hT), if_neg (nI_ge hqn (by omega))]
    by_cases c : q = tg T s
    · rw [if_pos (by rw [c])]
      cases late with
      | false =>
        rw [if_pos (by decide), sd_cl_ok (n_fromOf hw hT hs)]
        by_cases c2 : tx T s ≤ D
        · rw [if_neg (nI_nlt c2 (by omega)), sd_cl_ok (n_fromOf hw hT hs)]
          exact key _ (by rw [if_pos ⟨c, rfl, c2⟩])
        · rw [if_pos (nI_lt (by omega) (by omega))]
          exact key FARN (by rw [if_neg (fun z => c2 z.2.2)])
      | true =>
        rw [if_neg (by decide)]
        exact key FARN (by rw [if_neg (fun z => by cases z.2.1)])
    · rw [if_neg (fun z => c (nI_inj (by omega) (by omega) z))]
      exact key FARN (by rw [if_neg (fun z => c z.1)])
theorem tab_Ek {T : TW} {b f D : Nat} {low : Nat → Nat} (hf : f < 4392) (hD : D < 4392) : tabE T b D low (Ek T b f D low) := by
  refine ⟨fun k => ?_, fun k p => Ek_s T b f D low k p⟩
  cases k with
  | zero =>
    intro q
    unfold Ek
    by_cases c : q = b
    · rw [if_pos c]; exact Or.inr hf
    · rw [if_neg c]; exact Or.inl rfl
  | succ k =>
    intro q
    rw [Ek_s]
    exact min_v (fun q => fst_v (by omega))
theorem tab_far {T : TW} {b D : Nat} {low : Nat → Nat} (hD : D < 4392) : tabE T b D low (fun _ _ => FARN) := by
  refine ⟨fun _ _ => Or.inl rfl, fun k p => ?_⟩
  have : ∀ q, fstD (fun t => letB T b low FARN q p t) (D + 1) = FARN := fun q => fst_no (by omega) (fun t ht => by
    cases c : letB T b low FARN q p t with
    | false => rfl
    | true =>
      have := (let_h c).1
      unfold FARN at this
      omega)
  show FARN = minF (tn T) (fun q => fstD (fun t => letB T b low FARN q p t) (D + 1))
  generalize tn T = n
  induction n with
  | zero => rfl
  | succ n ih => rw [minF_succ, ← ih, this, Nat.min_self]
theorem gS_far {T : TW} {b f : Nat} {low : Nat → Nat} : ∀ l p, gS T b f low l p ≤ FARN := by
  intro l
  induction l with
  | zero =>
    intro p
    unfold gS
    by_cases c : p = b
    · rw [if_pos c]; decide
    · rw [if_neg c]; exact Nat.le_refl _
  | succ l ih =>
    intro p
    rw [gS_s]
    by_cases c : f ≤ l
    · rw [if_pos c]
      unfold gD
      exact Nat.le_trans (Nat.min_le_left _ _) (ih p)
    · rw [if_neg c]; exact ih p
/-- a set of persons -/
def setOK (n : Nat) (x : Int32) : Bool := decide (0 ≤ x.toInt ∧ x.toInt < (2 ^ n : Nat))
theorem shl_nI {n : Nat} (h : n ≤ 12) : (1 : Int32) <<< (nI n &&& 31) = nI (2 ^ n) := by
  have : ∀ n : Fin 13, (1 : Int32) <<< (nI n.val &&& 31) = nI (2 ^ n.val) := by decide +kernel
  exact this ⟨n, by omega⟩
theorem p2_le {n : Nat} (h : n ≤ 12) : 2 ^ n ≤ 4096 := by
  have := Nat.pow_le_pow_right (show 0 < 2 by decide) h
  exact this
theorem m_isSet {S : sd_St} {T : TW} (hT : CT 17 S T) (hw : wfT T) (x : Int32) : f_X11_isSet x S = some (bI (setOK (tn T) x), S) := by
  have h12 := hw.1
  have h2 := p2_le h12
  have h3 : 0 < 2 ^ tn T := Nat.two_pow_pos _
  have hev : f_X8_everyone 17 S = some (nI (2 ^ tn T - 1), S) := by
    unfold f_X8_everyone
    rw [hT.1, shl_nI h12, nI_s1 h3]
  unfold f_X11_isSet setOK bI
  rw [sd_cl_ok hev]
  generalize 2 ^ tn T = N at h2 h3
  by_cases c : x < 0
  · rw [if_pos c]
    have : x.toInt < 0 := by simpa [Int32.lt_iff_toInt_lt] using c
    rw [if_neg (by simp; omega)]
  · rw [if_neg c]
    have c' : ¬ x.toInt < 0 := by simpa [Int32.lt_iff_toInt_lt] using c
    by_cases c2 : nI (N - 1) < x
    · rw [if_pos c2]
      rw [Int32.lt_iff_toInt_lt, nI_toInt (by omega)] at c2
      rw [if_neg (by simp; omega)]
    · rw [if_neg c2]
      rw [Int32.lt_iff_toInt_lt, nI_toInt (by omega)] at c2
      rw [if_pos (by simp; omega)]
theorem n_isSet {S : sd_St} {n : Nat} (h12 : n ≤ 12) (x : Int32) : f_X12_isSet x (nI n) S = some (bI (setOK n x), S) := by
  have h2 := p2_le h12
  have h3 : 0 < 2 ^ n := Nat.two_pow_pos _
  unfold f_X12_isSet setOK bI
  rw [shl_nI h12]
  generalize 2 ^ n = N at h2 h3
  by_cases c : x < 0
  · rw [if_pos c]
    have : x.toInt < 0 := by simpa [Int32.lt_iff_toInt_lt] using c
    rw [if_neg (by simp; omega)]
  · rw [if_neg c]
    have c' : ¬ x.toInt < 0 := by simpa [Int32.lt_iff_toInt_lt] using c
    by_cases c2 : nI N ≤ x
    · rw [if_pos c2]
      rw [Int32.le_iff_toInt_le, nI_toInt (by omega)] at c2
      rw [if_neg (by simp; omega)]
    · rw [if_neg c2]
      rw [Int32.le_iff_toInt_le, nI_toInt (by omega)] at c2
      rw [if_pos (by simp; omega)]
/-- the answer -/
def letV (T : TW) (s p D U : Nat) (F : Int32) : Int32 := if D < tx T s ∨ (hb F (tg T s) = true ∧ tx T s < U) then -1 else fewI (gS T (tg T s) (tx T s) (lowF F U) (D + 1) p)
theorem m_letIn {S : sd_St} {σ : Sg} (hw : WF σ) (h : IC S σ) {s p D U : Nat} {F : Int32} (hs : s < ts σ.1) (hp : p < tn σ.1) (hD : D < 4392) (hU : U < 4392) (hF : setOK (tn σ.1) F = true) : ∃ S1, f_X11_letIn (nI s) (nI p) (nI D) F (nI U) S = some (letV σ.1 s p D U F, S1) ∧ IC S1 σ ∧ frm loC S S1 := by
  have hw1 := hw.1
  have h12 := hw1.1
  have h4 := hw1.2.2.2.2.1
  obtain ⟨w1, w2⟩ := hw1.2.2.2.2.2.1 s hs
  obtain ⟨S1, e1, e2, e3, e4⟩ := IC_up hw h
  have hT1 := IC_T e3
  obtain ⟨-, -, -, -, -, hTs, -⟩ := hT1
  obtain ⟨b1, b2⟩ := hTs s hs
  have hpre : ∀ R, (if nI D < nI (tx σ.1 s) then (some ((-1 : Int32), S1)) else sd_cl (f_X11_has F (nI (tg σ.1 s)) S1) (fun r_26 S_25 => (if r_26 = 0 then f_X11_letIn_b95 (nI p) (nI D) F (nI U) (nI (tg σ.1 s)) (nI (tx σ.1 s)) S_25 else (if nI U ≤ nI (tx σ.1 s) then f_X11_letIn_b95 (nI p) (nI D) F (nI U) (nI (tg σ.1 s)) (nI (tx σ.1 s)) S_25 else (some ((-1 : Int32), S_25)))))) = R → f_X11_letIn (nI s) (nI p) (nI D) F (nI U) S = R := by
    intro R hR
    unfold f_X11_letIn
    rw [sd_cl_ok (m_isSecret (IC_T h) hw1 hs), if_neg (by decide), sd_cl_ok (m_isPerson (IC_T h) hw1 hp), if_neg (by decide), sd_cl_ok (m_isDate hD), if_neg (by decide), sd_cl_ok (m_isSet (IC_T h) hw1 F), hF, if_neg (by decide), sd_cl_ok (m_isDate hU), if_neg (by decide), sd_cl_ok e1, sd_ld_ok (show s < sd_al 26 by rw [show sd_al 26 = 4 from by decide]; omega) (sd_al_lt _), sd_ld_ok (show s < sd_al 27 by rw [show sd_al 27 = 4 from by decide]; omega) (sd_al_lt _), b1, b2]
    exact hR
  have hrun : ∃ S2, f_X11_letIn_b95 (nI p) (nI D) F (nI U) (nI (tg σ.1 s)) (nI (tx σ.1 s)) S1 = some (fewI (gS σ.1 (tg σ.1 s) (tx σ.1 s) (lowF F U) (D + 1) p), S2) ∧ IC S2 σ ∧ frm loC S S2 := by
    obtain ⟨S0, hS0⟩ : ∃ S0, S0 = sd_I (sd_I S1 59 0 F) 59 1 (nI U) := ⟨_, rfl⟩
    have f0 : frm (fun a => a = 59) S1 S0 := by rw [hS0]; exact frm_trans (frm_I (c := fun a => a = 59) rfl) (frm_I (c := fun a => a = 59) rfl) (fun _ h => h) (fun _ h => h)
    have g0 : S0.1 59 0 = F := by rw [hS0, rI_oth (by decide), rI_same]
    have g1 : S0.1 59 1 = nI U := by rw [hS0, rI_same]
    have hU0 : UP S0 σ.1 := UP_fr hw1 e2 (by rw [f0.1 0 (by decide)]) (fun a q1 q2 => f0.1 a (by omega))
    obtain ⟨S2, k1, k2⟩ := m_fewest (p := p) hw1 hU0.2.1 w1 w2 hD (by omega) hU g0 g1 gS_far
    have f1 : frm (fun a => 59 ≤ a ∧ a ≤ 61) S1 S2 := frm_trans f0 k2 (fun a h => by omega) (fun a h => by omega)
    refine ⟨S2, ?_, IC_fr e3 (fun a ha => f1.1 a (by unfold keepC at ha; omega)) (Or.inr (UP_fr hw1 e2 (by rw [f1.1 0 (by decide)]) (fun a q1 q2 => f1.1 a (by omega)))), frm_trans e4 f1 (fun _ h => h) (fun a h => by unfold loC; omega)⟩
    unfold f_X11_letIn_b95 f_X2_forbid
    rw [sd_nm_eq, sd_nm_eq, ← hS0, sd_cl_ok rfl, sd_cl_ok k1]
  obtain ⟨S2, r1, r2, r3⟩ := hrun
  by_cases c1 : D < tx σ.1 s
  · refine ⟨S1, hpre _ ?_, e3, e4⟩
    rw [if_pos (nI_lt c1 (by omega))]
    unfold letV
    rw [if_pos (Or.inl c1)]
  · by_cases c2 : hb F (tg σ.1 s) = true
    · by_cases c3 : tx σ.1 s < U
      · refine ⟨S1, hpre _ ?_, e3, e4⟩
        rw [if_neg (nI_nlt (by omega) (by omega)), sd_cl_ok (m_has F (by omega) S1), c2]
        rw [if_neg (by decide), if_neg (nI_ge c3 (by omega))]
        unfold letV
        rw [if_pos (Or.inr ⟨c2, c3⟩)]
      · refine ⟨S2, hpre _ ?_, r2, r3⟩
        rw [if_neg (nI_nlt (by omega) (by omega)), sd_cl_ok (m_has F (by omega) S1), c2]
        rw [if_neg (by decide), if_pos (nI_le (by omega) (by omega)), r1]
        unfold letV
        rw [if_neg (fun z => by rcases z with z | z; exact c1 z; exact c3 z.2)]
    · have c2' : hb F (tg σ.1 s) = false := by simpa using c2
      refine ⟨S2, hpre _ ?_, r2, r3⟩
      rw [if_neg (nI_nlt (by omega) (by omega)), sd_cl_ok (m_has F (by omega) S1), c2']
      rw [if_pos (by decide), r1]
      unfold letV
      rw [if_neg (fun z => by rcases z with z | z; exact c1 z; exact c2 z.1)]
theorem n_letIn {S : sd_St} {σ : Sg} (hw : WF σ) (h : IR S σ) {s p D U : Nat} {F : Int32} (hs : s < ts σ.1) (hp : p < tn σ.1) (hD : D < 4392) (hU : U < 4392) (hF : setOK (tn σ.1) F = true) : ∃ S1, f_X12_letIn (nI s) (nI p) (nI D) F (nI U) S = some (letV σ.1 s p D U F, S1) ∧ IR S1 σ ∧ frm hiC S S1 := by
  have hw1 := hw.1
  have h12 := hw1.1
  obtain ⟨w1, w2⟩ := hw1.2.2.2.2.2.1 s hs
  obtain ⟨t1, t2⟩ := IR_thr h
  obtain ⟨S0, hS0⟩ : ∃ S0, S0 = sd_I S 130 0 0 := ⟨_, rfl⟩
  rw [← hS0] at t1 t2
  have hT := IR_T t1
  have key : ∀ late : Bool, (late = true ↔ (hb F (tg σ.1 s) = true ∧ tx σ.1 s < U)) → ∃ S1, f_X12_letIn_b76 (nI s) (nI p) (nI D) F (nI U) (nI (tg σ.1 s)) (bI late) S0 = some (letV σ.1 s p D U F, S1) ∧ IR S1 σ ∧ frm hiC S S1 := by
    intro late hlate
    obtain ⟨S1, a1, a2, a3⟩ := n_let81 (F := F) (late := late) hw1 hs hp hD hU (tn σ.1) sd_FU 0 S0 (by omega) (by unfold sd_FU; omega) hT (fun j hj => absurd hj (Nat.not_lt_zero j))
    obtain ⟨E, hE, hE0⟩ : ∃ E, tabE σ.1 (tg σ.1 s) D (lowF F U) E ∧ (∀ j, E 0 j = if j = tg σ.1 s ∧ late = false ∧ tx σ.1 s ≤ D then tx σ.1 s else FARN) ∧ ((late = false ∧ tx σ.1 s ≤ D ∧ E = Ek σ.1 (tg σ.1 s) (tx σ.1 s) D (lowF F U)) ∨ (¬ (late = false ∧ tx σ.1 s ≤ D) ∧ E = fun _ _ => FARN)) := by
      by_cases c : late = false ∧ tx σ.1 s ≤ D
      · refine ⟨_, tab_Ek w2 hD, fun j => ?_, Or.inl ⟨c.1, c.2, rfl⟩⟩
        unfold Ek
        by_cases cj : j = tg σ.1 s
        · rw [if_pos cj, if_pos ⟨cj, c.1, c.2⟩]
        · rw [if_neg cj, if_neg (fun z => cj z.1)]
      · refine ⟨_, tab_far hD, fun j => ?_, Or.inr ⟨c, rfl⟩⟩
        rw [if_neg (fun z => c z.2)]
    obtain ⟨S2, v, b1, b2, b3⟩ := n_let138 (F := F) hw1 w1 hD hU hp hE (tn σ.1) sd_FU 0 S1 (by omega) (by unfold sd_FU; omega) (by rw [a3.1 136 (by decide)]; exact hT) (fun j q hj _ hq => by
      have : j = 0 := by omega
      subst this
      rw [show 12 * 0 + q = q by omega, a2 q hq, hE0.1 q]) (fun j hj => absurd hj (Nat.not_lt_zero j))
    have f1 : frm (fun a => a = 142) S0 S2 := frm_trans a3 b2 (fun _ h => h) (fun _ h => h)
    refine ⟨S2, ?_, IR_fr t1 (f1.1 136 (by decide)) (f1.1 154 (by decide)) (by rw [f1.1 130 (by decide)]) (f1.1 131 (by decide)) (f1.2 135 (by decide)), frm_trans t2 f1 (fun _ h => h) (fun a h => by unfold hiC; omega)⟩
    unfold f_X12_letIn_b76
    rw [show (0 : Int32) = nI 0 from rfl, a1, show (0 : Int32) = nI 0 from rfl, b1]
    congr 2
    unfold letV
    rcases hE0.2 with ⟨c1, c2, c3⟩ | ⟨c1, c3⟩
    · rw [if_neg (fun z => by
        rcases z with z | z
        · omega
        · rw [hlate.mpr z] at c1; cases c1)]
      unfold fewI
      rcases gS_fin (low := lowF F U) hw1 hD c2 w1 hp with ⟨g1, g2⟩ | ⟨g1, g2, g3, g4⟩
      · rw [if_pos g1]
        rcases b3 with ⟨j, -, j2, -⟩ | ⟨-, b3⟩
        · rw [c3] at j2; exact absurd j2 (g2 j)
        · exact b3
      · generalize gS σ.1 (tg σ.1 s) (tx σ.1 s) (lowF F U) (D + 1) p = G at g1 g2 g3 g4
        rw [if_neg (show ¬ G = FARN by unfold FARN; omega)]
        rcases b3 with ⟨j, j1, j2, j3, j4⟩ | ⟨b3, -⟩
        · rw [c3] at j2 j3
          have hj : j = G - 1 := by
            rcases Nat.lt_trichotomy j (G - 1) with q | q | q
            · exact absurd j2 (g4 j q)
            · exact q
            · rw [j3 _ q] at g3
              exact absurd g3 (Nat.lt_irrefl _)
          rw [j4, hj, show G - 1 + 1 = G by omega]
        · have := b3 (G - 1) (by omega)
          rw [c3] at this
          rw [this] at g3
          exact absurd g3 (Nat.lt_irrefl _)
    · rw [if_pos (by
        by_cases q1 : D < tx σ.1 s
        · exact Or.inl q1
        · right
          apply hlate.mp
          cases late with
          | true => rfl
          | false => exact absurd ⟨rfl, by omega⟩ c1)]
      rcases b3 with ⟨j, -, j2, -⟩ | ⟨-, b3⟩
      · rw [c3] at j2; exact absurd j2 (Nat.lt_irrefl _)
      · exact b3
  unfold f_X12_letIn f_X12_letIn_b75
  rw [sd_nm_eq, ← hS0, sd_cl_ok (n_areThere hT hw1 hs hp), if_neg (by decide), sd_cl_ok (n_isDate hD), if_neg (by decide), sd_cl_ok (n_isDate hU), if_neg (by decide), sd_cl_ok (n_people hT), sd_cl_ok (n_isSet h12 F), hF, if_neg (by decide), sd_cl_ok (n_beginner hT hw1 hs)]
  by_cases c2 : hb F (tg σ.1 s) = true
  · rw [if_pos ((bit1 F (by omega)).mpr c2), sd_cl_ok (n_fromOf hw1 hT hs)]
    by_cases c3 : tx σ.1 s < U
    · rw [if_neg (nI_ge c3 (by omega))]
      exact key true ⟨fun _ => ⟨c2, c3⟩, fun _ => rfl⟩
    · rw [if_pos (nI_le (by omega) (by omega))]
      exact key false ⟨fun z => (by cases z), fun z => absurd z.2 c3⟩
  · rw [if_neg (fun z => c2 ((bit1 F (by omega)).mp z))]
    exact key false ⟨fun z => (by cases z), fun z => absurd z.1 c2⟩
theorem ag_letIn (x1 x2 x3 x4 x5 : Int32) : AG (f_X11_letIn x1 x2 x3 x4 x5) (f_X12_letIn x1 x2 x3 x4 x5) := by
  intro σ hw
  have hw1 := hw.1
  have h12 := hw1.1
  rcases ix_or x1 (wf31 hw1).2 with ⟨s, hs, rfl⟩ | c1
  · rcases ix_or x2 (wf31 hw1).1 with ⟨p, hp, rfl⟩ | c2
    · rcases ix_or x3 (show 4392 < 2 ^ 31 by decide) with ⟨D, hD, rfl⟩ | c3
      · cases c4 : setOK (tn σ.1) x4 with
        | true =>
          rcases ix_or x5 (show 4392 < 2 ^ 31 by decide) with ⟨U, hU, rfl⟩ | c5
          · exact ⟨letV σ.1 s p D U x4, σ, hw, fun S h => m_letIn hw h hs hp hD hU c4, fun S h => n_letIn hw h hs hp hD hU c4⟩
          · refine AG_none hw (v := -1) (fun S h => ?_) (fun S h => ?_)
            · unfold f_X11_letIn
              rw [sd_cl_ok (m_isSecret (IC_T h) hw1 hs), if_neg (by decide), sd_cl_ok (m_isPerson (IC_T h) hw1 hp), if_neg (by decide), sd_cl_ok (m_isDate hD), if_neg (by decide), sd_cl_ok (m_isSet (IC_T h) hw1 x4), c4, if_neg (by decide), sd_cl_ok (m_isDate_n c5), if_pos rfl]
            · unfold f_X12_letIn
              rw [sd_nm_eq, sd_cl_ok (n_areThere (IR_T (IR_thr h).1) hw1 hs hp), if_neg (by decide), sd_cl_ok (n_isDate hD), if_neg (by decide), sd_cl_ok (n_isDate_n c5), if_pos rfl]
        | false =>
          refine AG_none hw (v := -1) (fun S h => ?_) (fun S h => ?_)
          · unfold f_X11_letIn
            rw [sd_cl_ok (m_isSecret (IC_T h) hw1 hs), if_neg (by decide), sd_cl_ok (m_isPerson (IC_T h) hw1 hp), if_neg (by decide), sd_cl_ok (m_isDate hD), if_neg (by decide), sd_cl_ok (m_isSet (IC_T h) hw1 x4), c4, if_pos (by decide)]
          · unfold f_X12_letIn
            rw [sd_nm_eq, sd_cl_ok (n_areThere (IR_T (IR_thr h).1) hw1 hs hp), if_neg (by decide), sd_cl_ok (n_isDate hD), if_neg (by decide)]
            rcases ix_or x5 (show 4392 < 2 ^ 31 by decide) with ⟨U, hU, rfl⟩ | c5
            · rw [sd_cl_ok (n_isDate hU), if_neg (by decide), sd_cl_ok (n_people (IR_T (IR_thr h).1)), sd_cl_ok (n_isSet h12 x4), c4, if_pos (by decide)]
            · rw [sd_cl_ok (n_isDate_n c5), if_pos rfl]
      · refine AG_none hw (v := -1) (fun S h => ?_) (fun S h => ?_)
        · unfold f_X11_letIn
          rw [sd_cl_ok (m_isSecret (IC_T h) hw1 hs), if_neg (by decide), sd_cl_ok (m_isPerson (IC_T h) hw1 hp), if_neg (by decide), sd_cl_ok (m_isDate_n c3), if_pos rfl]
        · unfold f_X12_letIn
          rw [sd_nm_eq, sd_cl_ok (n_areThere (IR_T (IR_thr h).1) hw1 hs hp), if_neg (by decide), sd_cl_ok (n_isDate_n c3), if_pos rfl]
    · refine AG_none hw (v := -1) (fun S h => ?_) (fun S h => ?_)
      · unfold f_X11_letIn
        rw [sd_cl_ok (m_isSecret (IC_T h) hw1 hs), if_neg (by decide), sd_cl_ok (m_isPerson_n (IC_T h) c2), if_pos rfl]
      · unfold f_X12_letIn
        rw [sd_nm_eq, sd_cl_ok (n_areThere_n (IR_T (IR_thr h).1) hw1 (Or.inr c2)), if_pos rfl]
  · refine AG_none hw (v := -1) (fun S h => ?_) (fun S h => ?_)
    · unfold f_X11_letIn
      rw [sd_cl_ok (m_isSecret_n (IC_T h) c1), if_pos rfl]
    · unfold f_X12_letIn
      rw [sd_nm_eq, sd_cl_ok (n_areThere_n (IR_T (IR_thr h).1) hw1 (Or.inl c1)), if_pos rfl]
