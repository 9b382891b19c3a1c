/-! WITH ANOTHER BIRTHDAY: the class -/
theorem wf_setB {X : TW} (hw : wfT X) {p d : Nat} (hd : d < 366) : wfT (setB X p d) := by
  obtain ⟨h1, h2, h3⟩ := hw
  refine ⟨h1, fun q hq => ?_, h3⟩
  obtain ⟨a1, a2⟩ := h2 q hq
  refine ⟨?_, a2⟩
  show (if 1 = 1 ∧ q = p then d + 1 else X 1 q) ≤ 366
  by_cases c : q = p
  · rw [if_pos ⟨rfl, c⟩]; omega
  · rw [if_neg (fun z => c z.2)]; exact a1
theorem lx_srt {L : List (Nat × Nat)} (h : L.Pairwise lx) : srt L := h.imp (fun {a b} hab => by
  unfold lx at hab
  omega)
theorem m_trial {X : TW} (hw : wfT X) {p d : Nat} (hp : p < tn X) (hb0 : tb X p = 0) (hd : d < 366) {S : sd_St} (hT : CT 102 S X) {L : List (Nat × Nat)} (hE : EV X L) : ∃ S2 M, f_X1_openOne 118 102 (nI p) (nI d) S = some ((), S2) ∧ DR 118 S2 X M ∧ srt M ∧ (∀ t q, ((t, q) ∈ L ∨ (t, q) ∈ M) ↔ q < tn (setB X p d) ∧ freeB (setB X p d) q t = true) ∧ frm (fun a => 118 ≤ a ∧ a ≤ 122) S S2 := by
  obtain ⟨S2, M, e1, e2, e3, e4, e5⟩ := m_openOne (d := 118) (k := 102) (by decide) (by decide) hw hT hp hd
  refine ⟨S2, M, e1, e2, lx_srt e3, fun t q => ?_, e5⟩
  rw [hE.2, e4, setB_tn]
  unfold freeB
  rw [there_B, gone_B, feast_B]
  have e0 : feastB X q (t % 366) = (tb X q == t % 366 + 1 || (tz X == 1 && tm X q == t % 366 + 1)) := rfl
  rw [e0]
  by_cases c : q = p
  · subst c
    rw [if_pos rfl, hb0]
    have z : (0 == t % 366 + 1) = false := by simp
    rw [z, Bool.false_or]
    constructor
    · rintro (⟨q1, q2⟩ | ⟨-, q2, q3, q4⟩)
      · rw [Bool.and_eq_true, Bool.and_eq_true] at q2
        refine ⟨hp, ?_⟩
        rw [q2.1, q2.2.1, q2.2.2, Bool.or_true]; rfl
      · refine ⟨hp, ?_⟩
        rw [q2, q3, q4]; simp
    · rintro ⟨-, q⟩
      rw [Bool.and_eq_true, Bool.and_eq_true, Bool.or_eq_true] at q
      obtain ⟨q1, q2, q3⟩ := q
      rcases q2 with q2 | q2
      · right
        exact ⟨rfl, q1, (by simpa using q2 : d = t % 366).symm, by simpa using q3⟩
      · left
        exact ⟨hp, by rw [q1, q2, q3]; rfl⟩
  · rw [if_neg c]
    constructor
    · rintro (h | ⟨h, -⟩)
      · exact h
      · exact absurd h c
    · intro h; exact Or.inl h
def clrB (T : TW) (p : Nat) : TW := fun i j => if i = 1 ∧ j = p then 0 else T i j
theorem clr_set (T : TW) (p d : Nat) : setB (clrB T p) p d = setB T p d := by
  funext i j
  unfold setB clrB
  by_cases c : i = 1 ∧ j = p
  · rw [if_pos c, if_pos c]
  · rw [if_neg c, if_neg c, if_neg c]
theorem wf_clr {T : TW} (hw : wfT T) {p : Nat} : wfT (clrB T p) := by
  obtain ⟨h1, h2, h3⟩ := hw
  refine ⟨h1, fun q hq => ?_, h3⟩
  obtain ⟨a1, a2⟩ := h2 q hq
  refine ⟨?_, a2⟩
  show (if 1 = 1 ∧ q = p then 0 else T 1 q) ≤ 366
  by_cases c : q = p
  · rw [if_pos ⟨rfl, c⟩]; omega
  · rw [if_neg (fun z => c z.2)]; exact a1
theorem full_set {T : TW} (hf : fullT T) {p d : Nat} : fullT (setB T p d) := by
  intro q hq
  show 0 < (if 1 = 1 ∧ q = p then d + 1 else T 1 q)
  by_cases c : q = p
  · rw [if_pos ⟨rfl, c⟩]; omega
  · rw [if_neg (fun z => c z.2)]; exact hf q hq
theorem allF_holds {T : TW} {rp : Rp} (hr : wfR T rp) : allF T rp 0 (ts T) = holdsB T rp := by
  have key : ∀ m s, allF T rp s m = true ↔ ∀ k, s ≤ k → k < s + m → agB (hF T k) k rp = true := by
    intro m
    induction m with
    | zero => intro s; unfold allF; simp; intro k h1 h2; omega
    | succ m ih =>
      intro s
      unfold allF
      rw [Bool.and_eq_true, ih]
      constructor
      · rintro ⟨h1, h2⟩ k g1 g2
        by_cases c : k = s
        · rw [c]; exact h1
        · exact h2 k (by omega) (by omega)
      · intro h
        exact ⟨h s (by omega) (by omega), fun k g1 g2 => h k (by omega) (by omega)⟩
  rw [Bool.eq_iff_iff, key]
  unfold holdsB
  rw [List.all_eq_true]
  constructor
  · intro h r hm
    obtain ⟨w, s, t, n⟩ := r
    obtain ⟨-, a2, -⟩ := hr.2 w s t n hm
    have := h s (by omega) (by omega)
    unfold agB at this
    rw [List.all_eq_true] at this
    have := this _ hm
    simpa using this
  · intro h k _ _
    unfold agB
    rw [List.all_eq_true]
    intro r hm
    by_cases c : r.2.1 = k
    · have := h r hm
      rw [c] at this
      rw [this, Bool.or_true]
    · have : (r.2.1 == k) = false := by simpa using c
      rw [this]; rfl
theorem m_allAgree_l {X : TW} (hw : wfT X) {p d : Nat} (hd : d < 366) {rp : Rp} (hrp : wfR X rp) {L M : List (Nat × Nat)} (hL : srt L) (hM : srt M) (hmem : ∀ t q, ((t, q) ∈ L ∨ (t, q) ∈ M) ↔ q < tn (setB X p d) ∧ freeB (setB X p d) q t = true) : ∀ (m n s : Nat) (S : sd_St), s + m = ts X → m < n → CT 102 S X → RC 72 S rp → DR 113 S X L → DR 118 S X M → ∃ S2, f_X10_allAgree_l2 101 72 n (nI s) S = some (bI (allF (setB X p d) rp s m), S2) ∧ frm (fun a => a = 123 ∨ a = 124) S S2 := by
  have h4 := hw.2.2.2.2.1
  have h12 := hw.1
  have hwX := wf_setB hw (p := p) hd
  have hl16 := hrp.1
  intro m
  induction m with
  | zero =>
    intro n s S hs hn hT _ _ _
    obtain ⟨n, rfl⟩ : ∃ n', n = n' + 1 := ⟨n - 1, by omega⟩
    refine ⟨S, ?_, frm_rfl⟩
    unfold f_X10_allAgree_l2 allF
    simp only [Nat.reduceAdd]
    rw [hT.2.2.2.2.1, if_pos (nI_le (by omega) (by omega))]
    rfl
  | succ m ih =>
    intro n s S hs hn hT hR hD1 hD2
    obtain ⟨n, rfl⟩ : ∃ n', n = n' + 1 := ⟨n - 1, by omega⟩
    have hsX : s < ts X := by omega
    obtain ⟨w1, w2⟩ := hw.2.2.2.2.2.1 s hsX
    obtain ⟨q1, q2⟩ := hT.2.2.2.2.2.1 s hsX
    have hlast := m_last_l hw hR hrp hsX rp.length sd_FU 0 0 (by omega) (by unfold sd_FU; omega) (by omega)
    rw [List.drop_zero] at hlast
    have hls : lsF s 0 rp ≤ 4392 := lsF_le (by omega) (fun r hm => by
      obtain ⟨w, s', t, n'⟩ := r
      exact (hrp.2 w s' t n' hm).2.2)
    obtain ⟨S1, e1, e2, e3⟩ := m_both (r := 123) (d1 := 113) (d2 := 118) (by decide) (by decide) (by decide) hwX hmem hL hM (b := tg X s) (f := tx X s) (l := lsF s 0 rp) w1 w2 hls hD1 hD2
    have hok1 := hok_hd hwX (b := tg X s) (f := tx X s) w1 w2 (lsF s 0 rp) hls
    have hR1 : RC 72 S1 rp := RC_fr hR (fun a g1 g2 => e3.1 a (by omega))
    have hag := m_agree (r := 123) (by decide) hwX hR1 hrp e2 hok1 (s := s) hsX
    rw [agB_by w2 hls (fun r hm hr => (lsF_ge (s := s) (rp := rp) (a := 0)).2 r hm hr)] at hag
    have hag : f_X4_agree 72 123 (nI s) S1 = some (bI (agB (hF (setB X p d) s) s rp), S1) := hag
    obtain ⟨S2, k1, k2⟩ := ih n (s + 1) S1 (by omega) (by omega) (CT_fr hT (fun a g1 g2 => e3.1 a (by omega))) hR1 (DR_fr hD1 (by rw [e3.1 113 (by decide)]) (fun a g1 g2 => e3.1 a (by omega))) (DR_fr hD2 (by rw [e3.1 118 (by decide)]) (fun a g1 g2 => e3.1 a (by omega)))
    have pre : ∀ R, (if bI (agB (hF (setB X p d) s) s rp) = 0 then (some ((0 : Int32), S1)) else f_X10_allAgree_l2 101 72 n (nI (s + 1)) S1) = R → f_X10_allAgree_l2 101 72 (n + 1) (nI s) S = R := by
      intro R hR
      unfold f_X10_allAgree_l2
      simp only [Nat.reduceAdd]
      rw [hT.2.2.2.2.1, if_neg (nI_ge (by omega) (by omega)), sd_cl_ok (show f_X4_lastAbout 72 (nI s) S = _ from hlast), sd_ld_ok (show s < sd_al 111 by rw [show sd_al 111 = 4 from by decide]; omega) (sd_al_lt _), sd_ld_ok (show s < sd_al 112 by rw [show sd_al 112 = 4 from by decide]; omega) (sd_al_lt _), q1, q2, sd_cl_ok e1, sd_cl_ok hag, nI_1]
      exact hR
    unfold allF
    cases c : agB (hF (setB X p d) s) s rp with
    | false =>
      refine ⟨S1, pre _ ?_, e3⟩
      rw [c, if_pos (by decide)]
      rfl
    | true =>
      refine ⟨S2, pre _ ?_, frm_trans e3 k2 (fun _ h => h) (fun _ h => h)⟩
      rw [c, if_neg (by decide), k1, Bool.true_and]
theorem m_fob16 {T : TW} {rp : Rp} (hrp : wfR T rp) {p : Nat} : ∀ (m n i : Nat) (S : sd_St) (P : Nat → Bool), i + m = rp.length → m < n → RC 72 S rp → TQ P S → ∃ S2, f_X10_findOtherBirthday_l16 101 17 72 n (nI p) (nI i) S = sd_st S2 103 (nI p) (-1 : Int32) (fun S_13 => sd_cl (f_X1_openAll 113 102 S_13) (fun _ S_14 => f_X10_findOtherBirthday_l72 101 17 72 sd_FU (nI p) (0 : Int32) S_14)) ∧ TQ (fun d => P d || (rp.drop i).any (fun r => r.2.2.1 % 366 == d)) S2 ∧ frm (fun a => a = 128) S S2 := by
  have h16 := hrp.1
  intro m
  induction m with
  | zero =>
    intro n i S P hi hn hR hP
    obtain ⟨n, rfl⟩ : ∃ n', n = n' + 1 := ⟨n - 1, by omega⟩
    refine ⟨S, ?_, TQ_c hP (fun d _ => ?_), frm_rfl⟩
    · unfold f_X10_findOtherBirthday_l16
      simp only [Nat.reduceAdd]
      rw [hR.1, if_pos (nI_le (by omega) (by omega))]
    · rw [List.drop_eq_nil_of_le (by omega)]; simp
  | succ m ih =>
    intro n i S P hi hn hR hP
    obtain ⟨n, rfl⟩ : ∃ n', n = n' + 1 := ⟨n - 1, by omega⟩
    obtain ⟨w, s, t, b, g1, g2, g3⟩ := drop_cons (rp := rp) (i := i) (by omega)
    obtain ⟨-, -, hx⟩ := hrp.2 w s t b g3
    obtain ⟨-, -, q3, -⟩ := hR.2 i w s t b g1
    have f1 : frm (fun a => a = 128) S (sd_I S 128 (t % 366) (vp_nar .boolean (1 : Int32))) := frm_I rfl
    obtain ⟨S2, e1, e2, e3⟩ := ih n (i + 1) _ _ (by omega) (by omega) (RC_fr hR (fun a q1 q2 => f1.1 a (by omega))) (TQ_set (x := t % 366) hP)
    refine ⟨S2, ?_, TQ_c e2 (fun d _ => ?_), frm_trans f1 e3 (fun _ h => h) (fun _ h => h)⟩
    · unfold f_X10_findOtherBirthday_l16
      simp only [Nat.reduceAdd]
      rw [hR.1, if_neg (nI_ge (by omega) (by omega)), sd_ld_ok (show i < sd_al 75 by rw [show sd_al 75 = 16 from by decide]; omega) (sd_al_lt _), q3, nI_rem366 (by omega), sd_st_ok (by rw [al128]; omega) (sd_al_lt _), nI_1]
      exact e1
    · rw [g2, List.any_cons]
      rw [show (d == t % 366) = (t % 366 == d) from Bool.beq_comm]
      simp [Bool.or_assoc]
/-- which days are tried -/
def prB (T : TW) (rp : Rp) (p d : Nat) : Bool := !(tb T p == d + 1) && holdsB (setB T p d) rp
theorem fnd_no {P : Nat → Bool} {n : Nat} (h : ∀ d, d < n → P d = false) : (List.range n).find? P = none := by
  rw [List.find?_eq_none]
  intro x hx
  rw [h x (List.mem_range.mp hx)]
  decide
theorem fnd_yes {P : Nat → Bool} {n d : Nat} (hd : d < n) (hP : P d = true) (h : ∀ x, x < d → P x = false) : (List.range n).find? P = some d := by
  rw [List.find?_range_eq_some]
  refine ⟨hP, List.mem_range.mpr hd, fun x hx => ?_⟩
  rw [h x hx]; rfl
theorem pr_skip {T : TW} (hw : wfT T) {rp : Rp} (hr : wfR T rp) {p d : Nat} (hp : p < tn T) (hd : d + 1 < 366) (h1 : (trnB T d || rp.any (fun r => r.2.2.1 % 366 == d)) = false) (h2 : (trnB T (d + 1) || rp.any (fun r => r.2.2.1 % 366 == d + 1)) = false) : prB T rp p (d + 1) = prB T rp p d := by
  rw [Bool.or_eq_false_iff] at h1 h2
  have q1 := trn_qd (p := p) h1.1
  have q2 := trn_qd (p := p) h2.1
  have hb : ∀ x, trnB T x = false → tb T p ≠ x + 1 := by
    intro x hx
    unfold trnB at hx
    rw [Bool.or_eq_false_iff, Bool.or_eq_false_iff, List.any_eq_false] at hx
    have := hx.2.1 p (List.mem_range'_1.mpr ⟨by omega, by omega⟩)
    simp at this
    exact this.1
  unfold prB
  have e1 : (tb T p == d + 1) = false := by simpa using hb d h1.1
  have e2 : (tb T p == d + 1 + 1) = false := by simpa using hb (d + 1) h2.1
  rw [e1, e2, warp_holds hw hp hd q1 q2 hr (fun r hm z => by
    have := List.any_eq_false.mp h1.2 r hm
    simp at this
    exact this z)]
theorem m_fob72 {T : TW} (hw : wfT T) {rp : Rp} (hr : wfR T rp) {p : Nat} (hp : p < tn T) {L : List (Nat × Nat)} (hE : EV (clrB T p) L) : ∀ (m n d : Nat) (S : sd_St), d + m = 366 → m < n → CT 17 S T → CT 102 S (clrB T p) → RC 72 S rp → DR 113 S (clrB T p) L → TQ (fun d => trnB T d || rp.any (fun r => r.2.2.1 % 366 == d)) S → (∀ x, x < d → prB T rp p x = false) → ∃ S2, f_X10_findOtherBirthday_l72 101 17 72 n (nI p) (nI d) S = some (oI (insN T rp p), S2) ∧ frm (fun a => 118 ≤ a ∧ a ≤ 124) S S2 := by
  have h12 := hw.1
  have hw0 := wf_clr hw (p := p)
  have hb0 : tb (clrB T p) p = 0 := by
    show (if 1 = 1 ∧ p = p then 0 else T 1 p) = 0
    rw [if_pos ⟨rfl, rfl⟩]
  intro m
  induction m with
  | zero =>
    intro n d S hd hn _ _ _ _ _ hno
    obtain ⟨n, rfl⟩ : ∃ n', n = n' + 1 := ⟨n - 1, by omega⟩
    refine ⟨S, ?_, frm_rfl⟩
    unfold f_X10_findOtherBirthday_l72
    rw [if_pos (show (366 : Int32) ≤ nI d from nI_le (a := 366) (by omega) (by omega))]
    have : insN T rp p = none := fnd_no (fun x hx => hno x (by omega))
    rw [this]; rfl
  | succ m ih =>
    intro n d S hd hn hT hT0 hR hD hP hno
    obtain ⟨n, rfl⟩ : ∃ n', n = n' + 1 := ⟨n - 1, by omega⟩
    have hd3 : d < 366 := by omega
    obtain ⟨q1, -⟩ := hT.2.1 p hp
    obtain ⟨w1, -⟩ := hw.2.1 p hp
    have hnext : prB T rp p d = false → ∀ x, x < d + 1 → prB T rp p x = false := fun h x hx => by
      by_cases c : x = d
      · rw [c]; exact h
      · exact hno x (by omega)
    have hskip : prB T rp p d = false → ∃ S2, f_X10_findOtherBirthday_b128 (f_X10_findOtherBirthday_l72 101 17 72 n) 101 17 72 (nI p) (nI d) S = some (oI (insN T rp p), S2) ∧ frm (fun a => 118 ≤ a ∧ a ≤ 124) S S2 := by
      intro h
      obtain ⟨S2, e1, e2⟩ := ih n (d + 1) S (by omega) (by omega) hT hT0 hR hD hP (hnext h)
      refine ⟨S2, ?_, e2⟩
      unfold f_X10_findOtherBirthday_b128
      rw [nI_1]
      exact e1
    unfold f_X10_findOtherBirthday_l72
    simp only [Nat.reduceAdd]
    rw [if_neg (show ¬ (366 : Int32) ≤ nI d from nI_ge (b := 366) (by omega) (by decide)), sd_ld_ok (show p < sd_al 18 by rw [show sd_al 18 = 12 from by decide]; omega) (sd_al_lt _), q1]
    by_cases c : tb T p = d + 1
    · rw [if_pos ((nI_sub1 (by omega) (by omega)).mpr c).symm]
      exact hskip (by unfold prB; rw [c]; simp)
    · rw [if_neg (fun z => c ((nI_sub1 (by omega) (by omega)).mp z.symm)), sd_cl_ok (m_unlike hP hd3)]
      have ec : (tb T p == d + 1) = false := by simpa using c
      cases cu : (d == 0 || ((trnB T d || rp.any (fun r => r.2.2.1 % 366 == d)) || (trnB T (d - 1) || rp.any (fun r => r.2.2.1 % 366 == d - 1)))) with
      | false =>
        rw [if_pos (by decide)]
        rw [Bool.or_eq_false_iff, Bool.or_eq_false_iff] at cu
        obtain ⟨u1, u2, u3⟩ := cu
        have u1 : ¬ d = 0 := by simpa using u1
        obtain ⟨x, rfl⟩ : ∃ x, d = x + 1 := ⟨d - 1, by omega⟩
        refine hskip ?_
        rw [Nat.add_sub_cancel] at u3
        rw [pr_skip hw hr hp (by omega) u3 u2]
        exact hno x (by omega)
      | true =>
        rw [if_neg (by decide)]
        obtain ⟨S1, M, e1, e2, e3, e4, e5⟩ := m_trial hw0 (p := p) (d := d) hp hb0 hd3 hT0 hE
        have hT1 : CT 102 S1 (clrB T p) := CT_fr hT0 (fun a g1 g2 => e5.1 a (by omega))
        have hR1 : RC 72 S1 rp := RC_fr hR (fun a g1 g2 => e5.1 a (by omega))
        have hD1 : DR 113 S1 (clrB T p) L := DR_fr hD (by rw [e5.1 113 (by decide)]) (fun a g1 g2 => e5.1 a (by omega))
        obtain ⟨S2, k1, k2⟩ := m_allAgree_l hw0 hd3 hr (lx_srt hE.1) e3 e4 (ts T) sd_FU 0 S1 (by show 0 + ts T = ts T; omega) (by have := hw.2.2.2.2.1; unfold sd_FU; omega) hT1 hR1 hD1 e2
        rw [clr_set] at k1
        have hah : allF (setB T p d) rp 0 (ts T) = holdsB (setB T p d) rp := allF_holds (T := setB T p d) hr
        rw [hah] at k1
        have f1 : frm (fun a => 118 ≤ a ∧ a ≤ 124) S S2 := frm_trans e5 k2 (fun a h => by omega) (fun a h => by omega)
        rw [sd_cl_ok e1, sd_cl_ok (show f_X10_allAgree 101 72 S1 = _ from k1)]
        cases ch : holdsB (setB T p d) rp with
        | true =>
          refine ⟨S2, ?_, f1⟩
          rw [if_neg (by decide)]
          have : insN T rp p = some d := fnd_yes hd3 (by
            show prB T rp p d = true
            unfold prB
            rw [ec, ch]; rfl) hno
          rw [this]; rfl
        | false =>
          rw [if_pos (by decide)]
          obtain ⟨S3, y1, y2⟩ := ih n (d + 1) S2 (by omega) (by omega) (CT_fr hT (fun a g1 g2 => f1.1 a (by omega))) (CT_fr hT0 (fun a g1 g2 => f1.1 a (by omega))) (RC_fr hR (fun a g1 g2 => f1.1 a (by omega))) (DR_fr hD (by rw [f1.1 113 (by decide)]) (fun a g1 g2 => f1.1 a (by omega))) (fun x hx => by rw [f1.1 128 (by decide)]; exact hP x hx) (hnext (by unfold prB; rw [ch, Bool.and_false]))
          refine ⟨S3, ?_, frm_trans f1 y2 (fun _ h => h) (fun _ h => h)⟩
          unfold f_X10_findOtherBirthday_b128
          rw [nI_1]
          exact y1
theorem m_fob {T : TW} (hw : wfT T) (hfull : fullT T) {rp : Rp} (hr : wfR T rp) {p : Nat} (hp : p < tn T) {S : sd_St} (hT : CT 17 S T) (hR : RC 72 S rp) : ∃ S2, f_X10_findOtherBirthday 101 17 72 (nI p) S = some (oI (insN T rp p), S2) ∧ frm (fun a => 102 ≤ a ∧ a ≤ 128) S S2 := by
  have h12 := hw.1
  have h16 := hr.1
  have hz : S.1 17 15 = 0 ∨ S.1 17 15 = 1 := by
    rw [hT.2.2.2.2.2.2.2]
    have := hw.2.2.2.2.2.2.2
    rcases (show tz T = 0 ∨ tz T = 1 by omega) with e | e <;> rw [e]
    · exact Or.inl rfl
    · exact Or.inr rfl
  obtain ⟨S1, a1, a2, a3, a4⟩ := m_copyT (k0 := 102) (k1 := 17) (by decide) (by decide) (by decide) hz
  have hT1 : CT 102 S1 T := CT_of (by decide) hw hT a2 a3
  have hT17 : CT 17 S1 T := CT_fr hT (fun a g1 g2 => a4.1 a (by omega))
  obtain ⟨S2, b1, b2, b3⟩ := m_markTurns hw hfull hT17
  have f2 : frm (fun a => 102 ≤ a ∧ a ≤ 128) S S2 := frm_trans a4 b3 (fun a h => by omega) (fun a h => by omega)
  obtain ⟨S3, c1, c2, c3⟩ := m_fob16 (p := p) hr rp.length sd_FU 0 S2 _ (by omega) (by unfold sd_FU; omega) (RC_fr hR (fun a g1 g2 => f2.1 a (by omega))) b2
  rw [List.drop_zero] at c2
  obtain ⟨S4, hS4⟩ : ∃ S4, S4 = sd_I S3 103 p (-1 : Int32) := ⟨_, rfl⟩
  have f34 : frm (fun a => a = 103) S3 S4 := by rw [hS4]; exact frm_I rfl
  have f24 : frm (fun a => a = 103 ∨ a = 128) S2 S4 := frm_trans c3 f34 (fun a h => Or.inr h) (fun a h => Or.inl h)
  have hT2 : CT 102 S2 T := CT_fr hT1 (fun a g1 g2 => b3.1 a (by omega))
  have hT3 : CT 102 S3 T := CT_fr hT2 (fun a g1 g2 => c3.1 a (by omega))
  have hT4 : CT 102 S4 (clrB T p) := by
    obtain ⟨t1, t2, t3, t4, t5, t6, t7, t8⟩ := hT3
    have o : ∀ a, a ≠ 103 → S4.1 a = S3.1 a := fun a ha => f34.1 a ha
    refine ⟨by rw [o 102 (by decide)]; exact t1, fun q hq => ?_, by rw [o 102 (by decide)]; exact t3, fun i hi => ?_, by rw [o 102 (by decide)]; exact t5, fun s hs => ?_, by rw [o 102 (by decide)]; exact t7, by rw [o 102 (by decide)]; exact t8⟩
    · obtain ⟨y1, y2, y3, y4⟩ := t2 q hq
      refine ⟨?_, by rw [o (102 + 2) (by decide)]; exact y2, by rw [o (102 + 3) (by decide)]; exact y3, by rw [o (102 + 4) (by decide)]; exact y4⟩
      show S4.1 103 q = nI (if 1 = 1 ∧ q = p then 0 else T 1 q) - 1
      rw [hS4]
      by_cases c : q = p
      · rw [if_pos ⟨rfl, c⟩, c, rI_same]; decide
      · rw [if_neg (fun z => c z.2), rI_oth c]; exact y1
    · rw [o (102 + 6) (by decide), o (102 + 7) (by decide), o (102 + 8) (by decide)]; exact t4 i hi
    · rw [o (102 + 9) (by decide), o (102 + 10) (by decide)]; exact t6 s hs
  obtain ⟨S5, L, d1, d2, d3, d4⟩ := m_openAll (d := 113) (k := 102) (by decide) (by decide) (by decide) (wf_clr hw) hT4
  have f45 : frm (fun a => 102 ≤ a ∧ a ≤ 128) S S5 := frm_trans (frm_trans (e := fun a => 102 ≤ a ∧ a ≤ 128) f2 f24 (fun _ h => h) (fun a h => by omega)) d4 (fun _ h => h) (fun a h => by omega)
  obtain ⟨S6, e1, e2⟩ := m_fob72 hw hr hp d3 366 sd_FU 0 S5 (by omega) (by unfold sd_FU; omega) (CT_fr hT (fun a g1 g2 => f45.1 a (by omega))) (CT_fr hT4 (fun a g1 g2 => d4.1 a (by omega))) (RC_fr hR (fun a g1 g2 => f45.1 a (by omega))) d2 (fun x hx => by rw [d4.1 128 (by decide), f34.1 128 (by decide)]; exact c2 x hx) (fun x hx => absurd hx (Nat.not_lt_zero x))
  refine ⟨S6, ?_, frm_trans f45 e2 (fun _ h => h) (fun a h => by omega)⟩
  unfold f_X10_findOtherBirthday
  simp only [Nat.reduceAdd]
  rw [sd_cl_ok a1, sd_cl_ok b1, show (0 : Int32) = nI 0 from rfl, c1, sd_st_ok (show p < sd_al 103 by rw [show sd_al 103 = 12 from by decide]; omega) (sd_al_lt _), ← hS4, sd_cl_ok d1]
  exact e1
theorem oI_m2 {o : Option Nat} (h : ∀ d, o = some d → d < 366) : ¬ oI o = -2 := by
  cases o with
  | none => decide
  | some d =>
    intro z
    have h1 := h d rfl
    have h2 : (nI d).toInt = (d : Int) := nI_toInt (by omega)
    have z' : nI d = -2 := z
    rw [z'] at h2
    have h3 : (-2 : Int32).toInt = -2 := by decide
    omega
theorem al129 : sd_al 129 = 12 := by decide
theorem m_other {S : sd_St} {σ : Sg} (hw : WF σ) (h : IC S σ) {p : Nat} (hp : p < tn σ.1) : ∃ S1, f_X10_otherBirthday 101 17 72 (nI p) S = some (oI (insN σ.1 σ.2.1 p), S1) ∧ IC S1 σ ∧ frm loC S S1 := by
  have hw1 := hw.1
  have h12 := hw1.1
  have hO := h.2.2.2.2.2 p (by omega)
  unfold f_X10_otherBirthday f_X10_otherBirthday_b24
  simp only [Nat.reduceAdd]
  rw [sd_ld_ok (by rw [al129]; omega) (sd_al_lt _)]
  by_cases c : S.1 129 p = -2
  · rw [if_pos c]
    obtain ⟨S1, e1, e2⟩ := m_fob hw1 hw.2.1 hw.2.2.1 hp (IC_T h) h.2.1
    obtain ⟨S2, hS2⟩ : ∃ S2, S2 = sd_I S1 129 p (oI (insN σ.1 σ.2.1 p)) := ⟨_, rfl⟩
    have f12 : frm (fun a => a = 129) S1 S2 := by rw [hS2]; exact frm_I rfl
    have f2 : frm (fun a => 102 ≤ a ∧ a ≤ 129) S S2 := frm_trans e2 f12 (fun a h => by omega) (fun a h => by omega)
    refine ⟨S2, ?_, ?_, frm_mono f2 (fun a h => by unfold loC; omega)⟩
    · rw [sd_cl_ok e1, sd_st_ok (by rw [al129]; omega) (sd_al_lt _), ← hS2, sd_ld_ok (by rw [al129]; omega) (sd_al_lt _), hS2, rI_same]
    · obtain ⟨i1, i2, i3, i4, i5, i6⟩ := h
      refine ⟨CTX_fr i1 (fun a g1 g2 => f2.1 a (by omega)), RC_fr i2 (fun a g1 g2 => f2.1 a (by omega)), MKc_fr i3 (fun a g1 g2 => f2.1 a (by omega)), TPc_fr i4 (f2.1 13 (by decide)) (f2.1 14 (by decide)), CC_fr hw1 i5 (by rw [f2.1 0 (by decide)]) (fun a g1 g2 => f2.1 a (by omega)), fun q hq => ?_⟩
      rw [hS2]
      by_cases cq : q = p
      · rw [cq, rI_same]; exact Or.inr ⟨hp, rfl⟩
      · rw [rI_oth cq, e2.1 129 (by decide)]; exact i6 q hq
  · rw [if_neg c]
    rcases hO with hO | ⟨-, hO⟩
    · exact absurd hO c
    · refine ⟨S, ?_, h, frm_rfl⟩
      rw [sd_ld_ok (by rw [al129]; omega) (sd_al_lt _), hO]
