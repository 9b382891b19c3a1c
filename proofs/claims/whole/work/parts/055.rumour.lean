/-! THE CLASS'S RUMOURS -/
theorem sd_A_I {S : sd_St} {k j : Nat} {v : Int32} {f : Nat → Int32} : sd_A (sd_I S k j v) k f = sd_A S k f := by
  unfold sd_A sd_I
  refine Prod.ext ?_ rfl
  funext a
  by_cases h : a = k
  · simp [h]
  · simp [h]
theorem m_fill_l {k : Nat} {v : Int32} : ∀ (m n i : Nat) (S : sd_St), i + m = sd_al k → m < n → f_J7_fill_53178_l5 k n v (nI i) (nI (sd_al k)) S = some ((), sd_A S k (fun j => if i ≤ j ∧ j < sd_al k then v else S.1 k j)) := by
  have h31 := sd_al_lt k
  intro m
  induction m with
  | zero =>
    intro n i S hi hn
    obtain ⟨n, rfl⟩ : ∃ n', n = n' + 1 := ⟨n - 1, by omega⟩
    unfold f_J7_fill_53178_l5
    rw [if_pos (nI_le (by omega) (by omega))]
    have : sd_A S k (fun j => if i ≤ j ∧ j < sd_al k then v else S.1 k j) = S := by
      unfold sd_A
      refine Prod.ext ?_ rfl
      funext a j
      by_cases h : a = k
      · subst h
        simp
        omega
      · simp [h]
    rw [this]
  | succ m ih =>
    intro n i S hi hn
    obtain ⟨n, rfl⟩ : ∃ n', n = n' + 1 := ⟨n - 1, by omega⟩
    unfold f_J7_fill_53178_l5
    rw [if_neg (nI_ge (by omega) (by omega)), sd_st_ok (by omega) h31, nI_1, ih n (i + 1) _ (by omega) (by omega), sd_A_I]
    congr 4
    funext j
    rw [rI]
    by_cases h : j = i
    · subst h
      rw [if_neg (by omega), if_pos ⟨rfl, rfl⟩, if_pos (by omega)]
    · by_cases h2 : i + 1 ≤ j ∧ j < sd_al k
      · rw [if_pos h2, if_pos (by omega)]
      · rw [if_neg h2, if_neg (fun z => h z.2), if_neg (by omega)]
theorem m_fill {k : Nat} (hk : sd_al k < 10000) (v : Int32) (S : sd_St) : f_J7_fill_53178 k v S = some ((), sd_A S k (fun j => if j < sd_al k then v else S.1 k j)) := by
  unfold f_J7_fill_53178
  rw [sd_nm_eq]
  have := m_fill_l (k := k) (v := v) (sd_al k) sd_FU 0 S (by omega) (by unfold sd_FU; omega)
  rw [show (0 : Int32) = nI 0 from rfl, show Int32.ofNat (sd_al k) = nI (sd_al k) from rfl, this]
  simp
theorem m_fill2 {k : Nat} (hk : sd_al k < 10000) (v : Int32) (S : sd_St) : ∃ S2, f_J7_fill_53178 k v S = some ((), S2) ∧ (∀ j, j < sd_al k → S2.1 k j = v) ∧ frm (fun a => a = k) S S2 :=
  ⟨_, m_fill hk v S, fun j hj => by rw [rA_same, if_pos hj], frm_A rfl⟩
theorem al5 {r : Nat} (h : sd_kd r = 5) : sd_al (r + 1) = 12 ∧ sd_al (r + 2) = 12 ∧ sd_al (r + 3) = 12 ∧ sd_al (r + 4) = 12 := by
  rcases kd_5 h with h | h | h | h | h | h <;> subst h <;> decide
def rdy (b : Nat) (h : Nat → Nat) (p : Nat) : Nat := if h p = FARN then 4393 else if p = b then h p else h p + 1
def RM (r : Nat) (S : sd_St) (b : Nat) (h : Nat → Nat) : Prop := S.1 r 0 = nI b ∧ (∀ q, hb (S.1 r 1) q = !(h q == FARN)) ∧ ∀ p, p < 12 → S.1 (r + 1) p = nI (rdy b h p)
theorem RM_fr {r : Nat} {S S2 : sd_St} {b : Nat} {h : Nat → Nat} (hR : RM r S b h) (h1 : S2.1 r = S.1 r) (h2 : S2.1 (r + 1) = S.1 (r + 1)) : RM r S2 b h := by
  unfold RM at hR ⊢
  rw [h1, h2]
  exact hR
theorem m_begin {r : Nat} (hr : sd_kd r = 5) {b f : Nat} (hb : b < 12) (hf : f < 4392) (S : sd_St) : ∃ S2, f_X5_begin r (nI b) (nI f) S = some ((), S2) ∧ RM r S2 b (h0 b f) ∧ frm (fun a => a = r ∨ a = r + 1) S S2 := by
  have hal := al5 hr
  unfold f_X5_begin
  rw [sd_cl_ok (m_fill (by omega) _ S), sd_nm_eq, sd_st_ok (by omega) (sd_al_lt _), sd_nm_eq]
  refine ⟨_, rfl, ⟨?_, fun q => ?_, fun p hp => ?_⟩, ?_⟩
  · simp [rI, rA]
  · rw [rI]
    simp only [and_self, if_true]
    rw [hb_shl (by omega)]
    unfold h0
    by_cases c : q = b
    · subst c
      simp [FARN]
      omega
    · simp [c]
  · simp only [rI, rA]
    unfold rdy h0
    by_cases c : p = b
    · subst c
      have : ¬ f = FARN := by unfold FARN; omega
      simp [this]
    · simp [c, hp, hal.1]
      rfl
  · refine frm_trans (frm_trans (frm_trans (frm_A (c := fun a => a = r ∨ a = r + 1) (Or.inr rfl)) (frm_I (c := fun a => a = r ∨ a = r + 1) (Or.inl rfl)) (fun _ h => h) (fun _ h => h)) (frm_I (c := fun a => a = r ∨ a = r + 1) (Or.inr rfl)) (fun _ h => h) (fun _ h => h)) (frm_I (c := fun a => a = r ∨ a = r + 1) (Or.inl rfl)) (fun _ h => h) (fun _ h => h)
theorem m_pass_l {r d : Nat} (hr : sd_kd r = 5) {fresh : Int32} {t : Nat} : ∀ (m n p : Nat) (S : sd_St), p + m = 12 → m < n → f_X5_pass_l57 r d n (nI t) fresh (nI p) S = some ((), sd_A S (r + 1) (fun j => if p ≤ j ∧ j < 12 ∧ hb fresh j then nI (t + 1) else S.1 (r + 1) j)) := by
  have hal := al5 hr
  intro m
  induction m with
  | zero =>
    intro n p S hp hn
    obtain ⟨n, rfl⟩ : ∃ n', n = n' + 1 := ⟨n - 1, by omega⟩
    unfold f_X5_pass_l57
    rw [if_pos (show (12 : Int32) ≤ nI p from nI_le (a := 12) (by omega) (by omega))]
    have : sd_A S (r + 1) (fun j => if p ≤ j ∧ j < 12 ∧ hb fresh j then nI (t + 1) else S.1 (r + 1) j) = S := by
      unfold sd_A
      refine Prod.ext ?_ rfl
      funext a j
      by_cases h : a = r + 1
      · subst h
        simp
        omega
      · simp [h]
    rw [this]
  | succ m ih =>
    intro n p S hp hn
    obtain ⟨n, rfl⟩ : ∃ n', n = n' + 1 := ⟨n - 1, by omega⟩
    unfold f_X5_pass_l57
    rw [if_neg (show ¬ (12 : Int32) ≤ nI p from nI_ge (b := 12) (by omega) (by omega)), sd_cl_ok (m_has fresh (by omega) S)]
    unfold f_X5_pass_b84
    rw [nI_1, nI_1]
    cases c : hb fresh p with
    | true =>
      rw [if_neg (by decide), sd_st_ok (by omega) (sd_al_lt _), ih n (p + 1) _ (by omega) (by omega), sd_A_I]
      congr 4
      funext j
      rw [rI]
      by_cases h : j = p
      · subst h
        rw [if_neg (by omega), if_pos ⟨rfl, rfl⟩, if_pos ⟨by omega, by omega, c⟩]
      · by_cases h2 : p + 1 ≤ j ∧ j < 12 ∧ hb fresh j = true
        · rw [if_pos h2, if_pos ⟨by omega, h2.2⟩]
        · rw [if_neg h2, if_neg (fun z => h z.2), if_neg (fun z => h2 ⟨by omega, z.2⟩)]
    | false =>
      rw [if_pos (by decide), ih n (p + 1) _ (by omega) (by omega)]
      congr 4
      funext j
      by_cases h : j = p
      · subst h
        rw [if_neg (by omega), if_neg (fun z => by rw [c] at z; exact absurd z.2.2 (by decide))]
      · by_cases h2 : p + 1 ≤ j ∧ j < 12 ∧ hb fresh j = true
        · rw [if_pos h2, if_pos ⟨by omega, h2.2⟩]
        · rw [if_neg h2, if_neg (fun z => h2 ⟨by omega, z.2⟩)]
theorem rdy_le {b e t : Nat} {h : Nat → Nat} (ht : t < 4392) : rdy b h e ≤ t ↔ tellsB b h e t = true := by
  unfold rdy tellsB
  by_cases c : h e = FARN
  · rw [if_pos c, c]
    unfold FARN
    by_cases c2 : e = b
    · rw [if_pos c2]; simp; omega
    · rw [if_neg c2]; simp; omega
  · rw [if_neg c]
    by_cases c2 : e = b
    · rw [if_pos c2, if_pos c2]; simp
    · rw [if_neg c2, if_neg c2]; simp; omega
theorem rd_dis {r d : Nat} (hr : sd_kd r = 5) (hd : sd_kd d = 1) : r + 4 < d ∨ d + 4 < r := by
  rcases kd_5 hr with h | h | h | h | h | h <;> rcases kd_1 hd with g | g | g <;> omega
theorem m_pass {r d : Nat} (hr : sd_kd r = 5) (hd : sd_kd d = 1) {S : sd_St} {T : TW} (hw : wfT T) {L : List (Nat × Nat)} (hL : DR d S T L) {b f : Nat} {h : Nat → Nat} (hR : RM r S b h) (hh : hok T b f h) {i t e : Nat} (hi : L[i]? = some (t, e)) (ht : t < 4392) (he : e < tn T) :
    ∃ S2, f_X5_pass r d (nI i) S = some ((), S2) ∧ RM r S2 b (stp T b t e h) ∧ frm (fun a => a = r ∨ a = r + 1) S S2 := by
  have hal := al5 hr
  have hal1 := al1 hd
  have hdis := rd_dis hr hd
  have hn := hw.1
  obtain ⟨l0, l1, l2⟩ := hL
  obtain ⟨d1, d2, d3⟩ := l2 i t e hi
  obtain ⟨r1, r2, r3⟩ := hR
  have hil := (List.getElem?_eq_some_iff.mp hi).1
  unfold f_X5_pass
  rw [sd_ld_ok (by omega) (sd_al_lt _), sd_ld_ok (by omega) (sd_al_lt _), sd_nm_eq, d1]
  have hfr : ∀ q, hb (S.1 (d + 4) i &&& (S.1 r 1 ^^^ -1)) q = (h q == FARN && guestB T t e q) := by
    intro q
    rw [hb_and, hb_xor, d3 q, r2 q, hb_m1]
    by_cases hq : q < 32
    · simp [hq, Bool.and_comm]
    · have : guestB T t e q = false := by
        cases c : guestB T t e q with
        | false => rfl
        | true => exact absurd (wf_guest hw he c) (by omega)
      rw [this]; simp
  generalize S.1 (d + 4) i &&& (S.1 r 1 ^^^ -1) = fresh at hfr
  have hsame : (∀ q, hb fresh q = false) ∨ tellsB b h e t = false → stp T b t e h = h := by
    intro hz
    funext q
    unfold stp
    rcases hz with hz | hz
    · rw [← hfr q, hz q]; simp
    · rw [hz]; simp
  by_cases c0 : fresh = 0
  · rw [if_pos c0, hsame (Or.inl (fun q => by
      rcases Nat.lt_or_ge q 32 with hq | hq
      · exact hb_zero.mp c0 q hq
      · exact hb_ge _ hq))]
    exact ⟨S, rfl, ⟨r1, r2, r3⟩, frm_rfl⟩
  · rw [if_neg c0, sd_ld_ok (by omega) (sd_al_lt _), d2, sd_ld_ok (by omega) (sd_al_lt _), r3 e (by omega)]
    have hrl : rdy b h e < 2 ^ 31 := by
      unfold rdy
      rcases hh.2.2.2.1 e with g | g
      · rw [if_pos g]; omega
      · rw [if_neg (by unfold FARN; omega)]
        by_cases c : e = b
        · rw [if_pos c]; omega
        · rw [if_neg c]; omega
    cases ctl : tellsB b h e t with
    | false =>
      have : ¬ rdy b h e ≤ t := fun z => by rw [(rdy_le ht).mp z] at ctl; cases ctl
      rw [if_neg (fun z => this ((nI_leI hrl (by omega)).mp z)), hsame (Or.inr ctl)]
      exact ⟨S, rfl, ⟨r1, r2, r3⟩, frm_rfl⟩
    | true =>
      rw [if_pos (nI_le ((rdy_le ht).mpr ctl) (by omega)), sd_nm_eq, show (0 : Int32) = nI 0 from rfl, m_pass_l hr 12 sd_FU 0 _ rfl (by unfold sd_FU; omega)]
      refine ⟨_, rfl, ⟨?_, fun q => ?_, fun p hp => ?_⟩, ?_⟩
      · simp [rA, rI, r1]
      · rw [rA_cell (by omega), rI_same, hb_or, r2 q, hfr q]
        unfold stp
        rw [ctl]
        have htF : (t == FARN) = false := by unfold FARN; simp; omega
        cases c1 : h q == FARN with
        | true =>
          cases c2 : guestB T t e q with
          | true => simp [c1, c2, htF]
          | false => simp [c1, c2]
        | false => simp [c1]
      · rw [rA]
        simp only [if_true, Nat.zero_le, hp, true_and]
        rw [hfr p, rI]
        simp only [Nat.add_eq_left, Nat.one_ne_zero, false_and, if_false]
        rw [r3 p hp]
        unfold stp rdy
        rw [ctl]
        have htF : ¬ t = FARN := by unfold FARN; omega
        cases c1 : h p == FARN with
        | true =>
          have c1' : h p = FARN := by simpa using c1
          cases c2 : guestB T t e p with
          | true =>
            have hpb : ¬ p = b := by
              intro z
              rw [z, hh.2.2.1] at c1'
              have := hh.2.1
              unfold FARN at c1'
              omega
            simp [htF, hpb, c1', c2]
          | false => simp [c1', c2]
        | false =>
          have c1' : ¬ h p = FARN := by simpa using c1
          simp only [c1, Bool.true_and, Bool.false_and, cond_false, if_neg c1', Bool.false_eq_true, if_false]
      · exact frm_trans (frm_I (c := fun a => a = r ∨ a = r + 1) (Or.inl rfl)) (frm_A (c := fun a => a = r ∨ a = r + 1) (Or.inr rfl)) (fun _ h => h) (fun _ h => h)
theorem nI_s1lt {l t : Nat} (hl : l < 2 ^ 30) (ht : t < 2 ^ 30) : nI l - 1 < nI t ↔ l ≤ t := by
  by_cases h0 : l = 0
  · subst h0
    constructor
    · intro _; exact Nat.zero_le _
    · intro _
      show (-1 : Int32) < nI t
      exact nI_lt_neg1 (by omega)
  · rw [nI_s1 (by omega), nI_ltI (by omega) (by omega)]
    omega
/-- the walk through doors up to a date -/
theorem m_spread_l {r d : Nat} (hr : sd_kd r = 5) (hd : sd_kd d = 1) {T : TW} (hw : wfT T) {L : List (Nat × Nat)} (hev : ∀ t e, (t, e) ∈ L → t < 4392 ∧ e < tn T) {b f l : Nat} (hl : l ≤ 4392) : ∀ (m n i : Nat) (S : sd_St) (h : Nat → Nat), i + m = L.length → m < n → DR d S T L → RM r S b h → hok T b f h →
    ∃ S2, f_X5_spread_l9 r d n (nI l - 1) (nI i) S = some ((), S2) ∧ RM r S2 b (run T b ((L.drop i).takeWhile (fun ev => decide (ev.1 < l))) h) ∧ frm (fun a => a = r ∨ a = r + 1) S S2 := by
  have hal1 := al1 hd
  have hdis := rd_dis hr hd
  intro m
  induction m with
  | zero =>
    intro n i S h hi hn hL hR hh
    obtain ⟨n, rfl⟩ : ∃ n', n = n' + 1 := ⟨n - 1, by omega⟩
    have l1 := hL.2.1
    unfold f_X5_spread_l9
    rw [hL.1, if_pos (nI_le (by omega) (by omega)), List.drop_eq_nil_of_le (by omega)]
    exact ⟨S, rfl, hR, frm_rfl⟩
  | succ m ih =>
    intro n i S h hi hn hL hR hh
    obtain ⟨n, rfl⟩ : ∃ n', n = n' + 1 := ⟨n - 1, by omega⟩
    have l1 := hL.2.1
    have hil : i < L.length := by omega
    have hz : L[i]? = some L[i] := List.getElem?_eq_getElem hil
    have hdr : L.drop i = L[i] :: L.drop (i + 1) := List.drop_eq_getElem_cons hil
    have hmem := List.getElem_mem hil
    generalize L[i] = ev at hz hdr hmem
    obtain ⟨t, e⟩ := ev
    obtain ⟨g1, g2⟩ := hev t e hmem
    unfold f_X5_spread_l9
    rw [hL.1, if_neg (nI_ge hil (by omega)), sd_ld_ok (by omega) (sd_al_lt _), (hL.2.2 i t e hz).1, hdr]
    by_cases c : l ≤ t
    · rw [if_pos ((nI_s1lt (by omega) (by omega)).mpr c), List.takeWhile_cons_of_neg (by simpa using c)]
      exact ⟨S, rfl, hR, frm_rfl⟩
    · rw [if_neg (fun z => c ((nI_s1lt (by omega) (by omega)).mp z)), List.takeWhile_cons_of_pos (by simpa using c)]
      obtain ⟨S1, e1, e2, e3⟩ := m_pass hr hd hw hL hR hh hz g1 g2
      rw [sd_cl_ok e1, nI_1]
      obtain ⟨S2, k1, k2, k3⟩ := ih n (i + 1) S1 _ (by omega) (by omega) (DR_fr hL (by rw [e3.1 d (by omega)]) (fun a h1 h2 => e3.1 a (by omega))) e2 (hok_stp hw hh g1 g2)
      exact ⟨S2, k1, k2, frm_trans e3 k3 (fun _ h => h) (fun _ h => h)⟩
theorem EVw_in {T : TW} {L : List (Nat × Nat)} (h : EVw T L) : ∀ t e, (t, e) ∈ L → t < 4392 ∧ e < tn T := fun t e hm => ⟨free_lt ((h.2 t e).mp hm).2, ((h.2 t e).mp hm).1⟩
theorem m_spread {r d : Nat} (hr : sd_kd r = 5) (hd : sd_kd d = 1) {T : TW} (hw : wfT T) {L : List (Nat × Nat)} (hev : EVw T L) {b f l : Nat} (hb : b < tn T) (hf : f < 4392) (hl : l ≤ 4392) {S : sd_St} (hL : DR d S T L) :
    ∃ S2, f_X5_spread r d (nI b) (nI f) (nI l - 1) S = some ((), S2) ∧ RM r S2 b (hdt T b f l) ∧ frm (fun a => a = r ∨ a = r + 1) S S2 := by
  have hn := hw.1
  have hdis := rd_dis hr hd
  have hl1 : L.length < 20000 := by
    have := hL.2.1
    have := al1 hd
    omega
  obtain ⟨S1, e1, e2, e3⟩ := m_begin hr (b := b) (f := f) (by omega) hf S
  unfold f_X5_spread
  rw [sd_cl_ok e1]
  obtain ⟨S2, k1, k2, k3⟩ := m_spread_l hr hd hw (EVw_in hev) (b := b) (f := f) hl L.length sd_FU 0 S1 _ (by omega) (by unfold sd_FU; omega) (DR_fr hL (by rw [e3.1 d (by omega)]) (fun a h1 h2 => e3.1 a (by omega))) e2 (hok_0 hb hf)
  refine ⟨S2, k1, ?_, frm_trans e3 k3 (fun _ h => h) (fun _ h => h)⟩
  rw [List.drop_zero, takeWhile_filter hev.1, run_hd hev hf l hl] at k2
  exact k2
/-- when one has it, by the class -/
def hadI (h : Nat → Nat) (p : Nat) : Int32 := if h p = FARN then -1 else nI (h p)
theorem m_had {r : Nat} (hr : sd_kd r = 5) {T : TW} {b f : Nat} {h : Nat → Nat} {S : sd_St} (hR : RM r S b h) (hh : hok T b f h) {p : Nat} (hp : p < 12) (hb12 : b < 12) : f_X5_had r (nI p) S = some (hadI h p, S) := by
  have hal := al5 hr
  obtain ⟨r1, r2, r3⟩ := hR
  unfold f_X5_had hadI
  rw [sd_ld_ok (by omega) (sd_al_lt _), r3 p hp]
  unfold rdy
  by_cases c : h p = FARN
  · rw [if_pos c, if_pos (show nI 4393 = (4393 : Int32) from rfl), if_pos c]
  · have hv : h p < 4392 := by
      rcases hh.2.2.2.1 p with g | g
      · exact absurd g c
      · exact g
    rw [if_neg c, if_neg c]
    by_cases c2 : p = b
    · rw [if_pos c2, if_neg (show ¬ nI (h p) = (4393 : Int32) from fun z => by have := nI_inj (b := 4393) (by omega) (by decide) z; omega), r1, if_pos (by rw [c2]), sd_ld_ok (by omega) (sd_al_lt _), r3 p hp]
      unfold rdy
      rw [if_neg c, if_pos c2]
    · rw [if_neg c2, if_neg (show ¬ nI (h p + 1) = (4393 : Int32) from fun z => by have := nI_inj (b := 4393) (by omega) (by decide) z; omega), r1, if_neg (fun z => c2 (nI_inj (by omega) (by omega) z)), sd_ld_ok (by omega) (sd_al_lt _), r3 p hp]
      unfold rdy
      rw [if_neg c, if_neg c2, nI_pred]
theorem m_hadBy {r : Nat} (hr : sd_kd r = 5) {T : TW} {b f : Nat} {h : Nat → Nat} {S : sd_St} (hR : RM r S b h) (hh : hok T b f h) {p t : Nat} (hp : p < 12) (hb12 : b < 12) (ht : t < 4392) : f_X5_hadBy r (nI p) (nI t) S = some (if h p ≤ t then 1 else 0, S) := by
  unfold f_X5_hadBy
  rw [sd_cl_ok (m_had hr hR hh hp hb12)]
  unfold hadI
  by_cases c : h p = FARN
  · rw [if_pos c, if_pos rfl, if_neg (by unfold FARN at c; omega)]
  · have hv : h p < 4392 := by
      rcases hh.2.2.2.1 p with g | g
      · exact absurd g c
      · exact g
    rw [if_neg c, if_neg (nI_neg1 (by omega))]
    by_cases c2 : h p ≤ t
    · rw [if_neg (nI_nlt (by omega) (by omega)), if_pos c2]
    · rw [if_pos (nI_lt (by omega) (by omega)), if_neg c2]
