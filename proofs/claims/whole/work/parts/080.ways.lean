/-! WAYS -/
theorem cnt_lt {P Q : Nat → Bool} : ∀ (l : List Nat), (∀ x, x ∈ l → P x = true → Q x = true) → (∃ x, x ∈ l ∧ P x = false ∧ Q x = true) → l.countP P < l.countP Q := by
  intro l
  induction l with
  | nil => intro _ h; obtain ⟨x, hx, -⟩ := h; cases hx
  | cons a l ih =>
    intro h1 h2
    have hm : l.countP P ≤ l.countP Q := List.countP_mono_left (fun x hx hp => h1 x (List.mem_cons_of_mem _ hx) hp)
    rw [List.countP_cons, List.countP_cons]
    obtain ⟨x, hx, hp, hq⟩ := h2
    rcases List.mem_cons.mp hx with rfl | hx
    · rw [hp, hq]
      simp
      omega
    · have := ih (fun x hx hp => h1 x (List.mem_cons_of_mem _ hx) hp) ⟨x, hx, hp, hq⟩
      have h3 := h1 a List.mem_cons_self
      cases c : P a with
      | false => simp; omega
      | true => rw [h3 c]; simp; omega
def rkW (T : TW) (b : Nat) (h : Nat → Nat) (p : Nat) : Nat := if p = b then 0 else (List.range (tn T)).countP (fun q => !(q == b) && decide (h q < h p)) + 1
theorem rkW_le {T : TW} (hw : wfT T) {b : Nat} {h : Nat → Nat} (p : Nat) : rkW T b h p ≤ 13 := by
  have h12 := hw.1
  unfold rkW
  by_cases c : p = b
  · rw [if_pos c]; omega
  · rw [if_neg c]
    have := List.countP_le_length (p := fun q => !(q == b) && decide (h q < h p)) (l := List.range (tn T))
    rw [List.length_range] at this
    omega
theorem rkW_lt {T : TW} {b : Nat} {h : Nat → Nat} {p e : Nat} (hp : p ≠ b) (he : e < tn T) (ht : tellsB b h e (h p) = true) : rkW T b h e < rkW T b h p := by
  unfold rkW
  rw [if_neg hp]
  by_cases c : e = b
  · rw [if_pos c]; omega
  · rw [if_neg c]
    unfold tellsB at ht
    rw [if_neg c] at ht
    have hlt : h e < h p := by simpa using ht
    have := cnt_lt (P := fun q => !(q == b) && decide (h q < h e)) (Q := fun q => !(q == b) && decide (h q < h p)) (List.range (tn T)) (fun x _ hx => by
      simp at hx ⊢
      exact ⟨hx.1, by omega⟩) ⟨e, List.mem_range.mpr he, by simp, by simp [c, hlt]⟩
    omega
theorem fold_mod (g : Nat → Nat) : ∀ (l : List Nat) (a : Nat), a < MDN → l.foldl (fun a e => (a + g e) % MDN) a = (a + (l.map g).sum) % MDN := by
  intro l
  induction l with
  | nil => intro a ha; simp [Nat.mod_eq_of_lt ha]
  | cons x l ih =>
    intro a ha
    rw [List.foldl_cons, ih _ (Nat.mod_lt _ (by decide)), List.map_cons, List.sum_cons, Nat.mod_add_mod]
    congr 1
    omega
theorem sum_le {P : Nat → Bool} {g : Nat → Nat} {M : Nat} (hg : ∀ q, g q < M) : ∀ e, (((List.range e).filter P).map g).sum ≤ e * M := by
  intro e
  induction e with
  | zero => simp
  | succ e ih =>
    have hz := hg e
    rw [List.range_succ, List.filter_append, List.map_append, List.sum_append, List.filter_cons, List.filter_nil, Nat.succ_mul]
    by_cases c : P e = true
    · rw [if_pos c]; simp only [List.map_cons, List.map_nil, List.sum_cons, List.sum_nil]; omega
    · rw [if_neg c]; simp only [List.map_nil, List.sum_nil]; omega
def lNw (S : sd_St) (v : Nat) : Option (Int64 × sd_St) := some (lN v, S)
theorem n_ways_l {S : sd_St} {T : TW} (hw : wfT T) (hT : RTg (S.1 136) T) {b f : Nat} {h : Nat → Nat} {Z : Z3} (hh : hok T b f h) (hz : zsp T b h Z) (hnn : tlN T b h) (hB : BR S T (h, Z.1)) (hZ : ∀ q, Z.2.2 q < MDN) {p : Nat} (hp : p < tn T) (hpb : p ≠ b) (hpF : h p ≠ FARN) {qR : Int32 → Int32 → sd_St → Option (Int64 × sd_St)} (hR : ∀ e, e < tn T → tellsB b h e (h p) = true → qR (nI e) (nI b) S = some (lN (Z.2.2 e), S)) : ∀ (m n e : Nat), e + m = tn T → m < n → f_X12_waysOf_l26 qR n (nI p) (nI b) (lN ((((List.range e).filter (fun e => freeB T e (h p) && tlB T b h (h p) e p)).map Z.2.2).sum)) (nI e) S = some (lN (Z.2.2 p), S) := by
  have h12 := hw.1
  have hbn := hh.1
  have hv : h p < 4392 := by
    rcases hh.2.2.2.1 p with g | g
    · exact absurd g hpF
    · exact g
  have hgone : goneB T p (h p) = false := by
    cases hA : tels T b h (h p) p with
    | nil => exact absurd hA (hnn p hpb hpF)
    | cons x l =>
      have hin := tels_in (T := T) (b := b) (h := h) (l := h p) (q := p) (e := x) (by rw [hA]; exact List.mem_cons_self)
      have := hin.2.2.1
      unfold guestB at this
      rw [Bool.and_eq_true] at this
      simpa using this.2
  have hsum : ∀ e, e ≤ 12 → (((List.range e).filter (fun e => freeB T e (h p) && tlB T b h (h p) e p)).map Z.2.2).sum ≤ 12 * 1000000007 := fun e he => Nat.le_trans (sum_le (M := 1000000007) hZ e) (Nat.mul_le_mul_right _ he)
  intro m
  induction m with
  | zero =>
    intro n e he hn
    obtain ⟨n, rfl⟩ : ∃ n', n = n' + 1 := ⟨n - 1, by omega⟩
    have hs := hsum e (by omega)
    unfold f_X12_waysOf_l26
    rw [sd_cl_ok (n_people hT), if_pos (nI_le (by omega) (by omega))]
    have e1 := (hz.2.2.2.2 p hpb hpF).2.2
    rw [fold_mod _ _ _ (by decide), Nat.zero_add] at e1
    unfold tels at e1
    rw [show e = tn T by omega] at hs ⊢
    rw [show (1000000007 : Int64) = lN MDN from rfl]
    show some (lN _ - lN _ / lN MDN * lN MDN, S) = _
    rw [pk_lRem (by omega) (by decide) (by decide), e1]
  | succ m ih =>
    intro n e he hn
    obtain ⟨n, rfl⟩ : ∃ n', n = n' + 1 := ⟨n - 1, by omega⟩
    have hen : e < tn T := by omega
    have ih := ih n (e + 1) (by omega) (by omega)
    rw [List.range_succ, List.filter_append, List.map_append, List.sum_append, List.filter_cons, List.filter_nil] at ih
    have hcase : (freeB T e (h p) && tlB T b h (h p) e p) = ((tc T e).testBit p && (tellsB b h e (h p) && freeB T e (h p))) := by
      unfold tlB guestB
      rw [hgone]
      cases freeB T e (h p) <;> cases tellsB b h e (h p) <;> cases (tc T e).testBit p <;> rfl
    rw [hcase] at ih
    obtain ⟨q1, -⟩ := hB p hp
    dsimp only at q1
    have hno : ((tc T e).testBit p && (tellsB b h e (h p) && freeB T e (h p))) = false → f_X12_waysOf_b72 (f_X12_waysOf_l26 qR n) qR (nI p) (nI b) (nI e) (lN ((((List.range e).filter (fun e => freeB T e (h p) && tlB T b h (h p) e p)).map Z.2.2).sum)) S = some (lN (Z.2.2 p), S) := by
      intro hf
      rw [hf, if_neg (by decide), List.map_nil, List.sum_nil, Nat.add_zero] at ih
      unfold f_X12_waysOf_b72 f_X12_waysOf_b73
      rw [sd_nm_eq, show (0 : Int64) = lN 0 from rfl, lN_add, Nat.add_zero, nI_1]
      exact ih
    unfold f_X12_waysOf_l26
    rw [sd_cl_ok (n_people hT), if_neg (nI_ge hen (by omega)), sd_cl_ok (n_calls hT hw (by omega) hen)]
    by_cases c1 : (tc T e).testBit p = true
    · rw [c1, if_neg (by decide), sd_ld_ok (by rw [al140]; omega) (sd_al_lt _), q1, sd_cl_ok (n_tells hT hw (fun p hp => (hB p hp).1) hh.2.2.2.1 hen hbn hv)]
      cases c2 : (tellsB b h e (h p) && freeB T e (h p)) with
      | true =>
        rw [if_neg (by decide)]
        have c3 := (Bool.and_eq_true _ _ ▸ c2).1
        rw [sd_cl_ok (hR e hen c3)]
        rw [c1, c2, if_pos (by decide)] at ih
        unfold f_X12_waysOf_b73
        rw [sd_nm_eq, lN_add, nI_1]
        simp only [List.map_cons, List.map_nil, List.sum_cons, List.sum_nil, Nat.add_zero] at ih
        exact ih
      | false =>
        rw [if_pos (by decide)]
        exact hno (by rw [c2, Bool.and_false])
    · have c1' : (tc T e).testBit p = false := by simpa using c1
      rw [c1', if_pos (by decide)]
      exact hno (by rw [c1', Bool.false_and])
theorem n_waysOf {S : sd_St} {T : TW} (hw : wfT T) (hT : RTg (S.1 136) T) {b f : Nat} {h : Nat → Nat} {Z : Z3} (hh : hok T b f h) (hz : zsp T b h Z) (hnn : tlN T b h) (hB : BR S T (h, Z.1)) (hZ : ∀ q, Z.2.2 q < MDN) : ∀ (d p : Nat), p < tn T → rkW T b h p < d → f_X12_waysOf d (nI p) (nI b) S = some (lN (Z.2.2 p), S) := by
  have h12 := hw.1
  have hbn := hh.1
  intro d
  induction d with
  | zero => intro p _ h; omega
  | succ d ih =>
    intro p hp hr
    show f_X12_waysOf_e (f_X12_waysOf d) (nI p) (nI b) S = _
    unfold f_X12_waysOf_e
    by_cases c : p = b
    · rw [if_pos (by rw [c]), c, hz.2.2.1]; rfl
    · obtain ⟨q1, -⟩ := hB p hp
      dsimp only at q1
      rw [if_neg (fun z => c (nI_inj (by omega) (by omega) z)), sd_ld_ok (by rw [al140]; omega) (sd_al_lt _), q1]
      have hv := hh.2.2.2.1 p
      by_cases c1 : h p = FARN
      · rw [if_pos (show nI (h p) = (1000000 : Int32) by rw [c1]; rfl), (hz.2.2.2.1 p c c1).2.2]; rfl
      · rw [if_neg (show ¬ nI (h p) = (1000000 : Int32) from fun z => c1 (nI_inj (b := FARN) (by rcases hv with g | g <;> omega) (by decide) z))]
        exact n_ways_l hw hT hh hz hnn hB hZ hp c c1 (fun e he ht => ih e he (by have := rkW_lt (T := T) c he ht; omega)) (tn T) sd_FU 0 (by omega) (by unfold sd_FU; omega)
theorem zsp_lt {T : TW} {b : Nat} {h : Nat → Nat} {Z : Z3} (hz : zsp T b h Z) (q : Nat) : Z.2.2 q < MDN := by
  by_cases c : q = b
  · rw [c, hz.2.2.1]; decide
  · by_cases c1 : h q = FARN
    · rw [(hz.2.2.2.1 q c c1).2.2]; decide
    · rw [(hz.2.2.2.2 q c c1).2.2, fold_mod _ _ _ (by decide)]
      exact Nat.mod_lt _ (by decide)
theorem ag_ways (x1 x2 : Int32) : AG (f_X11_ways x1 x2) (f_X12_ways x1 x2) := by
  intro σ hw
  have hw1 := hw.1
  have h4 := hw1.2.2.2.2.1
  have h12 := hw1.1
  rcases ix_or x1 (wf31 hw1).2 with ⟨s, hs, rfl⟩ | c1
  · rcases ix_or x2 (wf31 hw1).1 with ⟨p, hp, rfl⟩ | c2
    · refine ⟨nI ((zF σ.1 s).2.2 p), σ, hw, fun S h => ?_, fun S h => ?_⟩
      · obtain ⟨S1, e1, e2, e3, e4⟩ := IC_up hw h
        refine ⟨S1, ?_, e3, e4⟩
        have hal := al5 (kd_r (s := s) (by omega))
        unfold f_X11_ways
        rw [sd_cl_ok (m_isSecret (IC_T h) hw1 hs), if_neg (by decide), sd_cl_ok (m_isPerson (IC_T h) hw1 hp), if_neg (by decide), sd_cl_ok e1, rum_ix (by omega), sd_ld_ok (by omega) (sd_al_lt _), ((e2.2.2 s hs).2 p (by omega)).2.2]
      · obtain ⟨t1, t2⟩ := IR_thr h
        obtain ⟨S1, e1, e2, e3, e4⟩ := IR_find hw t1 hs
        refine ⟨S1, ?_, e3, frm_trans t2 e4 (fun _ h => h) (fun _ h => h)⟩
        have key := n_waysOf hw1 (IR_T e3) (hok_F hw1 hs) (zF_sp hw1 hs) (tlN_F hw1 hs) e2 (zsp_lt (zF_sp hw1 hs)) 14 p hp (by have := rkW_le hw1 (b := tg σ.1 s) (h := hF σ.1 s) p; omega)
        unfold f_X12_ways
        rw [sd_nm_eq, sd_cl_ok (n_areThere (IR_T t1) hw1 hs hp), if_neg (by decide), sd_cl_ok e1, sd_cl_ok (n_beginner (IR_T e3) hw1 hs), sd_cl_ok key, lN_i]
    · refine AG_none hw (v := -1) (fun S h => ?_) (fun S h => ?_)
      · unfold f_X11_ways
        rw [sd_cl_ok (m_isSecret (IC_T h) hw1 hs), if_neg (by decide), sd_cl_ok (m_isPerson_n (IC_T h) c2), if_pos rfl]
      · unfold f_X12_ways
        rw [sd_nm_eq, sd_cl_ok (n_areThere_n (IR_T (IR_thr h).1) hw1 (Or.inr c2)), if_pos rfl]
  · refine AG_none hw (v := -1) (fun S h => ?_) (fun S h => ?_)
    · unfold f_X11_ways
      rw [sd_cl_ok (m_isSecret_n (IC_T h) c1), if_pos rfl]
    · unfold f_X12_ways
      rw [sd_nm_eq, sd_cl_ok (n_areThere_n (IR_T (IR_thr h).1) hw1 (Or.inl c1)), if_pos rfl]
