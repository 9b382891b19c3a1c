/-! cut -/
theorem mxf_zero {N : Nat} {s t : Nat → Prop} {E : Nat → Nat → Prop} {k : Nat} (hs : ∀ e, e < N → ¬ s e) (h : MXF N s t E k) : k = 0 := by
  obtain ⟨⟨u, c, h1, h2⟩, -⟩ := h
  have this : wo N u c ≤ cn N (fun _ => false && !false) := gf_le h1 (F := fun _ => false) (B := fun _ => false) (fun e z1 z2 => absurd z2 (hs e z1)) (fun d e _ _ z => (by cases z)) (fun d _ z => (by cases z))
  have h0 : cn N (fun _ => false && !false) = 0 := by
    unfold cn
    rw [List.filter_eq_nil_iff.mpr (fun a _ => by simp)]
    rfl
  omega
theorem mxf_cong {N : Nat} {s t s' t' : Nat → Prop} {E E' : Nat → Nat → Prop} {k : Nat} (hs : ∀ e, e < N → (s e ↔ s' e)) (ht : ∀ e, e < N → (t e ↔ t' e)) (hE : ∀ d e, d < N → e < N → (E d e ↔ E' d e)) (h : MXF N s t E k) : MXF N s' t' E' k := by
  obtain ⟨⟨u, c, ⟨g1, g2, g3, g4, g5⟩, h2⟩, F, B, f1, f2, f3, f4⟩ := h
  refine ⟨⟨u, c, ⟨g1, fun e z1 z2 => (hs e (g1 e z1)).mp (g2 e z1 z2), fun e d z1 z2 => ⟨(g3 e d z1 z2).1, (hE d e (g1 d (g3 e d z1 z2).1) (g1 e z1)).mp (g3 e d z1 z2).2⟩, g4, fun e z1 z2 => (ht e (g1 e z1)).mp (g5 e z1 z2)⟩, h2⟩, F, B, fun e z1 z2 => f1 e z1 ((hs e z1).mpr z2), fun d e z1 z2 z3 z4 => f2 d e z1 z2 z3 ((hE d e z1 z2).mpr z4), fun d z1 z2 z3 => f3 d z1 z2 ((ht d z1).mpr z3), f4⟩
/-- what is sorted and kept up to a date is a beginning -/
theorem flt_take {B : Nat} : ∀ (L : List (Nat × Nat)), L.Pairwise (fun a b => a.1 ≤ b.1) → ∃ n, L.filter (fun ev => decide (ev.1 ≤ B)) = L.take n ∧ n ≤ L.length ∧ (∀ x ∈ L.take n, x.1 ≤ B) ∧ ∀ x ∈ L.drop n, B < x.1 := by
  intro L
  induction L with
  | nil => intro _; exact ⟨0, rfl, Nat.le_refl _, fun x z => (by cases z), fun x z => (by cases z)⟩
  | cons a l ih =>
    intro hp
    obtain ⟨p1, p2⟩ := List.pairwise_cons.mp hp
    by_cases c : a.1 ≤ B
    · obtain ⟨n, q1, q2, q3, q4⟩ := ih p2
      refine ⟨n + 1, ?_, ?_, ?_, ?_⟩
      · rw [List.filter_cons, if_pos (by simpa using c), q1, List.take_succ_cons]
      · rw [List.length_cons]; omega
      · rw [List.take_succ_cons]
        intro x hx
        rcases List.mem_cons.mp hx with h | h
        · rw [h]; exact c
        · exact q3 x h
      · rw [List.drop_succ_cons]; exact q4
    · refine ⟨0, ?_, Nat.zero_le _, fun x z => (by cases z), fun x hx => ?_⟩
      · rw [List.take_zero]
        refine List.filter_eq_nil_iff.mpr (fun x hx => ?_)
        rcases List.mem_cons.mp hx with h | h
        · rw [h]; simpa using c
        · have := p1 x h
          simp; omega
      · rw [List.drop_zero] at hx
        rcases List.mem_cons.mp hx with h | h
        · rw [h]; omega
        · have := p1 x h; omega
theorem dok_pw {T : TW} {L : List (Nat × Nat)} (h : DOK T L) : L.Pairwise (fun a b => a.1 ≤ b.1) := by
  refine List.pairwise_iff_getElem.mpr (fun i j hi hj hij => ?_)
  have := h.2.2 i j hij hj
  unfold dD at this
  rw [List.getD_eq_getElem?_getD, List.getD_eq_getElem?_getD, List.getElem?_eq_getElem hi, List.getElem?_eq_getElem hj] at this
  exact this
theorem get_take {L : List (Nat × Nat)} {n i : Nat} (hi : i < n) : (L.take n).getD i (0, 0) = L.getD i (0, 0) := by
  rw [List.getD_eq_getElem?_getD, List.getD_eq_getElem?_getD, List.getElem?_take, if_pos hi]
/-- the doors up to a date, side by side -/
theorem cut_pre {T : TW} (hw : wfT T) (B : Nat) : ∃ M n, (evs T 4392).filter (fun ev => decide (ev.1 ≤ B)) = M ∧ M.length = n ∧ n ≤ (evs T 4392).length ∧ (∀ i, i < n → dD M i = dD (evs T 4392) i ∧ dH M i = dH (evs T 4392) i ∧ dD M i ≤ B ∧ dH M i < tn T) ∧ (∀ i, n ≤ i → i < (evs T 4392).length → B < dD (evs T 4392) i) := by
  have hk := dok_T hw
  have hm : ∀ t p, (t, p) ∈ evs T 4392 → (p < tn T ∧ freeB T p t = true) ∧ t < 4392 := fun t p => evs_mem.mp
  generalize evs T 4392 = L at *
  obtain ⟨n, q1, q2, q3, q4⟩ := flt_take (B := B) L (dok_pw hk)
  refine ⟨L.take n, n, q1, ?_, q2, fun i hi => ?_, fun i h1 h2 => ?_⟩
  · rw [List.length_take]; omega
  · have hi2 : i < (L.take n).length := by rw [List.length_take]; omega
    have hmem : (L.take n).getD i (0, 0) ∈ L.take n := by
      rw [List.getD_eq_getElem?_getD, List.getElem?_eq_getElem hi2]
      exact List.getElem_mem hi2
    refine ⟨?_, ?_, q3 _ hmem, ?_⟩
    · unfold dD; rw [get_take hi]
    · unfold dH; rw [get_take hi]
    · have := List.mem_of_mem_take hmem
      exact (hm _ _ this).1.1
  · unfold dD
    rw [List.getD_eq_getElem?_getD, List.getElem?_eq_getElem h2]
    refine q4 _ (List.mem_of_getElem? (i := i - n) ?_)
    rw [List.getElem?_drop, show n + (i - n) = i by omega, List.getElem?_eq_getElem h2]
    rfl
theorem ag_cut (x1 x2 x3 : Int32) : AG (f_X11_cut x1 x2 x3) (f_X12_cut x1 x2 x3) := by
  intro σ hw
  have hw1 := hw.1
  have h12 := hw1.1
  have h4 := hw1.2.2.2.2.1
  rcases ix_or x1 (wf31 hw1).2 with ⟨s, hs, rfl⟩ | c1
  · rcases ix_or x2 (wf31 hw1).1 with ⟨p, hp, rfl⟩ | c2
    · rcases ix_or x3 (show 4392 < 2 ^ 31 by decide) with ⟨B, hB, rfl⟩ | c3
      · have hgx := hw1.2.2.2.2.2.1 s hs
        have hg12 : tg σ.1 s < 12 := by omega
        have hx4 : tx σ.1 s < 4392 := by omega
        have hal26 : sd_al 26 = 4 ∧ sd_al 27 = 4 := by decide
        by_cases cb : p = tg σ.1 s
        · refine AG_none hw (v := -1) (fun S h => ?_) (fun S h => ?_)
          · obtain ⟨v1, v2⟩ := (IC_T h).2.2.2.2.2.1 s hs
            unfold f_X11_cut
            rw [sd_cl_ok (m_isSecret (IC_T h) hw1 hs), if_neg (by decide), sd_cl_ok (m_isPerson (IC_T h) hw1 hp), if_neg (by decide), sd_cl_ok (m_isDate hB), if_neg (by decide), sd_ld_ok (by rw [hal26.1]; omega) (sd_al_lt _), if_pos (by rw [cb]; exact v1.symm)]
          · unfold f_X12_cut
            rw [sd_nm_eq, sd_cl_ok (n_areThere (IR_T (IR_thr h).1) hw1 hs hp), if_neg (by decide), sd_cl_ok (n_isDate hB), if_neg (by decide), sd_cl_ok (n_beginner (IR_T (IR_thr h).1) hw1 hs), if_pos (by rw [cb])]
        · -- both seek
          have hk := dok_T hw1
          obtain ⟨M, n, m1, m2, m3, m4, m5⟩ := cut_pre hw1 B
          have hne : ¬ nI p = nI (tg σ.1 s) := fun z => cb (nI_inj (by omega) (by omega) z)
          have hX : ∀ S, IC S σ → ∃ k hi S1, f_X11_cut (nI s) (nI p) (nI B) S = some (nI k, S1) ∧ IC S1 σ ∧ frm loC S S1 ∧ MXF hi (grS (evs σ.1 4392) (tg σ.1 s) (tx σ.1 s)) (grT σ.1 (evs σ.1 4392) p) (grE σ.1 (evs σ.1 4392)) k ∧ hi ≤ (evs σ.1 4392).length ∧ (∀ d, hi ≤ d → d < (evs σ.1 4392).length → B < dD (evs σ.1 4392) d) ∧ (∀ d, d < hi → tx σ.1 s ≤ dD (evs σ.1 4392) d → dD (evs σ.1 4392) d ≤ B) := by
            intro S h
            obtain ⟨v1, v2⟩ := (IC_T h).2.2.2.2.2.1 s hs
            obtain ⟨A, a1, a2, a3, a4⟩ := IC_up hw h
            obtain ⟨w1, w2⟩ := (IC_T a3).2.2.2.2.2.1 s hs
            obtain ⟨k, hi, S2, y1, y2, y3, y4, y5, y6⟩ := m_fewS hk hg12 hx4 (show p < 12 by omega) hB a2.2.1
            refine ⟨k, hi, S2, ?_, IC_fr a3 (fun a ha => y6.1 a (by unfold keepC at ha; omega)) (CC_fr hw1 (Or.inr a2) (by rw [y6.1 0 (by omega)]) (fun a g1 g2 => y6.1 a (by omega))), frm_trans a4 y6 (fun _ h => h) (fun a ha => by unfold loC; omega), y2, y3, y4, y5⟩
            unfold f_X11_cut
            rw [sd_cl_ok (m_isSecret (IC_T h) hw1 hs), if_neg (by decide), sd_cl_ok (m_isPerson (IC_T h) hw1 hp), if_neg (by decide), sd_cl_ok (m_isDate hB), if_neg (by decide), sd_ld_ok (by rw [hal26.1]; omega) (sd_al_lt _), if_neg (by rw [show S.1 26 s = nI (tg σ.1 s) from v1]; exact hne), sd_cl_ok a1, sd_ld_ok (by rw [hal26.1]; omega) (sd_al_lt _), sd_ld_ok (by rw [hal26.2]; omega) (sd_al_lt _), show A.1 26 s = nI (tg σ.1 s) from w1, show A.1 27 s = nI (tx σ.1 s) from w2, sd_cl_ok y1]
          have hR : ∀ S, IR S σ → ∃ k S1, f_X12_cut (nI s) (nI p) (nI B) S = some (nI k, S1) ∧ IR S1 σ ∧ frm hiC S S1 ∧ MXF n (grS M (tg σ.1 s) (tx σ.1 s)) (grT σ.1 M p) (grE σ.1 M) k := by
            intro S h
            obtain ⟨t1, t2⟩ := IR_thr h
            obtain ⟨A, a1, a2, a3, a4⟩ := n_findEvents hw1 hw.2.1 hB (IR_T t1)
            rw [m1] at a2
            have hEV : EVs A σ.1 M := by
              have hL := hk.1
              refine ⟨by rw [a3.1 136 (by decide)]; exact IR_T t1, a2, by omega, fun i hi => ?_, fun i j hij hj => ?_⟩
              · obtain ⟨q1, q2, q3, q4⟩ := m4 i (by omega)
                exact ⟨by omega, q4⟩
              · rw [(m4 i (by omega)).1, (m4 j (by omega)).1]
                exact hk.2.2 i j hij (by omega)
            obtain ⟨k, S2, y1, y2, y3⟩ := n_cutS hw1 hs hg12 hx4 (show p < 12 by omega) hEV
            rw [m2] at y2
            refine ⟨k, S2, ?_, ?_, ?_, y2⟩
            · unfold f_X12_cut
              rw [sd_nm_eq, sd_cl_ok (n_areThere (IR_T t1) hw1 hs hp), if_neg (by decide), sd_cl_ok (n_isDate hB), if_neg (by decide), sd_cl_ok (n_beginner (IR_T t1) hw1 hs), if_neg hne, sd_cl_ok a1]
              exact y1
            · exact IR_fr t1 (by rw [y3.1.1 136 (by omega), a3.1 136 (by decide)]) (by rw [y3.1.1 154 (by omega), a3.1 154 (by decide)]) (by rw [y3.2 2 (by decide), a4 2 (by decide) (by decide)]) (by rw [y3.1.1 131 (by omega), a3.1 131 (by decide)]) (by rw [y3.1.2 135 (by omega), a3.2 135 (by decide)])
            · exact frm_trans t2 (frm_trans (e := hiC) a3 y3.1 (fun a ha => by unfold hiC; omega) (fun a ha => by unfold hiC; omega)) (fun _ h => h) (fun _ h => h)
          by_cases cf : tx σ.1 s ≤ B
          · obtain ⟨k0, hk0⟩ : ∃ k0, ∀ k, MXF n (grS M (tg σ.1 s) (tx σ.1 s)) (grT σ.1 M p) (grE σ.1 M) k → k = k0 := by
              by_cases hex : ∃ k, MXF n (grS M (tg σ.1 s) (tx σ.1 s)) (grT σ.1 M p) (grE σ.1 M) k
              · obtain ⟨k, hk'⟩ := hex
                exact ⟨k, fun k' h' => mxf_uniq h' hk'⟩
              · exact ⟨0, fun k h' => absurd ⟨k, h'⟩ hex⟩
            refine ⟨nI k0, σ, hw, fun S h => ?_, fun S h => ?_⟩
            · obtain ⟨k, hi, S1, e1, e2, e3, e4, e5, e6, e7⟩ := hX S h
              have hin : hi = n := by
                rcases Nat.lt_trichotomy hi n with q | q | q
                · have := e6 hi (Nat.le_refl _) (by omega)
                  obtain ⟨z1, -, z3, -⟩ := m4 hi q
                  omega
                · exact q
                · have q1 := m5 n (Nat.le_refl _) (by omega)
                  have q2 := e7 n q (by omega)
                  omega
              rw [hin] at e4
              rw [hk0 k (mxf_cong (fun e he => ?_) (fun e he => ?_) (fun d e hd he => ?_) e4)] at e1
              · exact ⟨S1, e1, e2, e3⟩
              · unfold grS; rw [(m4 e he).1, (m4 e he).2.1]
              · unfold grT; rw [(m4 e he).1, (m4 e he).2.1]
              · unfold grE; rw [(m4 e he).1, (m4 e he).2.1, (m4 d hd).1, (m4 d hd).2.1]
            · obtain ⟨k, S1, e1, e2, e3, e4⟩ := hR S h
              rw [hk0 k e4] at e1
              exact ⟨S1, e1, e2, e3⟩
          · refine ⟨nI 0, σ, hw, fun S h => ?_, fun S h => ?_⟩
            · obtain ⟨k, hi, S1, e1, e2, e3, e4, e5, e6, e7⟩ := hX S h
              have hk0 : k = 0 := mxf_zero (fun e he z => by have := e7 e he z.2; have := z.2; omega) e4
              rw [hk0] at e1
              exact ⟨S1, e1, e2, e3⟩
            · obtain ⟨k, S1, e1, e2, e3, e4⟩ := hR S h
              have hk0 : k = 0 := mxf_zero (fun e he z => by have := (m4 e he).2.2.1; have := z.2; omega) e4
              rw [hk0] at e1
              exact ⟨S1, e1, e2, e3⟩
      · refine AG_none hw (v := -1) (fun S h => ?_) (fun S h => ?_)
        · unfold f_X11_cut
          rw [sd_cl_ok (m_isSecret (IC_T h) hw1 hs), if_neg (by decide), sd_cl_ok (m_isPerson (IC_T h) hw1 hp), if_neg (by decide), sd_cl_ok (m_isDate_n c3), if_pos rfl]
        · unfold f_X12_cut
          rw [sd_nm_eq, sd_cl_ok (n_areThere (IR_T (IR_thr h).1) hw1 hs hp), if_neg (by decide), sd_cl_ok (n_isDate_n c3), if_pos rfl]
    · refine AG_none hw (v := -1) (fun S h => ?_) (fun S h => ?_)
      · unfold f_X11_cut
        rw [sd_cl_ok (m_isSecret (IC_T h) hw1 hs), if_neg (by decide), sd_cl_ok (m_isPerson_n (IC_T h) c2), if_pos rfl]
      · unfold f_X12_cut
        rw [sd_nm_eq, sd_cl_ok (n_areThere_n (IR_T (IR_thr h).1) hw1 (Or.inr c2)), if_pos rfl]
  · refine AG_none hw (v := -1) (fun S h => ?_) (fun S h => ?_)
    · unfold f_X11_cut
      rw [sd_cl_ok (m_isSecret_n (IC_T h) c1), if_pos rfl]
    · unfold f_X12_cut
      rw [sd_nm_eq, sd_cl_ok (n_areThere_n (IR_T (IR_thr h).1) hw1 (Or.inl c1)), if_pos rfl]
