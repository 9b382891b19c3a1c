/-! THE WALK THROUGH TWO ROWS OF DOORS -/
def mrg (l : Nat) : List (Nat × Nat) → List (Nat × Nat) → List (Nat × Nat)
  | [], M => M.filter (fun ev => decide (ev.1 < l))
  | a :: L, M => if a.1 < l then M.filter (fun ev => decide (ev.1 < a.1 + 1)) ++ a :: mrg l L (M.filter (fun ev => !decide (ev.1 < a.1 + 1))) else M.filter (fun ev => decide (ev.1 < l))
abbrev srt (L : List (Nat × Nat)) : Prop := L.Pairwise (fun a b => a.1 ≤ b.1)
theorem mrg_mem {l : Nat} {x : Nat × Nat} : ∀ (L M : List (Nat × Nat)), srt L → (x ∈ mrg l L M ↔ (x ∈ L ∨ x ∈ M) ∧ x.1 < l) := by
  intro L
  induction L with
  | nil =>
    intro M _
    unfold mrg
    rw [List.mem_filter]
    simp
  | cons a L ih =>
    intro M hs
    obtain ⟨h1, h2⟩ := List.pairwise_cons.mp hs
    unfold mrg
    by_cases c : a.1 < l
    · rw [if_pos c, List.mem_append, List.mem_filter, List.mem_cons, ih _ h2, List.mem_filter, List.mem_cons]
      constructor
      · rintro (⟨q1, q2⟩ | q | ⟨q | ⟨q, -⟩, q2⟩)
        · have : x.1 < a.1 + 1 := by simpa using q2
          exact ⟨Or.inr q1, by omega⟩
        · rw [q]; exact ⟨Or.inl (Or.inl rfl), c⟩
        · exact ⟨Or.inl (Or.inr q), q2⟩
        · exact ⟨Or.inr q, q2⟩
      · rintro ⟨(q | q) | q, q2⟩
        · exact Or.inr (Or.inl q)
        · exact Or.inr (Or.inr ⟨Or.inl q, q2⟩)
        · by_cases cx : x.1 < a.1 + 1
          · exact Or.inl ⟨q, by simpa using cx⟩
          · exact Or.inr (Or.inr ⟨Or.inr ⟨q, by simpa using cx⟩, q2⟩)
    · rw [if_neg c, List.mem_filter, List.mem_cons]
      constructor
      · rintro ⟨q1, q2⟩
        exact ⟨Or.inr q1, by simpa using q2⟩
      · rintro ⟨(q | q) | q, q2⟩
        · rw [q] at q2; exact absurd q2 c
        · have := h1 x q; omega
        · exact ⟨q, by simpa using q2⟩
theorem mrg_srt {l : Nat} : ∀ (L M : List (Nat × Nat)), srt L → srt M → srt (mrg l L M) := by
  intro L
  induction L with
  | nil =>
    intro M _ hm
    unfold mrg
    exact hm.filter _
  | cons a L ih =>
    intro M hs hm
    obtain ⟨h1, h2⟩ := List.pairwise_cons.mp hs
    unfold mrg
    by_cases c : a.1 < l
    · rw [if_pos c]
      have hrec := ih (M.filter (fun ev => !decide (ev.1 < a.1 + 1))) h2 (hm.filter _)
      refine List.pairwise_append.mpr ⟨hm.filter _, List.pairwise_cons.mpr ⟨fun x hx => ?_, hrec⟩, fun x hx y hy => ?_⟩
      · obtain ⟨q, -⟩ := (mrg_mem L _ h2).mp hx
        rcases q with q | q
        · exact h1 x q
        · have := (List.mem_filter.mp q).2
          have : ¬ x.1 < a.1 + 1 := by simpa using this
          omega
      · have q1 := (List.mem_filter.mp hx).2
        have q2 : x.1 < a.1 + 1 := by simpa using q1
        rcases List.mem_cons.mp hy with e | e
        · rw [e]; omega
        · obtain ⟨q, -⟩ := (mrg_mem L _ h2).mp e
          rcases q with q | q
          · have := h1 y q; omega
          · have := (List.mem_filter.mp q).2
            have : ¬ y.1 < a.1 + 1 := by simpa using this
            omega
    · rw [if_neg c]
      exact hm.filter _
theorem run_cons (T : TW) (b t e : Nat) (L : List (Nat × Nat)) (h : Nat → Nat) : run T b ((t, e) :: L) h = run T b L (stp T b t e h) := rfl
theorem run_app (T : TW) (b : Nat) (L M : List (Nat × Nat)) (h : Nat → Nat) : run T b (L ++ M) h = run T b M (run T b L h) := by
  unfold run
  rw [List.foldl_append]
theorem hok_run {T : TW} (hw : wfT T) {b f : Nat} : ∀ (L : List (Nat × Nat)) (h : Nat → Nat), (∀ t e, (t, e) ∈ L → t < 4392 ∧ e < tn T) → hok T b f h → hok T b f (run T b L h) := by
  intro L
  induction L with
  | nil => intro h _ hh; exact hh
  | cons a L ih =>
    intro h hev hh
    obtain ⟨t, e⟩ := a
    rw [run_cons]
    obtain ⟨h1, h2⟩ := hev t e List.mem_cons_self
    exact ih _ (fun t e hm => hev t e (List.mem_cons_of_mem _ hm)) (hok_stp hw hh h1 h2)
theorem drop_at {L : List (Nat × Nat)} {i : Nat} (hi : i < L.length) : ∃ t e, L[i]? = some (t, e) ∧ L.drop i = (t, e) :: L.drop (i + 1) ∧ (t, e) ∈ L := by
  obtain ⟨⟨t, e⟩, h⟩ : ∃ x, L[i]? = some x := ⟨L[i], List.getElem?_eq_getElem hi⟩
  refine ⟨t, e, h, ?_, List.mem_of_getElem? h⟩
  rw [List.drop_eq_getElem_cons hi]
  congr 1
  exact Option.some.inj ((List.getElem?_eq_getElem hi).symm.trans h)
theorem srt_drop {L : List (Nat × Nat)} (h : srt L) (i : Nat) : srt (L.drop i) := h.sublist (List.drop_sublist i L)
theorem fil_nil {L : List (Nat × Nat)} {a : Nat × Nat} (hs : srt (a :: L)) {l : Nat} (h : ¬ a.1 < l) : (a :: L).filter (fun ev => decide (ev.1 < l)) = [] := by
  rw [List.filter_eq_nil_iff]
  intro x hx
  have : a.1 ≤ x.1 := by
    rcases List.mem_cons.mp hx with e | e
    · rw [e]; exact Nat.le_refl _
    · exact (List.pairwise_cons.mp hs).1 x e
  have : ¬ x.1 < l := by omega
  simpa using this
theorem fil_self {L : List (Nat × Nat)} {a : Nat × Nat} (hs : srt (a :: L)) {l : Nat} (h : ¬ a.1 < l) : (a :: L).filter (fun ev => !decide (ev.1 < l)) = a :: L := by
  rw [List.filter_eq_self]
  intro x hx
  have : a.1 ≤ x.1 := by
    rcases List.mem_cons.mp hx with e | e
    · rw [e]; exact Nat.le_refl _
    · exact (List.pairwise_cons.mp hs).1 x e
  have : ¬ x.1 < l := by omega
  simpa using this
theorem DR_lt {d : Nat} (hd : sd_kd d = 1) {S : sd_St} {T : TW} {L : List (Nat × Nat)} (h : DR d S T L) : L.length ≤ 288 := by
  have := al1 hd
  have := h.2.1
  omega
theorem m_both86 {r d1 d2 : Nat} (hr : sd_kd r = 5) (h2 : sd_kd d2 = 1) {T : TW} (hw : wfT T) {M : List (Nat × Nat)} (hev : ∀ t e, (t, e) ∈ M → t < 4392 ∧ e < tn T) (hs : srt M) {b f l : Nat} (hl : l ≤ 4392) : ∀ (k n m : Nat) (S : sd_St) (h : Nat → Nat), m + k = M.length → k < n → DR d2 S T M → RM r S b h → hok T b f h →
    ∃ S2, f_X5_spreadThroughBoth_l86 r d1 d2 n (nI l - 1) (nI m) S = some ((), S2) ∧ RM r S2 b (run T b ((M.drop m).filter (fun ev => decide (ev.1 < l))) h) ∧ frm (fun a => a = r ∨ a = r + 1) S S2 := by
  have hdis := rd_dis hr h2
  have hal := al1 h2
  intro k
  induction k with
  | zero =>
    intro n m S h hm hn hD hR hh
    obtain ⟨n, rfl⟩ : ∃ n', n = n' + 1 := ⟨n - 1, by omega⟩
    have hlen := DR_lt h2 hD
    refine ⟨S, ?_, ?_, frm_rfl⟩
    · unfold f_X5_spreadThroughBoth_l86
      rw [hD.1, if_pos (nI_le (by omega) (by omega))]
    · rw [List.drop_eq_nil_of_le (by omega)]
      exact hR
  | succ k ih =>
    intro n m S h hm hn hD hR hh
    obtain ⟨n, rfl⟩ : ∃ n', n = n' + 1 := ⟨n - 1, by omega⟩
    have hlen := DR_lt h2 hD
    obtain ⟨t, e, g1, g2, g3⟩ := drop_at (L := M) (i := m) (by omega)
    obtain ⟨a1, a2, a3⟩ := hD.2.2 m t e g1
    obtain ⟨b1, b2⟩ := hev t e g3
    have hsd := srt_drop hs m
    rw [g2] at hsd
    have hmal := hD.2.1
    unfold f_X5_spreadThroughBoth_l86
    rw [hD.1, if_neg (nI_ge (by omega) (by omega)), sd_ld_ok (by omega) (sd_al_lt _), a1, g2]
    by_cases c : l ≤ t
    · rw [if_pos ((nI_s1lt (by omega) (by omega)).mpr c), fil_nil hsd (by show ¬ t < l; omega)]
      exact ⟨S, rfl, hR, frm_rfl⟩
    · rw [if_neg (fun z => c ((nI_s1lt (by omega) (by omega)).mp z))]
      obtain ⟨S1, e1, e2, e3⟩ := m_pass hr h2 hw hD hR hh g1 b1 b2
      obtain ⟨S2, f1, f2, f3⟩ := ih n (m + 1) S1 (stp T b t e h) (by omega) (by omega) (DR_fr hD (by rw [e3.1 d2 (by omega)]) (fun a q1 q2 => e3.1 a (by omega))) e2 (hok_stp hw hh b1 b2)
      refine ⟨S2, ?_, ?_, frm_trans e3 f3 (fun _ h => h) (fun _ h => h)⟩
      · rw [sd_cl_ok e1, nI_1]
        exact f1
      · rw [List.filter_cons, if_pos (by simpa using (show t < l by omega)), run_cons]
        exact f2
theorem m_both34 {r d1 d2 : Nat} (hr : sd_kd r = 5) (h1 : sd_kd d1 = 1) (h2 : sd_kd d2 = 1) {T : TW} (hw : wfT T) {L M : List (Nat × Nat)} (hevL : ∀ t e, (t, e) ∈ L → t < 4392 ∧ e < tn T) (hev : ∀ t e, (t, e) ∈ M → t < 4392 ∧ e < tn T) (hs : srt M) {b f i t0 e0 : Nat} (hi : L[i]? = some (t0, e0)) {x5 : Int32} (q13 : Int32 → Int32 → Int32 → sd_St → Option (Unit × sd_St)) : ∀ (k n m : Nat) (S : sd_St) (h : Nat → Nat), m + k = M.length → k < n → DR d1 S T L → DR d2 S T M → RM r S b h → hok T b f h →
    ∃ S2 m2, f_X5_spreadThroughBoth_l34 q13 r d1 d2 n x5 (nI m) (nI i) S = q13 x5 (nI m2) (nI (i + 1)) S2 ∧ m2 ≤ M.length ∧ M.drop m2 = (M.drop m).filter (fun ev => !decide (ev.1 < t0 + 1)) ∧ RM r S2 b (run T b ((M.drop m).filter (fun ev => decide (ev.1 < t0 + 1)) ++ [(t0, e0)]) h) ∧ frm (fun a => a = r ∨ a = r + 1) S S2 := by
  have hdis := rd_dis hr h2
  have hdis1 := rd_dis hr h1
  have hal := al1 h2
  have hal1 := al1 h1
  obtain ⟨c1, c2⟩ := hevL t0 e0 (List.mem_of_getElem? hi)
  have hend : ∀ (m : Nat) (S : sd_St) (h : Nat → Nat), DR d1 S T L → RM r S b h → hok T b f h → ∃ S2, f_X5_spreadThroughBoth_b73 q13 r d1 d2 x5 (nI m) (nI i) S = q13 x5 (nI m) (nI (i + 1)) S2 ∧ RM r S2 b (run T b [(t0, e0)] h) ∧ frm (fun a => a = r ∨ a = r + 1) S S2 := by
    intro m S h hD hR hh
    obtain ⟨S1, e1, e2, e3⟩ := m_pass hr h1 hw hD hR hh hi c1 c2
    refine ⟨S1, ?_, e2, e3⟩
    unfold f_X5_spreadThroughBoth_b73
    rw [sd_cl_ok e1, nI_1]
  intro k
  induction k with
  | zero =>
    intro n m S h hm hn hD1 hD hR hh
    obtain ⟨n, rfl⟩ : ∃ n', n = n' + 1 := ⟨n - 1, by omega⟩
    have hlen := DR_lt h2 hD
    obtain ⟨S1, e1, e2, e3⟩ := hend m S h hD1 hR hh
    refine ⟨S1, m, ?_, by omega, ?_, ?_, e3⟩
    · unfold f_X5_spreadThroughBoth_l34
      rw [hD.1, if_pos (nI_le (by omega) (by omega))]
      exact e1
    · rw [List.drop_eq_nil_of_le (by omega)]; rfl
    · rw [List.drop_eq_nil_of_le (by omega)]
      exact e2
  | succ k ih =>
    intro n m S h hm hn hD1 hD hR hh
    obtain ⟨n, rfl⟩ : ∃ n', n = n' + 1 := ⟨n - 1, by omega⟩
    have hlen := DR_lt h2 hD
    have hlen1 := DR_lt h1 hD1
    obtain ⟨t, e, g1, g2, g3⟩ := drop_at (L := M) (i := m) (by omega)
    obtain ⟨a1, a2, a3⟩ := hD.2.2 m t e g1
    obtain ⟨p1, -, -⟩ := hD1.2.2 i t0 e0 hi
    obtain ⟨b1, b2⟩ := hev t e g3
    have hsd := srt_drop hs m
    rw [g2] at hsd
    have hmal := hD.2.1
    have hmal1 := hD1.2.1
    have hil : i < L.length := (List.getElem?_eq_some_iff.mp hi).1
    unfold f_X5_spreadThroughBoth_l34
    rw [hD.1, if_neg (nI_ge (by omega) (by omega)), sd_ld_ok (by omega) (sd_al_lt _), sd_ld_ok (by omega) (sd_al_lt _), a1, p1, g2]
    by_cases c : t0 < t
    · rw [if_pos (nI_lt c (by omega)), fil_nil hsd (by show ¬ t < t0 + 1; omega), fil_self hsd (by show ¬ t < t0 + 1; omega)]
      obtain ⟨S1, e1, e2, e3⟩ := hend m S h hD1 hR hh
      exact ⟨S1, m, e1, by omega, g2, e2, e3⟩
    · rw [if_neg (nI_nlt (by omega) (by omega))]
      obtain ⟨S1, e1, e2, e3⟩ := m_pass hr h2 hw hD hR hh g1 b1 b2
      obtain ⟨S2, m2, f1, f2, f3, f4, f5⟩ := ih n (m + 1) S1 (stp T b t e h) (by omega) (by omega) (DR_fr hD1 (by rw [e3.1 d1 (by omega)]) (fun a q1 q2 => e3.1 a (by omega))) (DR_fr hD (by rw [e3.1 d2 (by omega)]) (fun a q1 q2 => e3.1 a (by omega))) e2 (hok_stp hw hh b1 b2)
      refine ⟨S2, m2, ?_, f2, ?_, ?_, frm_trans e3 f5 (fun _ h => h) (fun _ h => h)⟩
      · rw [sd_cl_ok e1, nI_1]
        exact f1
      · rw [f3, List.filter_cons, if_neg (by simp; omega)]
      · rw [List.filter_cons, if_pos (by simp; omega), List.cons_append, run_cons]
        exact f4
theorem m_both13 {r d1 d2 : Nat} (hr : sd_kd r = 5) (h1 : sd_kd d1 = 1) (h2 : sd_kd d2 = 1) {T : TW} (hw : wfT T) {L M : List (Nat × Nat)} (hevL : ∀ t e, (t, e) ∈ L → t < 4392 ∧ e < tn T) (hev : ∀ t e, (t, e) ∈ M → t < 4392 ∧ e < tn T) (hsL : srt L) (hs : srt M) {b f l : Nat} (hl : l ≤ 4392) : ∀ (k n i m : Nat) (S : sd_St) (h : Nat → Nat), i + k = L.length → k < n → m ≤ M.length → DR d1 S T L → DR d2 S T M → RM r S b h → hok T b f h →
    ∃ S2, f_X5_spreadThroughBoth_l13 r d1 d2 n (nI l - 1) (nI m) (nI i) S = some ((), S2) ∧ RM r S2 b (run T b (mrg l (L.drop i) (M.drop m)) h) ∧ frm (fun a => a = r ∨ a = r + 1) S S2 := by
  have hdis := rd_dis hr h2
  have hdis1 := rd_dis hr h1
  have hal := al1 h2
  have hal1 := al1 h1
  intro k
  induction k with
  | zero =>
    intro n i m S h hi hn hm hD1 hD hR hh
    obtain ⟨n, rfl⟩ : ∃ n', n = n' + 1 := ⟨n - 1, by omega⟩
    have hlen := DR_lt h2 hD
    have hlen1 := DR_lt h1 hD1
    obtain ⟨S2, e1, e2, e3⟩ := m_both86 (d1 := d1) hr h2 hw hev hs hl (M.length - m) sd_FU m S h (by omega) (by unfold sd_FU; omega) hD hR hh
    refine ⟨S2, ?_, ?_, e3⟩
    · unfold f_X5_spreadThroughBoth_l13
      rw [hD1.1, if_pos (nI_le (by omega) (by omega))]
      exact e1
    · rw [List.drop_eq_nil_of_le (show L.length ≤ i by omega)]
      unfold mrg
      exact e2
  | succ k ih =>
    intro n i m S h hi hn hm hD1 hD hR hh
    obtain ⟨n, rfl⟩ : ∃ n', n = n' + 1 := ⟨n - 1, by omega⟩
    have hlen := DR_lt h2 hD
    have hlen1 := DR_lt h1 hD1
    obtain ⟨t, e, g1, g2, g3⟩ := drop_at (L := L) (i := i) (by omega)
    obtain ⟨p1, -, -⟩ := hD1.2.2 i t e g1
    obtain ⟨b1, b2⟩ := hevL t e g3
    have hmal1 := hD1.2.1
    unfold f_X5_spreadThroughBoth_l13
    rw [hD1.1, if_neg (nI_ge (by omega) (by omega)), sd_ld_ok (by omega) (sd_al_lt _), p1, g2]
    unfold mrg
    by_cases c : l ≤ t
    · rw [if_pos ((nI_s1lt (by omega) (by omega)).mpr c), if_neg (show ¬ t < l by omega)]
      exact m_both86 hr h2 hw hev hs hl (M.length - m) sd_FU m S h (by omega) (by unfold sd_FU; omega) hD hR hh
    · rw [if_neg (fun z => c ((nI_s1lt (by omega) (by omega)).mp z)), if_pos (show t < l by omega)]
      obtain ⟨S1, m2, f1, f2, f3, f4, f5⟩ := m_both34 (x5 := nI l - 1) hr h1 h2 hw hevL hev hs g1 (f_X5_spreadThroughBoth_l13 r d1 d2 n) (M.length - m) sd_FU m S h (by omega) (by unfold sd_FU; omega) hD1 hD hR hh
      obtain ⟨S2, k1, k2, k3⟩ := ih n (i + 1) m2 S1 _ (by omega) (by omega) f2 (DR_fr hD1 (by rw [f5.1 d1 (by omega)]) (fun a q1 q2 => f5.1 a (by omega))) (DR_fr hD (by rw [f5.1 d2 (by omega)]) (fun a q1 q2 => f5.1 a (by omega))) f4 (hok_run hw _ _ (fun t' e' hm' => by
        rcases List.mem_append.mp hm' with q | q
        · exact hev t' e' (List.mem_of_mem_drop (List.mem_filter.mp q).1)
        · have hq := List.mem_singleton.mp q
          cases hq
          exact ⟨b1, b2⟩) hh)
      refine ⟨S2, ?_, ?_, frm_trans f5 k3 (fun _ h => h) (fun _ h => h)⟩
      · rw [f1]; exact k1
      · rw [f3, ← run_app, List.append_assoc] at k2
        exact k2
/-- the walk through both: the town with the birthday that is in the second row -/
theorem m_both {r d1 d2 : Nat} (hr : sd_kd r = 5) (h1 : sd_kd d1 = 1) (h2 : sd_kd d2 = 1) {T : TW} (hw : wfT T) {L M : List (Nat × Nat)} (hmem : ∀ t p, ((t, p) ∈ L ∨ (t, p) ∈ M) ↔ p < tn T ∧ freeB T p t = true) (hsL : srt L) (hs : srt M) {b f l : Nat} (hb : b < tn T) (hf : f < 4392) (hl : l ≤ 4392) {S : sd_St} (hD1 : DR d1 S T L) (hD : DR d2 S T M) :
    ∃ S2, f_X5_spreadThroughBoth r d1 d2 (nI b) (nI f) (nI l - 1) S = some ((), S2) ∧ RM r S2 b (hdt T b f l) ∧ frm (fun a => a = r ∨ a = r + 1) S S2 := by
  have h12 := hw.1
  have hdis := rd_dis hr h2
  have hdis1 := rd_dis hr h1
  have hlen1 := DR_lt h1 hD1
  have hevL : ∀ t e, (t, e) ∈ L → t < 4392 ∧ e < tn T := fun t e hm => by
    obtain ⟨q1, q2⟩ := (hmem t e).mp (Or.inl hm)
    exact ⟨free_lt q2, q1⟩
  have hev : ∀ t e, (t, e) ∈ M → t < 4392 ∧ e < tn T := fun t e hm => by
    obtain ⟨q1, q2⟩ := (hmem t e).mp (Or.inr hm)
    exact ⟨free_lt q2, q1⟩
  obtain ⟨S1, e1, e2, e3⟩ := m_begin hr (show b < 12 by omega) hf S
  obtain ⟨S2, k1, k2, k3⟩ := m_both13 hr h1 h2 hw hevL hev hsL hs hl L.length sd_FU 0 0 S1 (h0 b f) (by omega) (by unfold sd_FU; omega) (Nat.zero_le _) (DR_fr hD1 (by rw [e3.1 d1 (by omega)]) (fun a q1 q2 => e3.1 a (by omega))) (DR_fr hD (by rw [e3.1 d2 (by omega)]) (fun a q1 q2 => e3.1 a (by omega))) e2 (hok_0 hb hf)
  refine ⟨S2, ?_, ?_, frm_trans e3 k3 (fun _ h => h) (fun _ h => h)⟩
  · unfold f_X5_spreadThroughBoth
    rw [sd_cl_ok e1]
    exact k1
  · rw [List.drop_zero, List.drop_zero, run_hdx hl (mrg_srt L M hsL hs) (fun t p => by rw [mrg_mem L M hsL, hmem]) hf] at k2
    exact k2
