/-! THE REFERENCE LAYS A WAY -/
theorem dv1 {a : Nat} (h : a < 288) : nI (2 * a + 1) / (2 : Int32) = nI a := by rw [show (2 : Int32) = nI 2 from rfl, nI_div (by omega) (by omega) (by omega), show (2 * a + 1) / 2 = a by omega]
theorem dv0 {a : Nat} (h : a < 288) : nI (2 * a) / (2 : Int32) = nI a := by rw [show (2 : Int32) = nI 2 from rfl, nI_div (by omega) (by omega) (by omega), show (2 * a) / 2 = a by omega]
theorem rmO {a : Nat} (h : a < 288) : sd_rem (nI (2 * a + 1)) (2 : Int32) = 1 := by rw [show (2 : Int32) = nI 2 from rfl, nI_rem (by omega) (by omega) (by omega), show (2 * a + 1) % 2 = 1 by omega]; rfl
theorem rmE {a : Nat} (h : a < 288) : sd_rem (nI (2 * a)) (2 : Int32) = 0 := by rw [show (2 : Int32) = nI 2 from rfl, nI_rem (by omega) (by omega) (by omega), show (2 * a) % 2 = 0 by omega]; rfl
theorem n_lay_b {x v n : Nat} (hx : x < 288) (hv : v < 288) {S : sd_St} (h148 : S.1 148 (2 * x + 1) = nI (2 * v)) : f_X12_laysWay_l2 (n + 1) (nI (2 * x + 1)) S = if v = x then f_X12_laysWay_l2 n (nI (2 * v)) (sd_I S 150 x 1) else f_X12_laysWay_l2 n (nI (2 * v)) S := by
  have hal := al143
  show (if nI (2 * x + 1) = (-2 : Int32) then _ else _) = _
  rw [if_neg (nI_neg2 (by omega)), sd_ld_ok (by rw [hal.2.2.2.2.2.1]; omega) (sd_al_lt _), sd_nm_eq, h148, dv1 hx, rmO hx, if_pos rfl, nI_s1 (by omega), show 2 * x + 1 - 1 = 2 * x by omega]
  by_cases c : v = x
  · rw [if_pos (by rw [c]), if_pos c, sd_st_ok (by rw [hal.2.2.2.2.2.2.2.1]; omega) (sd_al_lt _)]
    rfl
  · rw [if_neg (fun z => c (by have := nI_inj (by omega) (by omega) z; omega)), if_neg c]
    unfold f_X12_laysWay_b45 f_X12_laysWay_b69 f_X12_laysWay_b112
    rw [rmO hx, if_neg (by decide), if_neg (by decide)]
theorem n_lay_f {v n : Nat} (hv : v < 288) {p : Option Nat} (hp : ∀ x, p = some x → x < 288) {S : sd_St} (h148 : S.1 148 (2 * v) = mF p) : ∃ S1, f_X12_laysWay_l2 (n + 1) (nI (2 * v)) S = f_X12_laysWay_l2 n (mF p) S1 ∧ (∀ e, S1.1 150 e = if p = some v ∧ e = v then 0 else S.1 150 e) ∧ (∀ e, S1.1 151 e = if p ≠ some v ∧ e = v then sI p else S.1 151 e) ∧ (∀ e, S1.1 152 e = if p = some e ∧ e ≠ v then nI v else S.1 152 e) ∧ frm (fun a => a = 150 ∨ a = 151 ∨ a = 152) S S1 := by
  have hal := al143
  have hnar0 : vp_nar .boolean (0 : Int32) = 0 := by decide
  have pre : ∀ X, f_X12_laysWay_b45 (f_X12_laysWay_l2 n) (nI (2 * v)) (mF p) (nI v) S = X → f_X12_laysWay_l2 (n + 1) (nI (2 * v)) S = X := by
    intro X hX
    show (if nI (2 * v) = (-2 : Int32) then _ else _) = _
    rw [if_neg (nI_neg2 (by omega)), sd_ld_ok (by rw [hal.2.2.2.2.2.1]; omega) (sd_al_lt _), sd_nm_eq, h148, dv0 hv, rmE hv, if_neg (by decide)]
    exact hX
  cases p with
  | none =>
    obtain ⟨A, hA⟩ : ∃ A, A = sd_I S 151 v (-2) := ⟨_, rfl⟩
    refine ⟨A, pre _ ?_, fun e => ?_, fun e => ?_, fun e => ?_, ?_⟩
    · unfold f_X12_laysWay_b45 f_X12_laysWay_b69 f_X12_laysWay_b95 f_X12_laysWay_b112
      rw [rmE hv, if_pos rfl, if_neg (show ¬ mF none = nI (2 * v) + 1 from fun z => nI_neg2 (a := 2 * v + 1) (by omega) (by rw [← nI_1]; exact z.symm)), if_pos rfl, if_pos (show mF none = -2 from rfl), sd_st_ok (by rw [hal.2.2.2.2.2.2.2.2.1]; omega) (sd_al_lt _), if_pos (show mF none = -2 from rfl), ← hA]
    · rw [if_neg (fun z => (by cases z.1)), hA, rI_cell (by decide)]
    · rw [hA]
      by_cases ce : e = v
      · rw [if_pos ⟨fun z => (by cases z), ce⟩, ce, rI_same]; rfl
      · rw [if_neg (fun z => ce z.2), rI_oth ce]
    · rw [if_neg (fun z => (by cases z.1)), hA, rI_cell (by decide)]
    · rw [hA]; exact frm_I (Or.inr (Or.inl rfl))
  | some x =>
    have hx := hp x rfl
    by_cases c : x = v
    · subst c
      obtain ⟨A, hA⟩ : ∃ A, A = sd_I S 150 x 0 := ⟨_, rfl⟩
      refine ⟨A, pre _ ?_, fun e => ?_, fun e => ?_, fun e => ?_, ?_⟩
      · unfold f_X12_laysWay_b45 f_X12_laysWay_b112
        rw [rmE hv, if_pos rfl, if_pos (show mF (some x) = nI (2 * x) + 1 from (nI_1 (2 * x)).symm), sd_st_ok (by rw [hal.2.2.2.2.2.2.2.1]; omega) (sd_al_lt _), hnar0, ← hA]
      · rw [hA]
        by_cases ce : e = x
        · rw [if_pos ⟨rfl, ce⟩, ce, rI_same]
        · rw [if_neg (fun z => ce z.2), rI_oth ce]
      · rw [if_neg (fun z => z.1 rfl), hA, rI_cell (by decide)]
      · rw [if_neg (fun z => by cases z.1; exact z.2 rfl), hA, rI_cell (by decide)]
      · rw [hA]; exact frm_I (Or.inl rfl)
    · obtain ⟨A1, hA1⟩ : ∃ A, A = sd_I S 151 v (nI x) := ⟨_, rfl⟩
      obtain ⟨A2, hA2⟩ : ∃ A, A = sd_I A1 152 x (nI v) := ⟨_, rfl⟩
      refine ⟨A2, pre _ ?_, fun e => ?_, fun e => ?_, fun e => ?_, ?_⟩
      · unfold f_X12_laysWay_b45 f_X12_laysWay_b69 f_X12_laysWay_b95 f_X12_laysWay_b112
        rw [rmE hv, if_pos rfl, if_neg (show ¬ mF (some x) = nI (2 * v) + 1 from fun z => c (by rw [nI_1] at z; have z : nI (2 * x + 1) = nI (2 * v + 1) := z; have := nI_inj (by omega) (by omega) z; omega)), if_pos rfl, if_neg (show ¬ mF (some x) = -2 from nI_neg2 (by omega)), show mF (some x) / (2 : Int32) = nI x from dv1 hx, sd_st_ok (by rw [hal.2.2.2.2.2.2.2.2.1]; omega) (sd_al_lt _), if_neg (show ¬ mF (some x) = -2 from nI_neg2 (by omega)), ← hA1, sd_st_ok (by rw [hal.2.2.2.2.2.2.2.2.2]; omega) (sd_al_lt _), ← hA2]
      · rw [if_neg (fun z => c (Option.some.inj z.1)), hA2, rI_cell (by decide), hA1, rI_cell (by decide)]
      · rw [hA2, rI_cell (by decide), hA1]
        by_cases ce : e = v
        · rw [if_pos ⟨fun z => c (Option.some.inj z), ce⟩, ce, rI_same]; rfl
        · rw [if_neg (fun z => ce z.2), rI_oth ce]
      · rw [hA2]
        by_cases ce : e = x
        · rw [if_pos ⟨by rw [ce], by rw [ce]; exact c⟩, ce, rI_same]
        · rw [if_neg (fun z => ce (Option.some.inj z.1).symm), rI_oth ce, hA1, rI_cell (by decide)]
      · have f1 : frm (fun a => a = 150 ∨ a = 151 ∨ a = 152) S A1 := by rw [hA1]; exact frm_I (Or.inr (Or.inl rfl))
        have f2 : frm (fun a => a = 150 ∨ a = 151 ∨ a = 152) A1 A2 := by rw [hA2]; exact frm_I (Or.inr (Or.inr rfl))
        exact frm_trans f1 f2 (fun _ h => h) (fun _ h => h)
theorem n_lay_s {s : Nat → Prop} {E : Nat → Nat → Prop} {u : Nat → Bool} {c : Nat → Option Nat} {N : Nat} (h288 : N ≤ 288) {Q : List Nat} {tF : Nat → Option Nat} {tB : Nat → Nat} (h : SR N s E u c Q tF tB) {S : sd_St} (hf : ∀ d, d < N → 2 * d ∈ Q → S.1 148 (2 * d) = mF (tF d)) (hbk : ∀ d, d < N → 2 * d + 1 ∈ Q → S.1 148 (2 * d + 1) = nI (2 * tB d)) {i x n : Nat} (hix : Q[i]? = some (2 * x + 1)) : ∃ S1, f_X12_laysWay_l2 (n + 2) (nI (2 * x + 1)) S = f_X12_laysWay_l2 n (mF (tF (tB x))) S1 ∧ (∀ e, S1.1 150 e = if tF (tB x) = some (tB x) ∧ e = tB x then 0 else if tB x = x ∧ e = x then 1 else S.1 150 e) ∧ (∀ e, S1.1 151 e = if tF (tB x) ≠ some (tB x) ∧ e = tB x then sI (tF (tB x)) else S.1 151 e) ∧ (∀ e, S1.1 152 e = if tF (tB x) = some e ∧ e ≠ tB x then nI (tB x) else S.1 152 e) ∧ frm (fun a => a = 150 ∨ a = 151 ∨ a = 152) S S1 := by
  have hxm := List.mem_of_getElem? hix
  have hx2 := sr_lt h hxm
  obtain ⟨-, j, j1, j2, j3⟩ := h.2.2 i x hix
  have hvm := List.mem_of_getElem? j2
  have hv2 := sr_lt h hvm
  have e1 := hbk x (by omega) hxm
  have e2 := hf (tB x) (by omega) hvm
  have hlt : ∀ x', tF (tB x) = some x' → x' < 288 := by
    intro x' hx'
    rcases (h.2.1 j (tB x) j2).2 with ⟨q, -⟩ | ⟨x2, j2', q, -, q3, -⟩
    · rw [hx'] at q; cases q
    · rw [hx'] at q
      cases q
      have := sr_lt h (List.mem_of_getElem? q3)
      omega
  obtain ⟨v, hv⟩ : ∃ v, v = tB x := ⟨_, rfl⟩
  rw [← hv] at e1 e2 hlt hv2 ⊢
  have st1 := n_lay_b (n := n + 1) (x := x) (v := v) (by omega) (by omega) (S := S) e1
  by_cases cx : v = x
  · rw [if_pos cx] at st1
    obtain ⟨S1, a1, a2, a3, a4, a5⟩ := n_lay_f (n := n) (v := v) (by omega) hlt (S := sd_I S 150 x 1) (by rw [rI_cell (by decide)]; exact e2)
    refine ⟨S1, st1.trans a1, fun e => ?_, fun e => by rw [a3, rI_cell (by decide)], fun e => by rw [a4, rI_cell (by decide)], frm_trans (frm_I (c := fun a => a = 150 ∨ a = 151 ∨ a = 152) (Or.inl rfl)) a5 (fun _ h => h) (fun _ h => h)⟩
    rw [a2]
    by_cases c1 : tF v = some v ∧ e = v
    · rw [if_pos c1, if_pos c1]
    · rw [if_neg c1, if_neg c1]
      by_cases ce : e = x
      · rw [if_pos ⟨cx, ce⟩, ce, rI_same]
      · rw [if_neg (fun z => ce z.2), rI_oth ce]
  · rw [if_neg cx] at st1
    obtain ⟨S1, a1, a2, a3, a4, a5⟩ := n_lay_f (n := n) (v := v) (by omega) hlt (S := S) e2
    refine ⟨S1, st1.trans a1, fun e => ?_, a3, a4, a5⟩
    rw [a2]
    by_cases c1 : tF v = some v ∧ e = v
    · rw [if_pos c1, if_pos c1]
    · rw [if_neg c1, if_neg c1, if_neg (fun z => cx z.1)]
def CL (S S2 : sd_St) (tF : Nat → Option Nat) (tB : Nat → Nat) (onF onB : Nat → Prop) : Prop := (∀ e, onF e → tF e = some e → S2.1 150 e = 0) ∧ (∀ e, onB e → tB e = e → S2.1 150 e = 1) ∧ (∀ e, ¬ (onF e ∧ tF e = some e) → ¬ (onB e ∧ tB e = e) → S2.1 150 e = S.1 150 e) ∧ (∀ e, onF e → tF e ≠ some e → S2.1 151 e = sI (tF e)) ∧ (∀ e, ¬ (onF e ∧ tF e ≠ some e) → S2.1 151 e = S.1 151 e) ∧ (∀ e f, onF f → tF f = some e → e ≠ f → S2.1 152 e = nI f) ∧ (∀ e, (∀ f, onF f → tF f = some e → e = f) → S2.1 152 e = S.1 152 e) ∧ frm (fun a => a = 150 ∨ a = 151 ∨ a = 152) S S2
theorem n_lays {s : Nat → Prop} {E : Nat → Nat → Prop} {u : Nat → Bool} {c : Nat → Option Nat} {N : Nat} (h288 : N ≤ 288) {Q : List Nat} {tF : Nat → Option Nat} {tB : Nat → Nat} (h : SR N s E u c Q tF tB) : ∀ (m n i x : Nat) (S : sd_St), i < m → 2 * m < n → Q[i]? = some (2 * x + 1) → (∀ d, d < N → 2 * d ∈ Q → S.1 148 (2 * d) = mF (tF d)) → (∀ d, d < N → 2 * d + 1 ∈ Q → S.1 148 (2 * d + 1) = nI (2 * tB d)) → ∃ S2 onF onB, f_X12_laysWay_l2 n (nI (2 * x + 1)) S = some ((), S2) ∧ WAY N s E u c tF tB onF onB x ∧ RK Q onF onB i ∧ CL S S2 tF tB onF onB := by
  intro m
  induction m with
  | zero => intro n i x S hm; omega
  | succ m ih =>
    intro n i x S hm hn hix h67 h68
    obtain ⟨n, rfl⟩ : ∃ n', n = n' + 2 := ⟨n - 2, by omega⟩
    obtain ⟨S1, a1, a2, a3, a3', a4⟩ := n_lay_s h288 h h67 h68 (n := n) hix
    obtain ⟨-, j, j1, j2, j3⟩ := h.2.2 i x hix
    obtain ⟨-, hv⟩ := h.2.1 j (tB x) j2
    have hvu : tF (tB x) = some (tB x) → u (tB x) = true := by
      intro z
      rcases hv with ⟨q, -⟩ | ⟨x2, j2', q, -, -, q4⟩
      · rw [z] at q; cases q
      · rw [z] at q
        cases q
        rcases q4 with ⟨-, q4⟩ | ⟨q4, -⟩
        · exact q4
        · exact absurd rfl q4
    have hxu : tB x = x → u x = false := by
      intro z
      rcases j3 with ⟨-, q⟩ | ⟨q, -⟩
      · exact q
      · exact absurd z q
    have hnc : ∀ e, tF (tB x) = some (tB x) ∧ e = tB x → ¬ (tB x = x) := by
      intro e z w
      have q1 := hvu z.1
      have q2 := hxu w
      rw [w, q2] at q1
      cases q1
    cases ht : tF (tB x) with
    | none =>
      obtain ⟨W, R⟩ := way_one h hix ht
      refine ⟨S1, _, _, ?_, W, R, ?_⟩
      · rw [a1, ht]
        obtain ⟨n, rfl⟩ : ∃ n', n = n' + 1 := ⟨n - 1, by omega⟩
        unfold f_X12_laysWay_l2
        rw [if_pos (show mF none = (-2 : Int32) from rfl)]
      · refine ⟨fun e z1 z2 => ?_, fun e z1 z2 => ?_, fun e z1 z2 => ?_, fun e z1 z2 => ?_, fun e z1 => ?_, fun e f z1 z2 => ?_, fun e z1 => ?_, a4⟩
        · have z1 : e = tB x := z1
          rw [z1, ht] at z2; cases z2
        · have z1 : e = x := z1
          rw [z1] at z2
          rw [a2, if_neg (fun z => by rw [ht] at z; cases z.1), if_pos ⟨z2, z1⟩]
        · rw [a2, if_neg (fun z => by rw [ht] at z; cases z.1), if_neg (fun z => z2 ⟨z.2, by rw [z.2]; exact z.1⟩)]
        · have z1 : e = tB x := z1
          rw [a3, if_pos ⟨by rw [ht]; exact fun z => (by cases z), z1⟩, z1]
        · rw [a3, if_neg (fun z => z1 ⟨z.2, by rw [z.2, ht]; exact fun w => (by cases w)⟩)]
        · have z1 : f = tB x := z1
          rw [z1, ht] at z2; cases z2
        · rw [a3', if_neg (fun z => by rw [ht] at z; cases z.1)]
    | some x' =>
      rcases hv with ⟨q, -⟩ | ⟨x2, i', q, i1, i2, -⟩
      · rw [ht] at q; cases q
      · rw [ht] at q
        cases q
        obtain ⟨S2, onF, onB, y1, y2, y3, b1, b2, b3, b4, b5, b5', b5'', b6⟩ := ih n i' x' S1 (by omega) (by omega) i2 (fun d z2 z3 => by rw [a4.1 148 (by omega)]; exact h67 d z2 z3) (fun d z2 z3 => by rw [a4.1 148 (by omega)]; exact h68 d z2 z3)
        obtain ⟨W, R, nF, nB⟩ := way_more h hix j2 j1 ht i2 i1 y2 y3
        have nvB : tF (tB x) = some (tB x) → ¬ (onB (tB x) ∧ tB (tB x) = tB x) := by
          intro z w
          have q1 := hvu z
          rcases (y2.1 _ w.1).2.2 with ⟨-, q2⟩ | ⟨q2, -⟩
          · rw [q1] at q2; cases q2
          · exact q2 w.2
        refine ⟨S2, _, _, ?_, W, R, ?_⟩
        · rw [a1, ht]; exact y1
        · refine ⟨fun e z1 z2 => ?_, fun e z1 z2 => ?_, fun e z1 z2 => ?_, fun e z1 z2 => ?_, fun e z1 => ?_, fun e f z1 z2 z3 => ?_, fun e z1 => ?_, frm_trans a4 b6 (fun _ h => h) (fun _ h => h)⟩
          · rcases z1 with z1 | z1
            · exact b1 e z1 z2
            · rw [z1] at z2 ⊢
              rw [b3 _ (fun z => nF z.1) (nvB z2), a2, if_pos ⟨z2, rfl⟩]
          · rcases z1 with z1 | z1
            · exact b2 e z1 z2
            · rw [z1] at z2 ⊢
              rw [b3 _ (fun z => nF (by rw [z2]; exact z.1)) (fun z => nB z.1), a2, if_neg (fun z => hnc x z z2), if_pos ⟨z2, rfl⟩]
          · rw [b3 e (fun z => z1 ⟨Or.inl z.1, z.2⟩) (fun z => z2 ⟨Or.inl z.1, z.2⟩), a2, if_neg (fun z => z1 ⟨Or.inr z.2, by rw [z.2]; exact z.1⟩), if_neg (fun z => z2 ⟨Or.inr z.2, by rw [z.2]; exact z.1⟩)]
          · rcases z1 with z1 | z1
            · exact b4 e z1 z2
            · rw [z1] at z2 ⊢
              rw [b5 _ (fun z => nF z.1), a3, if_pos ⟨z2, rfl⟩]
          · rw [b5 e (fun z => z1 ⟨Or.inl z.1, z.2⟩), a3, if_neg (fun z => z1 ⟨Or.inr z.2, by rw [z.2]; exact z.1⟩)]
          · rcases z1 with z1 | z1
            · exact b5' e f z1 z2 z3
            · rw [z1] at z2 z3 ⊢
              rw [ht] at z2
              cases z2
              rw [b5'' _ (fun f q1 q2 => absurd q2 (y2.2.2.2.2.2.1 f q1)), a3', if_pos ⟨ht, z3⟩]
          · rw [b5'' e (fun f q1 q2 => z1 f (Or.inl q1) q2), a3', if_neg (fun z => z.2 (z1 _ (Or.inr rfl) z.1))]
