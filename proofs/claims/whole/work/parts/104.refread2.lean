/-! THE READERS OF THE REFERENCE: lines -/
def OKR (S : sd_St) (tp : List Nat) (P : Pst) (tl : List TK) : Prop := OKr S tp P tl ∧ (tn P.1 < 12 → S.1 136 (170 + (3 + 4 * tn P.1 + 1)) = 0 ∧ S.1 136 (170 + (3 + 4 * tn P.1 + 2)) = 0 ∧ S.1 136 (170 + (3 + 4 * tn P.1 + 3)) = 0)
def SCR (S : sd_St) (tp : List Nat) : Except Nat (Pst × List TK) → Prop
  | .ok x => OKR S tp x.1 x.2
  | .error e => FLr S e
theorem rg_at (S : sd_St) (a j : Nat) (v : Int32) : (sd_I S 136 (170 + a) v).1 136 (170 + j) = if j = a then v else S.1 136 (170 + j) := by
  by_cases c : j = a
  · rw [if_pos c, c, rI_same]
  · rw [if_neg c, rI_oth (by omega)]
theorem FLr_136 {S : sd_St} {e a : Nat} {v : Int32} (h : FLr S e) : FLr (sd_I S 136 a v) e := ⟨by rw [rI_cell (by decide)]; exact h.1, h.2⟩
/-- the town's part changes -/
theorem okr_town {S : sd_St} {tp : List Nat} {P : Pst} {tl : List TK} (h : OKr S tp P tl) {a : Nat} {v : Int32} (ha : a < 170) {T2 : TW} (hT : RTg (fun j => (sd_I S 136 (170 + a) v).1 136 (170 + j)) T2) (hz : (∀ p, tn T2 < p → p < 12 → (sd_I S 136 (170 + a) v).1 136 (170 + (3 + 4 * p + 1)) = 0 ∧ (sd_I S 136 (170 + a) v).1 136 (170 + (3 + 4 * p + 2)) = 0 ∧ (sd_I S 136 (170 + a) v).1 136 (170 + (3 + 4 * p + 3)) = 0) ∧ (sd_I S 136 (170 + a) v).1 136 (170 + 97) = 0) : OKr (sd_I S 136 (170 + a) v) tp (T2, P.2.1, P.2.2) tl := by
  obtain ⟨a1, a2, a3, a4, a5, a6, a7, a8⟩ := h
  have o : ∀ b, b ≠ 136 → (sd_I S 136 (170 + a) v).1 b = S.1 b := fun b hb => rI_cell hb
  refine ⟨AT_fr a1 (FRr_136 (by omega)), by rw [o 130 (by decide)]; exact a2, by rw [o 130 (by decide)]; exact a3, hT, hz, ?_, by rw [o 130 (by decide)]; exact a7, a8⟩
  rw [o 130 (by decide), o 138 (by decide)]
  exact a6
theorem okR_b {S S2 : sd_St} {tp : List Nat} {P : Pst} {tl : List TK} (h : OKr S2 tp P tl) (hz : tn P.1 < 12 → S.1 136 (170 + (3 + 4 * tn P.1 + 1)) = 0 ∧ S.1 136 (170 + (3 + 4 * tn P.1 + 2)) = 0 ∧ S.1 136 (170 + (3 + 4 * tn P.1 + 3)) = 0) (hf : S2.1 136 = S.1 136) : OKR S2 tp P tl := ⟨h, by rw [hf]; exact hz⟩
theorem n_rLeap {S : sd_St} {tp : List Nat} {P : Pst} {t : TK} {r : List TK} (hR : OKR S tp P (t :: r)) : ∃ S2, f_X12_readLeap S = some ((), S2) ∧ SCR S2 tp (rLeap tp.length P (t :: r)) ∧ FRr S S2 := by
  obtain ⟨h, hz⟩ := hR
  unfold f_X12_readLeap rLeap
  rw [h.2.2.2.2.2.2.1]
  cases c : P.2.2 with
  | true =>
    obtain ⟨S2, e1, e2, e3⟩ := n_errs h (k := 3) (x := 3) (by decide) (by decide) rfl
    refine ⟨S2, ?_, e2, FRb_r e3⟩
    rw [if_neg (by decide), sd_cl_ok e1]
  | false =>
    obtain ⟨Sa, hSa⟩ : ∃ Sa, Sa = sd_I S 130 14 1 := ⟨_, rfl⟩
    have fa : FRr S Sa := by rw [hSa]; exact FRr_130 (by omega)
    have Oa : OKr Sa tp (P.1, P.2.1, true) (t :: r) := by
      obtain ⟨a1, a2, a3, a4, a5, a6, a7, a8⟩ := h
      have o : ∀ b, b ≠ 130 → Sa.1 b = S.1 b := fun b hb => by rw [hSa, rI_cell hb]
      have oj : ∀ j, j ≠ 14 → Sa.1 130 j = S.1 130 j := fun j hj => by rw [hSa, rI_oth hj]
      refine ⟨AT_fr a1 fa, by rw [oj 8 (by decide)]; exact a2, by rw [oj 7 (by decide)]; exact a3, by rw [o 136 (by decide)]; exact a4, by rw [o 136 (by decide)]; exact a5, ?_, by rw [hSa, rI_same]; rfl, a8⟩
      rw [oj 13 (by decide), o 138 (by decide), hSa]
      exact a6
    obtain ⟨k, k1, k2, k3⟩ := okr_next Oa
    obtain ⟨Sb, hSb⟩ : ∃ Sb, Sb = sd_I Sa 130 7 (nI (k + 1)) := ⟨_, rfl⟩
    rw [← hSb] at k3
    obtain ⟨v, Sc, c1, c2, c3, c4, -⟩ := n_takeN (P := (P.1, P.2.1, true)) (x := .ok r) k3 (m := 3) (y := 3) (by decide) rfl
    have c2 : STr Sc tp (P.1, P.2.1, true) ((sN tp.length 3 r).map (fun y => y.2)) := c2
    have c4 : ∀ a tl2, sN tp.length 3 r = .ok (a, tl2) → v = nI a := c4
    have hS136 : Sc.1 136 = S.1 136 := by rw [c3.1.1 136 (by decide), hSb, rI_cell (by decide), hSa, rI_cell (by decide)]
    refine ⟨sd_I Sc 136 (170 + 0) v, ?_, ?_, FRr_trans fa (FRr_trans (by rw [hSb]; exact FRr_130 (by omega)) (FRr_trans (FRb_r c3) (FRr_136 (by omega))))⟩
    · rw [if_pos (by decide), sd_nm_eq, ← hSa, k1, nI_1, sd_nm_eq, ← hSb, sd_cl_ok c1, show (170 : Int32) = nI (170 + 0) from rfl, sd_st_ok (by rw [al136]; omega) (sd_al_lt _)]
    · show SCR _ tp (if false = true then _ else (sN tp.length 3 r).map _)
      rw [if_neg (by decide)]
      cases hs : sN tp.length 3 r with
      | error e =>
        rw [hs] at c2
        exact FLr_136 c2
      | ok z =>
        obtain ⟨n, t1⟩ := z
        rw [hs] at c2
        have c2 : OKr Sc tp (P.1, P.2.1, true) t1 := c2
        have hv := c4 n t1 hs
        show OKR (sd_I Sc 136 (170 + 0) v) tp (setL P.1 n, P.2.1, true) t1
        have hT := c2.2.2.2.1
        refine ⟨okr_town c2 (by omega) ?_ ?_, fun hn => ?_⟩
        · obtain ⟨u1, u2, u3, u4, u5, u6, u7, u8⟩ := hT
          refine ⟨?_, ?_, ?_, fun p hp => ?_, ?_, fun i hi => ?_, ?_, fun s hs => ?_⟩
          · show (sd_I Sc 136 (170 + 0) v).1 136 (170 + 0) = _
            rw [rI_same, hv]; rfl
          · (try dsimp only); rw [rg_at, if_neg (by omega)]; exact u2
          · (try dsimp only); rw [rg_at, if_neg (by omega)]; exact u3
          · (try dsimp only); rw [rg_at, if_neg (by omega), rg_at, if_neg (by omega), rg_at, if_neg (by omega), rg_at, if_neg (by omega)]; exact u4 p hp
          · (try dsimp only); rw [rg_at, if_neg (by omega)]; exact u5
          · (try dsimp only); rw [rg_at, if_neg (by omega), rg_at, if_neg (by omega), rg_at, if_neg (by omega)]; exact u6 i hi
          · (try dsimp only); rw [rg_at, if_neg (by omega)]; exact u7
          · (try dsimp only); rw [rg_at, if_neg (by omega), rg_at, if_neg (by omega)]; exact u8 s hs
        · refine ⟨fun p hp hp2 => ?_, ?_⟩
          · (try dsimp only); rw [rg_at, if_neg (by omega), rg_at, if_neg (by omega), rg_at, if_neg (by omega)]; exact c2.2.2.2.2.1.1 p hp hp2
          · (try dsimp only); rw [rg_at, if_neg (by omega)]; exact c2.2.2.2.2.1.2
        · (try dsimp only); rw [rg_at, if_neg (by omega), rg_at, if_neg (by omega), rg_at, if_neg (by omega), hS136]; exact hz hn
theorem n_rLaw {S : sd_St} {tp : List Nat} {P : Pst} {t : TK} {r : List TK} (hR : OKR S tp P (t :: r)) (hz1 : tz P.1 ≤ 1) : ∃ S2, f_X12_readLaw S = some ((), S2) ∧ SCR S2 tp (rLaw tp.length P (t :: r)) ∧ FRr S S2 := by
  obtain ⟨h, hz⟩ := hR
  have h1 : S.1 136 171 = nI (tz P.1) := h.2.2.2.1.2.1
  unfold f_X12_readLaw rLaw
  rw [show (171 : Int32) = nI 171 from rfl, ldT (by omega), h1]
  by_cases c : tz P.1 = 1
  · obtain ⟨S2, e1, e2, e3⟩ := n_errs h (k := 3) (x := 3) (by decide) (by decide) rfl
    rw [if_pos (by rw [c]; rfl), if_pos c]
    exact ⟨S2, by rw [sd_cl_ok e1], e2, FRb_r e3⟩
  · rw [if_neg (show ¬ nI (tz P.1) = (1 : Int32) from fun z => c (nI_inj (b := 1) (by omega) (by decide) z)), if_neg c]
    obtain ⟨k, k1, k2, k3⟩ := okr_next h
    obtain ⟨Sb, hSb⟩ : ∃ Sb, Sb = sd_I S 130 7 (nI (k + 1)) := ⟨_, rfl⟩
    rw [← hSb] at k3
    obtain ⟨Sc, c1, c2, c3⟩ := n_takeW (P := P) (x := .ok r) k3 (i := 13) (y := 13) (by decide) rfl
    have c2 : STr Sc tp P (sW tp.length 13 r) := c2
    have hS136 : Sc.1 136 = S.1 136 := by rw [c3.1.1 136 (by decide), hSb, rI_cell (by decide)]
    refine ⟨sd_I Sc 136 (170 + 1) 1, ?_, ?_, FRr_trans (by rw [hSb]; exact FRr_130 (by omega)) (FRr_trans (FRb_r c3) (FRr_136 (by omega)))⟩
    · rw [k1, nI_1, sd_nm_eq, ← hSb, sd_cl_ok c1, show nI 171 = nI (170 + 1) from rfl, sd_st_ok (by rw [al136]; omega) (sd_al_lt _)]
    · show SCR _ tp ((sW tp.length 13 r).map _)
      cases hs : sW tp.length 13 r with
      | error e => rw [hs] at c2; exact FLr_136 c2
      | ok t1 =>
        rw [hs] at c2
        have c2 : OKr Sc tp P t1 := c2
        show OKR (sd_I Sc 136 (170 + 1) 1) tp (setZ P.1 1, P.2.1, P.2.2) t1
        have hT := c2.2.2.2.1
        refine ⟨okr_town c2 (by omega) ?_ ?_, fun hn => ?_⟩
        · obtain ⟨u1, u2, u3, u4, u5, u6, u7, u8⟩ := hT
          refine ⟨?_, ?_, ?_, fun p hp => ?_, ?_, fun i hi => ?_, ?_, fun s hs => ?_⟩
          · (try dsimp only); rw [rg_at, if_neg (by omega)]; exact u1
          · (try dsimp only); rw [rg_at, if_pos rfl]; rfl
          · (try dsimp only); rw [rg_at, if_neg (by omega)]; exact u3
          · (try dsimp only); rw [rg_at, if_neg (by omega), rg_at, if_neg (by omega), rg_at, if_neg (by omega), rg_at, if_neg (by omega)]; exact u4 p hp
          · (try dsimp only); rw [rg_at, if_neg (by omega)]; exact u5
          · (try dsimp only); rw [rg_at, if_neg (by omega), rg_at, if_neg (by omega), rg_at, if_neg (by omega)]; exact u6 i hi
          · (try dsimp only); rw [rg_at, if_neg (by omega)]; exact u7
          · (try dsimp only); rw [rg_at, if_neg (by omega), rg_at, if_neg (by omega)]; exact u8 s hs
        · refine ⟨fun p hp hp2 => ?_, ?_⟩
          · (try dsimp only); rw [rg_at, if_neg (by omega), rg_at, if_neg (by omega), rg_at, if_neg (by omega)]; exact c2.2.2.2.2.1.1 p hp hp2
          · (try dsimp only); rw [rg_at, if_neg (by omega)]; exact c2.2.2.2.2.1.2
        · (try dsimp only); rw [rg_at, if_neg (by omega), rg_at, if_neg (by omega), rg_at, if_neg (by omega), hS136]; exact hz hn
/-- a person that is being told: its row is laid, it isn't counted yet -/
def PND (S : sd_St) (n d m i : Nat) : Prop := S.1 136 (170 + (3 + 4 * n)) = nI d ∧ S.1 136 (170 + (3 + 4 * n + 1)) = nI m ∧ S.1 136 (170 + (3 + 4 * n + 2)) = nI i ∧ S.1 136 (170 + (3 + 4 * n + 3)) = 0
def PXT (T T2 : TW) (d m i : Nat) : Prop := tn T2 = tn T + 1 ∧ (∀ j q, 1 ≤ j → q ≠ tn T → T2 j q = T j q) ∧ tb T2 (tn T) = d + 1 ∧ tm T2 (tn T) = m ∧ ti T2 (tn T) = i ∧ tc T2 (tn T) = 0 ∧ ∀ j, 5 ≤ j → T2 j = T j
theorem n_rExt {tp : List Nat} {T : TW} {RN : NL} {lt : Bool} (hn12 : tn T < 12) (h4 : ts T ≤ 4) (ha12 : ta T ≤ 12) {d : Nat} : ∀ (k n : Nat) (a b : Bool) (m i : Nat) (S : sd_St) (T2 : TW) (tl : List TK), a.toNat + b.toNat + k = 3 → 0 < k → k < n → OKr S tp (T, RN, lt) tl → PND S (tn T) d m i → PXT T T2 d m i → ∃ S2, f_X12_readPerson_l68 n (nI (173 + 4 * tn T)) (bI a) (bI b) S = some ((), S2) ∧ SCR S2 tp (rExt tp.length k a b (tn T) (T2, RN, lt) tl) ∧ FRr S S2 := by
  intro k
  induction k with
  | zero => intro n a b m i S T2 tl _ h; omega
  | succ k ih =>
    intro n a b m i S T2 tl hab hk0 hn h hP hX
    obtain ⟨n, rfl⟩ : ∃ n', n = n' + 1 := ⟨n - 1, by omega⟩
    unfold f_X12_readPerson_l68
    rw [sd_cl_ok (n_isWord h (i := 3) (x := 3) (by decide) rfl)]
    unfold rExt
    -- one word more
    have hone : ∀ (fl x : Bool) (mx c : Nat), (c = 1 ∧ mx = 365 ∧ x = true) ∨ (c = 2 ∧ mx = 99 ∧ x = false) → tl ≠ [] → fl = false → ∃ v Sc k, S.1 130 7 = nI k ∧ f_X12_takeNumber (0 : Int32) (nI mx) (sd_I S 130 7 (nI (k + 1))) = some (v, Sc) ∧ STr Sc tp (T, RN, lt) ((sN tp.length mx tl.tail).map (fun y => y.2)) ∧ (∀ a tl2, sN tp.length mx tl.tail = .ok (a, tl2) → v = nI a) ∧ FRr S Sc ∧ Sc.1 136 = S.1 136 := by
      intro fl x mx c hc htl _
      cases tl with
      | nil => exact absurd rfl htl
      | cons t r =>
        obtain ⟨k, k1, k2, k3⟩ := okr_next h
        obtain ⟨v, Sc, c1, c2, c3, c4, -⟩ := n_takeN (P := (T, RN, lt)) (x := .ok r) k3 (m := mx) (y := nI mx) (by omega) rfl
        exact ⟨v, Sc, k, k1, c1, c2, c4, FRr_trans (FRr_130 (by omega)) (FRb_r c3), by rw [c3.1.1 136 (by decide), rI_cell (by decide)]⟩
    cases c3 : isW 3 tl with
    | true =>
      obtain ⟨t, r, rfl⟩ := isW_cons c3
      rw [if_neg (by decide), if_pos rfl]
      unfold f_X12_readPerson_b84 f_X12_readPerson_b108
      rw [sd_cl_ok (n_isWord h (i := 3) (x := 3) (by decide) rfl), c3, if_neg (by decide)]
      cases a with
      | true =>
        obtain ⟨S2, e1, e2, e3⟩ := n_errs h (k := 3) (x := 3) (by decide) (by decide) rfl
        rw [if_neg (by decide), if_pos rfl]
        exact ⟨S2, by rw [sd_cl_ok e1], e2, FRb_r e3⟩
      | false =>
        obtain ⟨v, Sc, kk, k1, y1, y2, y3, y4, y5⟩ := hone false true 365 1 (Or.inl ⟨rfl, rfl, rfl⟩) (by simp) rfl
        have y2 : STr Sc tp (T, RN, lt) ((sN tp.length 365 r).map (fun y => y.2)) := y2
        have y3 : ∀ a tl2, sN tp.length 365 r = .ok (a, tl2) → v = nI a := y3
        rw [if_pos (by decide), if_neg (by decide)]
        show ∃ S2, _ ∧ SCR S2 tp ((sN tp.length 365 r).bind _) ∧ _
        have pre : ∀ R, f_X12_readPerson_l68 n (nI (173 + 4 * tn T)) (1 : Int32) (bI b) (sd_I Sc 136 (170 + (3 + 4 * tn T + 1)) ((1 : Int32) + v)) = R → f_X12_readPerson_b114 (f_X12_readPerson_l68 n) (nI (173 + 4 * tn T)) (bI false) (bI b) (bI true) S = R := by
          intro R hRR
          unfold f_X12_readPerson_b114 f_X12_readPerson_b133 f_X12_readPerson_b138 f_X12_readPerson_b149
          rw [k1, nI_1, sd_nm_eq, if_pos (show bI false = 0 from rfl), if_neg (show ¬ bI true = 0 by decide)]
          have hb154 : ∀ w, f_X12_readPerson_b154 (f_X12_readPerson_l68 n) (nI (173 + 4 * tn T)) (1 : Int32) (bI true) w (sd_I S 130 7 (nI (kk + 1))) = f_X12_readPerson_l68 n (nI (173 + 4 * tn T)) (1 : Int32) w (sd_I Sc 136 (170 + (3 + 4 * tn T + 1)) ((1 : Int32) + v)) := by
            intro w
            unfold f_X12_readPerson_b154 f_X12_readPerson_b197
            rw [if_neg (show ¬ bI true = 0 by decide), sd_cl_ok (show f_X12_takeNumber (0 : Int32) (365 : Int32) (sd_I S 130 7 (nI (kk + 1))) = _ from y1), nI_1, show 173 + 4 * tn T + 1 = 170 + (3 + 4 * tn T + 1) by omega, sd_st_ok (by rw [al136]; omega) (sd_al_lt _)]
          cases b with
          | true =>
            rw [if_neg (show ¬ bI true = 0 by decide), hb154]; exact hRR
          | false =>
            rw [if_pos (show bI false = 0 from rfl), if_neg (show ¬ bI true = 0 by decide), hb154]; exact hRR
        cases hs : sN tp.length 365 r with
        | error e =>
          rw [hs] at y2
          have y2 : FLr Sc e := y2
          have hF := FLr_136 (a := 170 + (3 + 4 * tn T + 1)) (v := (1 : Int32) + v) y2
          obtain ⟨n, rfl⟩ : ∃ n', n = n' + 1 := ⟨n - 1, by omega⟩
          obtain ⟨Sd, hSd⟩ : ∃ Sd, Sd = sd_I Sc 136 (170 + (3 + 4 * tn T + 1)) ((1 : Int32) + v) := ⟨_, rfl⟩
          rw [← hSd] at hF
          refine ⟨sd_I Sd 136 (170 + 2) (Sd.1 136 172 + 1), pre _ ?_, FLr_136 hF, FRr_trans y4 (FRr_trans (by rw [hSd]; exact FRr_136 (by omega)) (FRr_136 (by omega)))⟩
          rw [← hSd]
          unfold f_X12_readPerson_l68
          rw [sd_cl_ok (n_isWordF hF 3), if_pos rfl, sd_cl_ok (n_isWordF hF 4), if_pos rfl, show (172 : Int32) = nI 172 from rfl, ldT (by omega), sd_st_ok (by rw [al136]; omega) (sd_al_lt _)]
        | ok z =>
          obtain ⟨x, t1⟩ := z
          rw [hs] at y2
          have y2 : OKr Sc tp (T, RN, lt) t1 := y2
          have hv := y3 x t1 hs
          have hv1 : (1 : Int32) + v = nI (x + 1) := by rw [hv, show (1 : Int32) = nI 1 from rfl, nI_add, Nat.add_comm]
          rw [hv1] at pre
          have hO : OKr (sd_I Sc 136 (170 + (3 + 4 * tn T + 1)) (nI (x + 1))) tp (T, RN, lt) t1 := by
            refine okr_town y2 (by omega) ?_ ?_
            · obtain ⟨u1, u2, u3, u4, u5, u6, u7, u8⟩ := y2.2.2.2.1
              refine ⟨?_, ?_, ?_, fun p hp => ?_, ?_, fun i hi => ?_, ?_, fun s hs => ?_⟩
              · (try dsimp only); rw [rg_at, if_neg (by omega)]; exact u1
              · (try dsimp only); rw [rg_at, if_neg (by omega)]; exact u2
              · (try dsimp only); rw [rg_at, if_neg (by omega)]; exact u3
              · have hp : p < tn T := hp
                (try dsimp only); rw [rg_at, if_neg (by omega), rg_at, if_neg (by omega), rg_at, if_neg (by omega), rg_at, if_neg (by omega)]; exact u4 p hp
              · (try dsimp only); rw [rg_at, if_neg (by omega)]; exact u5
              · have hi : i < ta T := hi
                (try dsimp only); rw [rg_at, if_neg (by omega), rg_at, if_neg (by omega), rg_at, if_neg (by omega)]; exact u6 i hi
              · (try dsimp only); rw [rg_at, if_neg (by omega)]; exact u7
              · have hs : s < ts T := hs
                (try dsimp only); rw [rg_at, if_neg (by omega), rg_at, if_neg (by omega)]; exact u8 s hs
            · refine ⟨fun p hp hp2 => ?_, ?_⟩
              · have hp : tn T < p := hp
                (try dsimp only); rw [rg_at, if_neg (by omega), rg_at, if_neg (by omega), rg_at, if_neg (by omega)]; exact y2.2.2.2.2.1.1 p hp hp2
              · (try dsimp only); rw [rg_at, if_neg (by omega)]; exact y2.2.2.2.2.1.2
          have hPn : PND (sd_I Sc 136 (170 + (3 + 4 * tn T + 1)) (nI (x + 1))) (tn T) d (x + 1) i := by
            obtain ⟨p1, p2, p3, p4⟩ := hP
            refine ⟨?_, ?_, ?_, ?_⟩
            · (try dsimp only); rw [rg_at, if_neg (by omega), y5]; exact p1
            · rw [rI_same]
            · (try dsimp only); rw [rg_at, if_neg (by omega), y5]; exact p3
            · (try dsimp only); rw [rg_at, if_neg (by omega), y5]; exact p4
          have hXn : PXT T (setM T2 (tn T) (x + 1)) d (x + 1) i := by
            obtain ⟨x1, x2, x3, x4, x5, x6, x7⟩ := hX
            refine ⟨x1, fun j q hj hq => ?_, x3, ?_, x5, x6, fun j hj => ?_⟩
            · show (if j = 2 ∧ q = tn T then x + 1 else T2 j q) = T j q
              rw [if_neg (fun z => hq z.2)]; exact x2 j q hj hq
            · show (if 2 = 2 ∧ tn T = tn T then x + 1 else T2 2 (tn T)) = x + 1
              rw [if_pos ⟨rfl, rfl⟩]
            · funext q
              show (if j = 2 ∧ q = tn T then x + 1 else T2 j q) = T j q
              rw [if_neg (by omega), x7 j hj]
          have hkk : 0 < k := by
            cases b with
            | true => have : false.toNat + true.toNat + (k + 1) = 3 := hab; simp at this; omega
            | false => have : false.toNat + false.toNat + (k + 1) = 3 := hab; simp at this; omega
          obtain ⟨S5, q1, q2, q3⟩ := ih n true b (x + 1) i _ _ t1 (by
            cases b with
            | true => have : false.toNat + true.toNat + (k + 1) = 3 := hab; simp at this ⊢; omega
            | false => have : false.toNat + false.toNat + (k + 1) = 3 := hab; simp at this ⊢; omega) hkk (by omega) hO hPn hXn
          exact ⟨S5, pre _ q1, q2, FRr_trans y4 (FRr_trans (FRr_136 (by omega)) q3)⟩
    | false =>
      rw [if_pos (by decide), if_neg (show ¬ (false = true) by decide), sd_cl_ok (n_isWord h (i := 4) (x := 4) (by decide) rfl)]
      cases c4 : isW 4 tl with
      | true =>
        obtain ⟨t, r, rfl⟩ := isW_cons c4
        rw [if_neg (by decide), if_pos rfl]
        unfold f_X12_readPerson_b84 f_X12_readPerson_b108
        rw [sd_cl_ok (n_isWord h (i := 3) (x := 3) (by decide) rfl), c3, if_pos (by decide)]
        cases b with
        | true =>
          obtain ⟨S2, e1, e2, e3⟩ := n_errs h (k := 3) (x := 3) (by decide) (by decide) rfl
          rw [if_neg (by decide), if_pos rfl]
          exact ⟨S2, by rw [sd_cl_ok e1], e2, FRb_r e3⟩
        | false =>
          obtain ⟨v, Sc, kk, k1, y1, y2, y3, y4, y5⟩ := hone false false 99 2 (Or.inr ⟨rfl, rfl, rfl⟩) (by simp) rfl
          have y2 : STr Sc tp (T, RN, lt) ((sN tp.length 99 r).map (fun y => y.2)) := y2
          have y3 : ∀ a tl2, sN tp.length 99 r = .ok (a, tl2) → v = nI a := y3
          rw [if_pos (by decide), if_neg (by decide)]
          show ∃ S2, _ ∧ SCR S2 tp ((sN tp.length 99 r).bind _) ∧ _
          have pre : ∀ R, f_X12_readPerson_l68 n (nI (173 + 4 * tn T)) (bI a) (1 : Int32) (sd_I Sc 136 (170 + (3 + 4 * tn T + 2)) v) = R → f_X12_readPerson_b114 (f_X12_readPerson_l68 n) (nI (173 + 4 * tn T)) (bI a) (bI false) (bI false) S = R := by
            intro R hRR
            unfold f_X12_readPerson_b114 f_X12_readPerson_b133 f_X12_readPerson_b138 f_X12_readPerson_b149
            rw [k1, nI_1, sd_nm_eq]
            have hb154 : ∀ u, f_X12_readPerson_b154 (f_X12_readPerson_l68 n) (nI (173 + 4 * tn T)) u (bI false) (1 : Int32) (sd_I S 130 7 (nI (kk + 1))) = f_X12_readPerson_l68 n (nI (173 + 4 * tn T)) u (1 : Int32) (sd_I Sc 136 (170 + (3 + 4 * tn T + 2)) v) := by
              intro u
              unfold f_X12_readPerson_b154 f_X12_readPerson_b197
              rw [if_pos (show bI false = 0 from rfl), sd_cl_ok (show f_X12_takeNumber (0 : Int32) (99 : Int32) (sd_I S 130 7 (nI (kk + 1))) = _ from y1), ixa, show 173 + 4 * tn T + 2 = 170 + (3 + 4 * tn T + 2) by omega, sd_st_ok (by rw [al136]; omega) (sd_al_lt _)]
            cases a with
            | true =>
              rw [if_neg (show ¬ bI true = 0 by decide), if_pos (show bI false = 0 from rfl), if_pos (show bI false = 0 from rfl), hb154]; exact hRR
            | false =>
              rw [if_pos (show bI false = 0 from rfl), if_pos (show bI false = 0 from rfl), if_pos (show bI false = 0 from rfl), if_pos (show bI false = 0 from rfl), hb154]; exact hRR
          cases hs : sN tp.length 99 r with
          | error e =>
            rw [hs] at y2
            have y2 : FLr Sc e := y2
            have hF := FLr_136 (a := 170 + (3 + 4 * tn T + 2)) (v := v) y2
            obtain ⟨n, rfl⟩ : ∃ n', n = n' + 1 := ⟨n - 1, by omega⟩
            obtain ⟨Sd, hSd⟩ : ∃ Sd, Sd = sd_I Sc 136 (170 + (3 + 4 * tn T + 2)) v := ⟨_, rfl⟩
            rw [← hSd] at hF
            refine ⟨sd_I Sd 136 (170 + 2) (Sd.1 136 172 + 1), pre _ ?_, FLr_136 hF, FRr_trans y4 (FRr_trans (by rw [hSd]; exact FRr_136 (by omega)) (FRr_136 (by omega)))⟩
            rw [← hSd]
            unfold f_X12_readPerson_l68
            rw [sd_cl_ok (n_isWordF hF 3), if_pos rfl, sd_cl_ok (n_isWordF hF 4), if_pos rfl, show (172 : Int32) = nI 172 from rfl, ldT (by omega), sd_st_ok (by rw [al136]; omega) (sd_al_lt _)]
          | ok z =>
            obtain ⟨x, t1⟩ := z
            rw [hs] at y2
            have y2 : OKr Sc tp (T, RN, lt) t1 := y2
            have hv := y3 x t1 hs
            rw [hv] at pre
            have hO : OKr (sd_I Sc 136 (170 + (3 + 4 * tn T + 2)) (nI x)) tp (T, RN, lt) t1 := by
              refine okr_town y2 (by omega) ?_ ?_
              · obtain ⟨u1, u2, u3, u4, u5, u6, u7, u8⟩ := y2.2.2.2.1
                refine ⟨?_, ?_, ?_, fun p hp => ?_, ?_, fun i hi => ?_, ?_, fun s hs => ?_⟩
                · (try dsimp only); rw [rg_at, if_neg (by omega)]; exact u1
                · (try dsimp only); rw [rg_at, if_neg (by omega)]; exact u2
                · (try dsimp only); rw [rg_at, if_neg (by omega)]; exact u3
                · have hp : p < tn T := hp
                  (try dsimp only); rw [rg_at, if_neg (by omega), rg_at, if_neg (by omega), rg_at, if_neg (by omega), rg_at, if_neg (by omega)]; exact u4 p hp
                · (try dsimp only); rw [rg_at, if_neg (by omega)]; exact u5
                · have hi : i < ta T := hi
                  (try dsimp only); rw [rg_at, if_neg (by omega), rg_at, if_neg (by omega), rg_at, if_neg (by omega)]; exact u6 i hi
                · (try dsimp only); rw [rg_at, if_neg (by omega)]; exact u7
                · have hs : s < ts T := hs
                  (try dsimp only); rw [rg_at, if_neg (by omega), rg_at, if_neg (by omega)]; exact u8 s hs
              · refine ⟨fun p hp hp2 => ?_, ?_⟩
                · have hp : tn T < p := hp
                  (try dsimp only); rw [rg_at, if_neg (by omega), rg_at, if_neg (by omega), rg_at, if_neg (by omega)]; exact y2.2.2.2.2.1.1 p hp hp2
                · (try dsimp only); rw [rg_at, if_neg (by omega)]; exact y2.2.2.2.2.1.2
            have hPn : PND (sd_I Sc 136 (170 + (3 + 4 * tn T + 2)) (nI x)) (tn T) d m x := by
              obtain ⟨p1, p2, p3, p4⟩ := hP
              refine ⟨?_, ?_, ?_, ?_⟩
              · (try dsimp only); rw [rg_at, if_neg (by omega), y5]; exact p1
              · (try dsimp only); rw [rg_at, if_neg (by omega), y5]; exact p2
              · rw [rI_same]
              · (try dsimp only); rw [rg_at, if_neg (by omega), y5]; exact p4
            have hXn : PXT T (setI T2 (tn T) x) d m x := by
              obtain ⟨x1, x2, x3, x4, x5, x6, x7⟩ := hX
              refine ⟨x1, fun j q hj hq => ?_, x3, x4, ?_, x6, fun j hj => ?_⟩
              · show (if j = 3 ∧ q = tn T then x else T2 j q) = T j q
                rw [if_neg (fun z => hq z.2)]; exact x2 j q hj hq
              · show (if 3 = 3 ∧ tn T = tn T then x else T2 3 (tn T)) = x
                rw [if_pos ⟨rfl, rfl⟩]
              · funext q
                show (if j = 3 ∧ q = tn T then x else T2 j q) = T j q
                rw [if_neg (by omega), x7 j hj]
            have hkk : 0 < k := by
              cases a with
              | true => have : true.toNat + false.toNat + (k + 1) = 3 := hab; simp at this; omega
              | false => have : false.toNat + false.toNat + (k + 1) = 3 := hab; simp at this; omega
            obtain ⟨S5, q1, q2, q3⟩ := ih n a true m x _ _ t1 (by
              cases a with
              | true => have : true.toNat + false.toNat + (k + 1) = 3 := hab; simp at this ⊢; omega
              | false => have : false.toNat + false.toNat + (k + 1) = 3 := hab; simp at this ⊢; omega) hkk (by omega) hO hPn hXn
            exact ⟨S5, pre _ q1, q2, FRr_trans y4 (FRr_trans (FRr_136 (by omega)) q3)⟩
      | false =>
        rw [if_pos (by decide), if_neg (show ¬ (false = true) by decide)]
        have h2 : S.1 136 172 = nI (tn T) := h.2.2.2.1.2.2.1
        refine ⟨sd_I S 136 (170 + 2) (nI (tn T + 1)), ?_, ?_, FRr_136 (by omega)⟩
        · rw [show (172 : Int32) = nI 172 from rfl, ldT (by omega), h2, nI_1, show nI 172 = nI (170 + 2) from rfl, sd_st_ok (by rw [al136]; omega) (sd_al_lt _)]
        · show OKR (sd_I S 136 (170 + 2) (nI (tn T + 1))) tp (T2, RN, lt) tl
          obtain ⟨p1, p2, p3, p4⟩ := hP
          obtain ⟨x1, x2, x3, x4, x5, x6, x7⟩ := hX
          refine ⟨okr_town h (by omega) ?_ ?_, fun hn => ?_⟩
          · obtain ⟨u1, u2, u3, u4, u5, u6, u7, u8⟩ := h.2.2.2.1
            refine ⟨?_, ?_, ?_, fun p hp => ?_, ?_, fun i hi => ?_, ?_, fun s hs => ?_⟩
            · (try dsimp only); rw [rg_at, if_neg (by omega)]; show _ = nI (T2 12 0); rw [x7 12 (by omega)]; exact u1
            · (try dsimp only); rw [rg_at, if_neg (by omega)]; show _ = nI (T2 13 0); rw [x7 13 (by omega)]; exact u2
            · (try dsimp only); rw [rg_at, if_pos rfl, x1]
            · rw [x1] at hp
              (try dsimp only); rw [rg_at, if_neg (by omega), rg_at, if_neg (by omega), rg_at, if_neg (by omega), rg_at, if_neg (by omega)]
              by_cases cp : p = tn T
              · subst cp
                rw [x3, x4, x5, x6, nI_pred]
                exact ⟨p1, p2, p3, p4⟩
              · have e1 : tb T2 p = tb T p := x2 1 p (by omega) cp
                have e2 : tm T2 p = tm T p := x2 2 p (by omega) cp
                have e3 : ti T2 p = ti T p := x2 3 p (by omega) cp
                have e4 : tc T2 p = tc T p := x2 4 p (by omega) cp
                rw [e1, e2, e3, e4]
                exact u4 p (by show p < tn T; omega)
            · (try dsimp only); rw [rg_at, if_neg (by omega)]; show _ = nI (T2 5 0); rw [x7 5 (by omega)]; exact u5
            · have hi : i < T2 5 0 := hi
              rw [x7 5 (by omega)] at hi
              (try dsimp only); rw [rg_at, if_neg (by omega), rg_at, if_neg (by omega), rg_at, if_neg (by omega)]
              show _ = nI (T2 6 i) ∧ _ = nI (T2 7 i) ∧ _ = nI (T2 8 i)
              rw [x7 6 (by omega), x7 7 (by omega), x7 8 (by omega)]
              exact u6 i hi
            · (try dsimp only); rw [rg_at, if_neg (by omega)]; show _ = nI (T2 9 0); rw [x7 9 (by omega)]; exact u7
            · have hs : s < T2 9 0 := hs
              rw [x7 9 (by omega)] at hs
              (try dsimp only); rw [rg_at, if_neg (by omega), rg_at, if_neg (by omega)]
              show _ = nI (T2 10 s) ∧ _ = nI (T2 11 s)
              rw [x7 10 (by omega), x7 11 (by omega)]
              exact u8 s hs
          · refine ⟨fun p hp hp2 => ?_, ?_⟩
            · rw [x1] at hp
              (try dsimp only); rw [rg_at, if_neg (by omega), rg_at, if_neg (by omega), rg_at, if_neg (by omega)]; exact h.2.2.2.2.1.1 p (by show tn T < p; omega) hp2
            · (try dsimp only); rw [rg_at, if_neg (by omega)]; exact h.2.2.2.2.1.2
          · show (sd_I S 136 (170 + 2) (nI (tn T + 1))).1 136 (170 + (3 + 4 * tn T2 + 1)) = 0 ∧ _
            have hn : tn T2 < 12 := hn
            rw [x1] at hn
            have := h.2.2.2.2.1.1 (tn T + 1) (by show tn T < tn T + 1; omega) hn
            (try dsimp only); rw [rg_at, if_neg (by omega)]
            show _ ∧ (sd_I S 136 (170 + 2) (nI (tn T + 1))).1 136 (170 + (3 + 4 * tn T2 + 2)) = 0 ∧ (sd_I S 136 (170 + 2) (nI (tn T + 1))).1 136 (170 + (3 + 4 * tn T2 + 3)) = 0
            (try dsimp only); rw [rg_at, if_neg (by omega), rg_at, if_neg (by omega), x1]
            exact this
