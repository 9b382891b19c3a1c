/-! THE READERS OF THE REFERENCE: persons, calls -/
theorem PXT_0 (T : TW) (d : Nat) : PXT T (addP T d) d 0 0 := ⟨addP_n T d, fun j q hj hq => addP_old hj hq, addP_b T d, addP_0 (Or.inl rfl), addP_0 (Or.inr (Or.inl rfl)), addP_0 (Or.inr (Or.inr rfl)), fun j hj => addP_hi hj⟩
theorem n_rPerson {S : sd_St} {tp : List Nat} {P : Pst} {t : TK} {r : List TK} (hR : OKR S tp P (t :: r)) (hW : PW P) : ∃ S2, f_X12_readPerson S = some ((), S2) ∧ SCR S2 tp (rPerson tp.length P (t :: r)) ∧ FRr S S2 := by
  obtain ⟨h, hz⟩ := hR
  have h12 := hW.1.1
  have h4 := hW.1.2.2.2.2.1
  have ha := hW.1.2.2.1
  have hlen := hW.2.2.1.2.2.2.2.1
  have h2 : S.1 136 172 = nI (tn P.1) := h.2.2.2.1.2.2.1
  unfold f_X12_readPerson rPerson
  rw [show (172 : Int32) = nI 172 from rfl, ldT (by omega), h2]
  by_cases c : tn P.1 = 12
  · obtain ⟨S2, e1, e2, e3⟩ := n_errs h (k := 5) (x := 5) (by decide) (by decide) rfl
    rw [if_pos (by rw [c]; rfl), if_pos c]
    exact ⟨S2, by rw [sd_cl_ok e1], e2, FRb_r e3⟩
  · rw [if_neg (show ¬ nI (tn P.1) = (12 : Int32) from fun z => c (nI_inj (b := 12) (by omega) (by decide) z)), if_neg c]
    obtain ⟨k, k1, k2, k3⟩ := okr_next h
    obtain ⟨Sa, hSa⟩ : ∃ Sa, Sa = sd_I S 130 7 (nI (k + 1)) := ⟨_, rfl⟩
    rw [← hSa] at k3
    have fa : FRr S Sa := by rw [hSa]; exact FRr_130 (by omega)
    obtain ⟨Sb, b1, b2, b3, b4, b5⟩ := n_readName k3 (wh := tn P.1) (by omega) (by omega)
    rw [k1, nI_1, sd_nm_eq, ← hSa, sd_cl_ok b1]
    show ∃ S2, _ ∧ SCR S2 tp ((sNew tp.length P.2.1 r).bind _) ∧ _
    have ei : (173 : Int32) + (4 : Int32) * nI (tn P.1) = nI (173 + 4 * tn P.1) := by
      rw [show (173 : Int32) = nI 173 from rfl, show (4 : Int32) = nI 4 from rfl, nI_mul, nI_add]
    -- behind a fault
    have hfl : ∀ (x : Except Nat (List TK)) (P' : Pst) (e : Nat), STr Sb tp P' x → ((x.bind (sW tp.length 2)).bind (sN tp.length 365)).map (fun y => y.2) = .error e → ∃ S2, sd_cl (f_X12_takeWord (2 : Int32) Sb) (fun _ S_33 => sd_nm (((173 : Int32) + ((4 : Int32) * nI (tn P.1)))) (fun v_35 => sd_cl (f_X12_takeNumber (0 : Int32) (365 : Int32) S_33) (fun r_37 S_36 => sd_st S_36 136 v_35 r_37 (fun S_38 => f_X12_readPerson_l68 sd_FU v_35 (0 : Int32) (0 : Int32) S_38)))) = some ((), S2) ∧ FLr S2 e ∧ FRr S S2 := by
      intro x P' e hx he
      obtain ⟨Sc, c1, c2, c3⟩ := n_takeW hx (i := 2) (y := 2) (by decide) rfl
      obtain ⟨v, Sd, d1, d2, d3, -, -⟩ := n_takeN c2 (m := 365) (y := 365) (by decide) rfl
      rw [he] at d2
      have d2 : FLr Sd e := d2
      obtain ⟨Se, hSe⟩ : ∃ Se, Se = sd_I Sd 136 (173 + 4 * tn P.1) v := ⟨_, rfl⟩
      have hF : FLr Se e := by rw [hSe]; exact FLr_136 d2
      refine ⟨sd_I Se 136 (170 + 2) (Se.1 136 172 + 1), ?_, FLr_136 hF, FRr_trans fa (FRr_trans b2 (FRr_trans (FRb_r c3) (FRr_trans (FRb_r d3) (FRr_trans (by rw [hSe]; exact FRr_136 (by omega)) (FRr_136 (by omega))))))⟩
      rw [sd_cl_ok c1, sd_nm_eq, ei, sd_cl_ok d1, sd_st_ok (by rw [al136]; omega) (sd_al_lt _), ← hSe]
      show f_X12_readPerson_l68 (19999 + 1) _ _ _ _ = _
      unfold f_X12_readPerson_l68
      rw [sd_cl_ok (n_isWordF hF 3), if_pos rfl, sd_cl_ok (n_isWordF hF 4), if_pos rfl, show (172 : Int32) = nI 172 from rfl, ldT (by omega), sd_st_ok (by rw [al136]; omega) (sd_al_lt _)]
    cases hs1 : sNew tp.length P.2.1 r with
    | error e =>
      obtain ⟨S2, q1, q2, q3⟩ := hfl (.error e) P e (b5 e hs1) rfl
      exact ⟨S2, q1, q2, q3⟩
    | ok z =>
      obtain ⟨w, t1⟩ := z
      have hO := b4 w t1 hs1
      show ∃ S2, _ ∧ SCR S2 tp (((sW tp.length 2 t1).bind (sN tp.length 365)).bind _) ∧ _
      cases hs2 : (sW tp.length 2 t1).bind (sN tp.length 365) with
      | error e =>
        obtain ⟨S2, q1, q2, q3⟩ := hfl (.ok t1) (P.1, P.2.1 ++ [(w, tn P.1)], P.2.2) e hO (by
          show ((sW tp.length 2 t1).bind (sN tp.length 365)).map _ = _
          rw [hs2]; rfl)
        exact ⟨S2, q1, q2, q3⟩
      | ok z =>
        obtain ⟨d, t3⟩ := z
        obtain ⟨Sc, c1, c2, c3⟩ := n_takeW (x := .ok t1) hO (i := 2) (y := 2) (by decide) rfl
        obtain ⟨v, Sd, d1, d2, d3, d4, -⟩ := n_takeN c2 (m := 365) (y := 365) (by decide) rfl
        have hs2' : ((Except.ok t1 : Except Nat (List TK)).bind (sW tp.length 2)).bind (sN tp.length 365) = .ok (d, t3) := hs2
        rw [hs2'] at d2
        have d2 : OKr Sd tp (P.1, P.2.1 ++ [(w, tn P.1)], P.2.2) t3 := d2
        have hv := d4 d t3 hs2'
        have e136 : Sd.1 136 = S.1 136 := by rw [d3.1.1 136 (by decide), c3.1.1 136 (by decide), b3, hSa, rI_cell (by decide)]
        obtain ⟨z1, z2, z3⟩ := hz (by omega)
        show ∃ S2, _ ∧ SCR S2 tp (rExt tp.length 3 false false (tn P.1) (addP P.1 d, P.2.1 ++ [(w, tn P.1)], P.2.2) t3) ∧ _
        have hOe : OKr (sd_I Sd 136 (170 + (3 + 4 * tn P.1)) v) tp (P.1, P.2.1 ++ [(w, tn P.1)], P.2.2) t3 := by
          refine okr_town d2 (by omega) ?_ ?_
          · obtain ⟨u1, u2, u3, u4, u5, u6, u7, u8⟩ := d2.2.2.2.1
            refine ⟨?_, ?_, ?_, fun p hp => ?_, ?_, fun i hi => ?_, ?_, fun s hs => ?_⟩
            · (try dsimp only); rw [rg_at, if_neg (by omega)]; exact u1
            · (try dsimp only); rw [rg_at, if_neg (by omega)]; exact u2
            · (try dsimp only); rw [rg_at, if_neg (by omega)]; exact u3
            · have hp : p < tn P.1 := hp
              (try dsimp only); rw [rg_at, if_neg (by omega), rg_at, if_neg (by omega), rg_at, if_neg (by omega), rg_at, if_neg (by omega)]; exact u4 p hp
            · (try dsimp only); rw [rg_at, if_neg (by omega)]; exact u5
            · have hi : i < ta P.1 := hi
              (try dsimp only); rw [rg_at, if_neg (by omega), rg_at, if_neg (by omega), rg_at, if_neg (by omega)]; exact u6 i hi
            · (try dsimp only); rw [rg_at, if_neg (by omega)]; exact u7
            · have hs : s < ts P.1 := hs
              (try dsimp only); rw [rg_at, if_neg (by omega), rg_at, if_neg (by omega)]; exact u8 s hs
          · refine ⟨fun p hp hp2 => ?_, ?_⟩
            · have hp : tn P.1 < p := hp
              (try dsimp only); rw [rg_at, if_neg (by omega), rg_at, if_neg (by omega), rg_at, if_neg (by omega)]; exact d2.2.2.2.2.1.1 p hp hp2
            · rw [rg_at, if_neg (by omega)]; exact d2.2.2.2.2.1.2
        have hPn : PND (sd_I Sd 136 (170 + (3 + 4 * tn P.1)) v) (tn P.1) d 0 0 := by
          refine ⟨?_, ?_, ?_, ?_⟩
          · rw [rI_same]; exact hv
          · rw [rg_at, if_neg (by omega), e136]; exact z1
          · rw [rg_at, if_neg (by omega), e136]; exact z2
          · rw [rg_at, if_neg (by omega), e136]; exact z3
        obtain ⟨S5, q1, q2, q3⟩ := n_rExt (tp := tp) (T := P.1) (RN := P.2.1 ++ [(w, tn P.1)]) (lt := P.2.2) (by omega) h4 ha 3 sd_FU false false 0 0 _ _ t3 rfl (by decide) (by unfold sd_FU; omega) hOe hPn (PXT_0 P.1 d)
        refine ⟨S5, ?_, q2, FRr_trans fa (FRr_trans b2 (FRr_trans (FRb_r c3) (FRr_trans (FRb_r d3) (FRr_trans (FRr_136 (by omega)) q3))))⟩
        rw [sd_cl_ok c1, sd_nm_eq, ei, sd_cl_ok d1, sd_st_ok (by rw [al136]; omega) (sd_al_lt _), show 173 + 4 * tn P.1 = 170 + (3 + 4 * tn P.1) by omega]
        rw [show 173 + 4 * tn P.1 = 170 + (3 + 4 * tn P.1) by omega] at q1
        exact q1
/-- calls: either the line's end, or what can't stand there -/
def SCX (S : sd_St) (tp : List Nat) (r : Except Nat (Pst × List TK)) : Prop := SCR S tp r ∨ ∃ P tl, OKR S tp P tl ∧ PW P ∧ isS tl = false ∧ r = .error (flt 1 tp.length tl)
theorem n_rHosts {tp : List Nat} {p : Nat} : ∀ (k n i : Nat) (S : sd_St) (P : Pst) (tl : List TK), i + k = 12 → k < n → OKR S tp P tl → PW P → isNm tl = true → p < tn P.1 → i ≤ cH P.1 p → ∃ S2, f_X12_readCalls_l40 n (nI p) S = some ((), S2) ∧ SCX S2 tp (rHost tp.length k p P tl) ∧ FRr S S2 := by
  intro k
  induction k with
  | zero =>
    intro n i S P tl hi hn h hW hnm hp hc
    exfalso
    have := cH_lt hW.1 hp
    omega
  | succ k ih =>
    intro n i S P tl hi hn hR hW hnm hp hc
    obtain ⟨n, rfl⟩ : ∃ n', n = n' + 1 := ⟨n - 1, by omega⟩
    obtain ⟨h, hz⟩ := hR
    have h12 := hW.1.1
    have hend : ∀ (S : sd_St) (e n : Nat), 0 < n → FLr S e → f_X12_readCalls_l40 n (nI p) S = some ((), S) := by
      intro S e n h0 hF
      obtain ⟨n, rfl⟩ : ∃ n', n = n' + 1 := ⟨n - 1, by omega⟩
      unfold f_X12_readCalls_l40
      rw [sd_cl_ok (n_isNameF hF), if_pos rfl]
    rw [rHost_s]
    unfold f_X12_readCalls_l40
    rw [sd_cl_ok (n_isName h), hnm, if_neg (by decide)]
    obtain ⟨v, S1, e1, e2, e3, e4⟩ := n_personHere h
    rw [sd_cl_ok e1]
    unfold oneH
    cases hs : sP tp.length P.2.1 tl with
    | error e =>
      obtain ⟨-, q2⟩ := e4 e hs
      refine ⟨S1, ?_, Or.inl q2, FRb_r e2⟩
      rw [if_neg (FLr_n0 q2)]
      unfold f_X12_readCalls_b140
      exact hend S1 e n (by omega) q2
    | ok q =>
      obtain ⟨q1, q2⟩ := e3 q hs
      subst q1
      subst q2
      have hq := sP_lt hW hs
      obtain ⟨t, r, rfl⟩ := sP_cons hs
      rw [h.2.1, if_pos rfl]
      have ei : (173 : Int32) + (4 : Int32) * nI q + (3 : Int32) = nI (173 + 4 * q + 3) := by
        rw [show (173 : Int32) = nI 173 from rfl, show (4 : Int32) = nI 4 from rfl, show (3 : Int32) = nI 3 from rfl, nI_mul, nI_add, nI_add]
      rw [sd_nm_eq, ei]
      have hct : S1.1 136 (173 + 4 * q + 3) = nI (tc P.1 q) := by
        have := (h.2.2.2.1.2.2.2.1 q hq).2.2.2
        have this : S1.1 136 (170 + (3 + 4 * q + 3)) = nI (tc P.1 q) := this
        rw [show 173 + 4 * q + 3 = 170 + (3 + 4 * q + 3) by omega]
        exact this
      have hbad : ∃ S2, f_X12_readCalls_b88 (f_X12_readCalls_l40 n) (nI p) S1 = some ((), S2) ∧ FLr S2 (flt 3 tp.length (t :: r)) ∧ FRr S1 S2 := by
        obtain ⟨S2, a1, a2, a3⟩ := n_errs h (k := 3) (x := 3) (by decide) (by decide) rfl
        refine ⟨S2, ?_, a2, FRb_r a3⟩
        unfold f_X12_readCalls_b88 f_X12_readCalls_b140
        rw [sd_cl_ok a1]
        exact hend S2 _ n (by omega) a2
      show ∃ S2, _ ∧ SCX S2 tp (Except.bind (if q = p ∨ (tc P.1 q).testBit p = true then _ else _) _) ∧ _
      by_cases c1 : q = p
      · rw [if_pos (by rw [c1]), if_pos (Or.inl c1)]
        obtain ⟨S2, a1, a2, a3⟩ := hbad
        exact ⟨S2, a1, Or.inl a2, a3⟩
      · rw [if_neg (fun z => c1 (nI_inj (by omega) (by omega) z)), ldT (by omega), hct]
        by_cases c2 : (tc P.1 q).testBit p = true
        · rw [if_pos ((bit1 _ (by omega)).mpr (by rw [hb_nI (by omega)]; exact c2)), if_pos (Or.inr c2)]
          obtain ⟨S2, a1, a2, a3⟩ := hbad
          exact ⟨S2, a1, Or.inl a2, a3⟩
        · have c2' : (tc P.1 q).testBit p = false := by simpa using c2
          rw [if_neg (fun z => c2 (by have := (bit1 _ (by omega)).mp z; rw [hb_nI (by omega)] at this; exact this)), if_neg (fun z => z.elim c1 c2), ldT (by omega), hct, sd_cl_ok (n_bits _), cnB_nI]
          show ∃ S2, (if nI (pcB (tc P.1 q)) = (6 : Int32) then _ else _) = _ ∧ _
          have h6 := hW.2.2.2 q hq
          by_cases c3 : pcB (tc P.1 q) = 6
          · rw [if_pos (by rw [c3]; rfl), if_pos (by omega)]
            obtain ⟨S2, a1, a2, a3⟩ := n_errs h (k := 5) (x := 5) (by decide) (by decide) rfl
            refine ⟨S2, ?_, Or.inl a2, FRb_r a3⟩
            unfold f_X12_readCalls_b140
            rw [sd_cl_ok a1]
            exact hend S2 _ n (by omega) a2
          · rw [if_neg (show ¬ nI (pcB (tc P.1 q)) = (6 : Int32) from fun z => c3 (nI_inj (b := 6) (by omega) (by decide) z)), if_neg (by omega), ldT (by omega), hct, shl_nI (by omega), nI_or, show 173 + 4 * q + 3 = 170 + (3 + 4 * q + 3) by omega, sd_st_ok (by rw [al136]; omega) (sd_al_lt _)]
            obtain ⟨Sa, hSa⟩ : ∃ Sa, Sa = sd_I S1 136 (170 + (3 + 4 * q + 3)) (nI (tc P.1 q ||| 2 ^ p)) := ⟨_, rfl⟩
            rw [← hSa]
            have hta := hW.1.2.2.1
            have hts := hW.1.2.2.2.2.1
            have hOa : OKr Sa tp (addC P.1 p q, P.2.1, P.2.2) (t :: r) := by
              rw [hSa]
              refine okr_town h (by omega) ?_ ?_
              · obtain ⟨u1, u2, u3, u4, u5, u6, u7, u8⟩ := h.2.2.2.1
                refine ⟨?_, ?_, ?_, fun z hz2 => ?_, ?_, fun i hi => ?_, ?_, fun s hs => ?_⟩
                · (try dsimp only); rw [rg_at, if_neg (by omega)]; exact u1
                · (try dsimp only); rw [rg_at, if_neg (by omega)]; exact u2
                · (try dsimp only); rw [rg_at, if_neg (by omega)]; exact u3
                · have hz2 : z < tn P.1 := hz2
                  obtain ⟨w1, w2, w3, w4⟩ := u4 z hz2
                  (try dsimp only)
                  rw [rg_at, if_neg (by omega), rg_at, if_neg (by omega), rg_at, if_neg (by omega), rg_at, addC_c]
                  refine ⟨w1, w2, w3, ?_⟩
                  by_cases cz : z = q
                  · rw [if_pos (by rw [cz]), if_pos cz]
                  · rw [if_neg (by omega), if_neg cz]; exact w4
                · (try dsimp only); rw [rg_at, if_neg (by omega)]; exact u5
                · have hi : i < ta P.1 := hi
                  (try dsimp only); rw [rg_at, if_neg (by omega), rg_at, if_neg (by omega), rg_at, if_neg (by omega)]; exact u6 i hi
                · (try dsimp only); rw [rg_at, if_neg (by omega)]; exact u7
                · have hs : s < ts P.1 := hs
                  (try dsimp only); rw [rg_at, if_neg (by omega), rg_at, if_neg (by omega)]; exact u8 s hs
              · refine ⟨fun z hz2 hp2 => ?_, ?_⟩
                · have hz2 : tn P.1 < z := hz2
                  rw [rg_at, if_neg (by omega), rg_at, if_neg (by omega), rg_at, if_neg (by omega)]; exact h.2.2.2.2.1.1 z hz2 hp2
                · rw [rg_at, if_neg (by omega)]; exact h.2.2.2.2.1.2
            have hz2 : tn P.1 < 12 → Sa.1 136 (170 + (3 + 4 * tn P.1 + 1)) = 0 ∧ Sa.1 136 (170 + (3 + 4 * tn P.1 + 2)) = 0 ∧ Sa.1 136 (170 + (3 + 4 * tn P.1 + 3)) = 0 := by
              intro hn12
              rw [hSa, rg_at, if_neg (by omega), rg_at, if_neg (by omega), rg_at, if_neg (by omega)]
              exact hz hn12
            obtain ⟨kk, k1, k2, k3⟩ := okr_next hOa
            have hRb : OKR (sd_I Sa 130 7 (nI (kk + 1))) tp (addC P.1 p q, P.2.1, P.2.2) r := ⟨k3, by rw [rI_cell (by decide)]; exact hz2⟩
            have fb : FRr S1 (sd_I Sa 130 7 (nI (kk + 1))) := FRr_trans (by rw [hSa]; exact FRr_136 (by omega)) (FRr_130 (by omega))
            have hW2 := PW_addC hW hp hq c1 c2' (by omega)
            rw [k1, nI_1, sd_nm_eq]
            show ∃ S2, _ ∧ SCX S2 tp (if isS r then .ok ((addC P.1 p q, P.2.1, P.2.2), r) else rHost tp.length k p (addC P.1 p q, P.2.1, P.2.2) r) ∧ _
            unfold f_X12_readCalls_b140
            have hout : isNm r = false → f_X12_readCalls_l40 n (nI p) (sd_I Sa 130 7 (nI (kk + 1))) = some ((), sd_I Sa 130 7 (nI (kk + 1))) := by
              intro hno
              obtain ⟨n, rfl⟩ : ∃ n', n = n' + 1 := ⟨n - 1, by omega⟩
              unfold f_X12_readCalls_l40
              rw [sd_cl_ok (n_isName k3), hno, if_pos (by decide)]
            by_cases c4 : isS r = true
            · rw [if_pos c4]
              refine ⟨_, hout ?_, Or.inl hRb, fb⟩
              cases r with
              | nil => rfl
              | cons u q2 =>
                have : u.1 = 3 := by simpa [isS] using c4
                show (u.1 == 1 && _) = false
                rw [this]; rfl
            · rw [if_neg c4]
              have c4' : isS r = false := by simpa using c4
              cases c5 : isNm r with
              | false =>
                refine ⟨_, hout c5, Or.inr ⟨_, r, hRb, hW2, c4', ?_⟩, fb⟩
                cases k with
                | zero =>
                  exfalso
                  have h1 := cH_lt hW2.1 (show p < tn (addC P.1 p q) from hp)
                  have h2 := cH_add (p := p) hq c2'
                  have h1 : cH (addC P.1 p q) p < 12 := h1
                  omega
                | succ k =>
                  rw [rHost_s]
                  unfold oneH sP
                  rw [c5, if_neg (by decide)]
                  rfl
              | true =>
                obtain ⟨S5, y1, y2, y3⟩ := ih n (i + 1) _ _ r (by omega) (by omega) hRb hW2 c5 hp (by
                  have := cH_add (p := p) hq c2'
                  show i + 1 ≤ cH (addC P.1 p q) p
                  omega)
                exact ⟨S5, y1, y2, FRr_trans fb y3⟩
theorem n_rCalls {S : sd_St} {tp : List Nat} {P : Pst} {t : TK} {r : List TK} (hR : OKR S tp P (t :: r)) (hW : PW P) : ∃ S2, f_X12_readCalls S = some ((), S2) ∧ SCX S2 tp (rCalls tp.length P (t :: r)) ∧ FRr S S2 := by
  obtain ⟨h, hz⟩ := hR
  obtain ⟨k, k1, k2, k3⟩ := okr_next h
  obtain ⟨Sa, hSa⟩ : ∃ Sa, Sa = sd_I S 130 7 (nI (k + 1)) := ⟨_, rfl⟩
  rw [← hSa] at k3
  have fa : FRr S Sa := by rw [hSa]; exact FRr_130 (by omega)
  obtain ⟨v, Sb, b1, b2, b3, b4⟩ := n_takeP (P := P) (x := .ok r) k3
  obtain ⟨Sc, c1, c2, c3⟩ := n_takeW b2 (i := 6) (y := 6) (by decide) rfl
  have fr3 : FRr S Sc := FRr_trans fa (FRr_trans (FRb_r b3) (FRb_r c3))
  have e136 : Sc.1 136 = S.1 136 := by rw [c3.1.1 136 (by decide), b3.1.1 136 (by decide), hSa, rI_cell (by decide)]
  have b4 : ∀ tl p, (Except.ok r : Except Nat (List TK)) = .ok tl → sP tp.length P.2.1 tl = .ok p → v = nI p := b4
  have c2 : STr Sc tp P (((sP tp.length P.2.1 r).map (fun _ => r.tail)).bind (sW tp.length 6)) := c2
  have hend : ∀ (S : sd_St) (e : Nat), FLr S e → f_X12_readCalls_l40 sd_FU v S = some ((), S) := by
    intro S e hF
    show f_X12_readCalls_l40 (19999 + 1) _ _ = _
    unfold f_X12_readCalls_l40
    rw [sd_cl_ok (n_isNameF hF), if_pos rfl]
  unfold f_X12_readCalls
  rw [k1, nI_1, sd_nm_eq, ← hSa, sd_cl_ok b1, sd_cl_ok c1]
  show ∃ S2, _ ∧ SCX S2 tp ((sP tp.length P.2.1 r).bind (fun p => (sW tp.length 6 r.tail).bind (fun x => rHost tp.length 12 p P x))) ∧ _
  cases hs : sP tp.length P.2.1 r with
  | error e =>
    rw [hs] at c2
    have c2 : FLr Sc e := c2
    refine ⟨Sc, ?_, Or.inl c2, fr3⟩
    rw [if_neg (FLr_n0 c2), hend Sc e c2]
  | ok p =>
    rw [hs] at c2
    have c2 : STr Sc tp P (sW tp.length 6 r.tail) := c2
    have hv := b4 r p rfl hs
    have hp := sP_lt hW hs
    show ∃ S2, _ ∧ SCX S2 tp ((sW tp.length 6 r.tail).bind (fun x => rHost tp.length 12 p P x)) ∧ _
    cases hs2 : sW tp.length 6 r.tail with
    | error e =>
      rw [hs2] at c2
      have c2 : FLr Sc e := c2
      refine ⟨Sc, ?_, Or.inl c2, fr3⟩
      rw [if_neg (FLr_n0 c2), hend Sc e c2]
    | ok x =>
      rw [hs2] at c2
      have c2 : OKr Sc tp P x := c2
      show ∃ S2, _ ∧ SCX S2 tp (rHost tp.length 12 p P x) ∧ _
      rw [c2.2.1, if_pos rfl, sd_cl_ok (n_isName c2)]
      cases c5 : isNm x with
      | false =>
        obtain ⟨S2, a1, a2, a3⟩ := n_errs c2 (k := 1) (x := 1) (by decide) (by decide) rfl
        refine ⟨S2, ?_, Or.inl ?_, FRr_trans fr3 (FRb_r a3)⟩
        · rw [if_pos (by decide), sd_cl_ok a1, hend S2 _ a2]
        · rw [rHost_s]
          unfold oneH sP
          rw [c5, if_neg (by decide)]
          exact a2
      | true =>
        rw [if_neg (by decide), hv]
        obtain ⟨S4, y1, y2, y3⟩ := n_rHosts (tp := tp) (p := p) 12 sd_FU 0 Sc P x (by omega) (by unfold sd_FU; omega) ⟨c2, by rw [e136]; exact hz⟩ hW c5 hp (Nat.zero_le _)
        exact ⟨S4, y1, y2, FRr_trans fr3 y3⟩
