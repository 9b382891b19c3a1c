/-! THE REFERENCE READS LINE AFTER LINE -/
theorem rExt_PW {L p : Nat} : ∀ (k : Nat) (a b : Bool) (P P2 : Pst) (tl tl2 : List TK), PW P → rExt L k a b p P tl = .ok (P2, tl2) → PW P2 := by
  intro k
  induction k with
  | zero =>
    intro a b P P2 tl tl2 hW h
    unfold rExt at h
    cases h
    exact hW
  | succ k ih =>
    intro a b P P2 tl tl2 hW h
    unfold rExt at h
    by_cases c3 : isW 3 tl = true
    · rw [if_pos c3] at h
      by_cases ca : a = true
      · rw [if_pos ca] at h; cases h
      · rw [if_neg ca] at h
        obtain ⟨⟨x, t1⟩, h1, h2⟩ := bind_ok h
        have := sN_le h1
        exact ih true b _ P2 _ tl2 (PW_setM hW (by show x + 1 ≤ 366; omega)) h2
    · rw [if_neg c3] at h
      by_cases c4 : isW 4 tl = true
      · rw [if_pos c4] at h
        by_cases cb : b = true
        · rw [if_pos cb] at h; cases h
        · rw [if_neg cb] at h
          obtain ⟨⟨x, t1⟩, h1, h2⟩ := bind_ok h
          have := sN_le h1
          exact ih a true _ P2 _ tl2 (PW_setI hW (by show x ≤ 99; omega)) h2
      · rw [if_neg c4] at h
        cases h
        exact hW
theorem rHost_PW {L p : Nat} : ∀ (k : Nat) (P P2 : Pst) (tl tl2 : List TK), PW P → p < tn P.1 → rHost L k p P tl = .ok (P2, tl2) → PW P2 := by
  intro k
  induction k with
  | zero =>
    intro P P2 tl tl2 hW hp h
    unfold rHost at h
    cases h
    exact hW
  | succ k ih =>
    intro P P2 tl tl2 hW hp h
    unfold rHost at h
    obtain ⟨q, h1, h2⟩ := bind_ok h
    have hq := sP_lt hW h1
    by_cases c1 : q = p ∨ (tc P.1 q).testBit p = true
    · rw [if_pos c1] at h2; cases h2
    · rw [if_neg c1] at h2
      by_cases c2 : 6 ≤ pcB (tc P.1 q)
      · rw [if_pos c2] at h2; cases h2
      · rw [if_neg c2] at h2
        have hW2 := PW_addC hW hp hq (fun z => c1 (Or.inl z)) (by
          cases hb : (tc P.1 q).testBit p with
          | false => rfl
          | true => exact absurd (Or.inr hb) c1) (by omega)
        by_cases c3 : isS tl.tail = true
        · rw [if_pos c3] at h2
          cases h2
          exact hW2
        · rw [if_neg c3] at h2
          exact ih _ P2 _ tl2 hW2 hp h2
theorem rLine_PW {L : Nat} {P P2 : Pst} {tl tl2 : List TK} (hW : PW P) (hok : ∀ t ∈ tl, okT t) (h : rLine L P tl = .ok (P2, tl2)) : PW P2 := by
  have hw : ∀ (u : List TK), (∀ t ∈ u, okT t) → isNm u = true → okW (hdw u) := by
    intro u hu hn
    obtain ⟨t, r, rfl, ht⟩ := isNm_cons hn
    exact okW_of (hu t List.mem_cons_self) ht
  have htl : ∀ t ∈ tl.tail, okT t := fun t ht => hok t (List.mem_of_mem_tail ht)
  unfold rLine at h
  by_cases c0 : isW 0 tl = true
  · rw [if_pos c0] at h
    unfold rLeap at h
    by_cases c : P.2.2 = true
    · rw [if_pos c] at h; cases h
    · rw [if_neg c] at h
      obtain ⟨⟨x, t1⟩, h1, h2⟩ := map_ok h
      have := sN_le h1
      cases h2
      exact PW_setL hW this
  · rw [if_neg c0] at h
    by_cases c1 : isW 1 tl = true
    · rw [if_pos c1] at h
      unfold rPerson at h
      by_cases c : tn P.1 = 12
      · rw [if_pos c] at h; cases h
      · rw [if_neg c] at h
        obtain ⟨⟨w, t1⟩, h1, h2⟩ := bind_ok h
        obtain ⟨⟨d, t3⟩, h3, h4⟩ := bind_ok h2
        obtain ⟨t4, -, h6⟩ := bind_ok h3
        have hd := sN_le h6
        obtain ⟨s1, s2, -, s4⟩ := sNew_ok h1
        have h12 := hW.1.1
        exact rExt_PW 3 false false _ P2 _ tl2 (PW_addP hW (by omega) hd (by rw [s2]; exact hw _ htl s4) s1) h4
    · rw [if_neg c1] at h
      by_cases c5 : isW 5 tl = true
      · rw [if_pos c5] at h
        unfold rCalls at h
        obtain ⟨p, h1, h2⟩ := bind_ok h
        obtain ⟨x, -, h4⟩ := bind_ok h2
        exact rHost_PW 12 P P2 _ tl2 hW (sP_lt hW h1) h4
      · rw [if_neg c5] at h
        by_cases c7 : isW 7 tl = true
        · rw [if_pos c7] at h
          unfold rAway at h
          by_cases c : ta P.1 = 12
          · rw [if_pos c] at h; cases h
          · rw [if_neg c] at h
            obtain ⟨p, h1, h2⟩ := bind_ok h
            obtain ⟨⟨f, t2⟩, h3, h4⟩ := bind_ok h2
            obtain ⟨⟨u, t3⟩, h5, h6⟩ := map_ok h4
            obtain ⟨t4, -, h8⟩ := bind_ok h5
            have hd := sD_le h8
            have h12 := hW.1.2.2.1
            have hp := sP_lt hW h1
            cases h6
            exact PW_addA hW (by omega) hp hd.2 hd.1
        · rw [if_neg c7] at h
          by_cases c10 : isW 10 tl = true
          · rw [if_pos c10] at h
            unfold rSecret at h
            by_cases c : ts P.1 = 4
            · rw [if_pos c] at h; cases h
            · rw [if_neg c] at h
              obtain ⟨⟨w, t1⟩, h1, h2⟩ := bind_ok h
              obtain ⟨t2, -, h4⟩ := bind_ok h2
              obtain ⟨p, h5, h6⟩ := bind_ok h4
              obtain ⟨⟨x, t3⟩, h7, h8⟩ := map_ok h6
              obtain ⟨t4, -, h10⟩ := bind_ok h7
              have hd := sD_le h10
              have hp := sP_lt hW h5
              obtain ⟨s1, s2, -, s4⟩ := sNew_ok h1
              have h4 := hW.1.2.2.2.2.1
              cases h8
              exact PW_addS hW (by omega) hp hd.1 (by rw [s2]; exact hw _ htl s4) s1
          · rw [if_neg c10] at h
            by_cases c12 : isW 12 tl = true
            · rw [if_pos c12] at h
              unfold rLaw at h
              by_cases c : tz P.1 = 1
              · rw [if_pos c] at h; cases h
              · rw [if_neg c] at h
                obtain ⟨t1, h1, h2⟩ := map_ok h
                cases h2
                exact PW_setZ hW
            · rw [if_neg c12] at h; cases h
theorem n_rLine {S : sd_St} {tp : List Nat} {P : Pst} {t : TK} {r : List TK} (hR : OKR S tp P (t :: r)) (hW : PW P) : ∃ S2, f_X12_readLine S = some ((), S2) ∧ SCX S2 tp (rLine tp.length P (t :: r)) ∧ FRr S S2 := by
  have h := hR.1
  unfold f_X12_readLine rLine
  rw [sd_cl_ok (n_isWord h (i := 0) (x := 0) (by decide) rfl)]
  cases c0 : isW 0 (t :: r) with
  | true =>
    obtain ⟨S2, a1, a2, a3⟩ := n_rLeap hR
    exact ⟨S2, by rw [if_neg (by decide), sd_cl_ok a1], Or.inl a2, a3⟩
  | false =>
    rw [if_pos (by decide), sd_cl_ok (n_isWord h (i := 1) (x := 1) (by decide) rfl), if_neg (show ¬ (false = true) by decide)]
    cases c1 : isW 1 (t :: r) with
    | true =>
      obtain ⟨S2, a1, a2, a3⟩ := n_rPerson hR hW
      exact ⟨S2, by rw [if_neg (by decide), sd_cl_ok a1], Or.inl a2, a3⟩
    | false =>
      rw [if_pos (by decide), sd_cl_ok (n_isWord h (i := 5) (x := 5) (by decide) rfl), if_neg (show ¬ (false = true) by decide)]
      cases c5 : isW 5 (t :: r) with
      | true =>
        obtain ⟨S2, a1, a2, a3⟩ := n_rCalls hR hW
        exact ⟨S2, by rw [if_neg (by decide), sd_cl_ok a1], a2, a3⟩
      | false =>
        rw [if_pos (by decide), sd_cl_ok (n_isWord h (i := 7) (x := 7) (by decide) rfl), if_neg (show ¬ (false = true) by decide)]
        cases c7 : isW 7 (t :: r) with
        | true =>
          obtain ⟨S2, a1, a2, a3⟩ := n_rAway hR hW
          exact ⟨S2, by rw [if_neg (by decide), sd_cl_ok a1], Or.inl a2, a3⟩
        | false =>
          rw [if_pos (by decide), sd_cl_ok (n_isWord h (i := 10) (x := 10) (by decide) rfl), if_neg (show ¬ (false = true) by decide)]
          cases c10 : isW 10 (t :: r) with
          | true =>
            obtain ⟨S2, a1, a2, a3⟩ := n_rSecret hR hW
            exact ⟨S2, by rw [if_neg (by decide), sd_cl_ok a1], Or.inl a2, a3⟩
          | false =>
            rw [if_pos (by decide), sd_cl_ok (n_isWord h (i := 12) (x := 12) (by decide) rfl), if_neg (show ¬ (false = true) by decide)]
            cases c12 : isW 12 (t :: r) with
            | true =>
              obtain ⟨S2, a1, a2, a3⟩ := n_rLaw hR hW.1.2.2.2.2.2.2.2
              exact ⟨S2, by rw [if_neg (by decide), sd_cl_ok a1], Or.inl a2, a3⟩
            | false =>
              obtain ⟨S2, a1, a2, a3⟩ := n_errs h (k := 1) (x := 1) (by decide) (by decide) rfl
              exact ⟨S2, by rw [if_pos (by decide), sd_cl_ok a1], Or.inl a2, FRb_r a3⟩
/-- where the reading ends: what was told, or the fault -/
def ENDr (S : sd_St) (tp : List Nat) : Except Nat Pst → Prop
  | .ok P => OKR S tp P []
  | .error e => FLr S e
theorem n_town_l {tp : List Nat} : ∀ (k n : Nat) (S : sd_St) (P : Pst) (tl : List TK), tl.length ≤ k → k + 1 < n → OKR S tp P tl → PW P → ∃ S2, f_X12_town_l45 n S = f_X12_town_b77 S2 ∧ ENDr S2 tp (rAll tp.length (k + 1) P tl) ∧ FRr S S2 := by
  intro k
  induction k with
  | zero =>
    intro n S P tl hk hn h hW
    obtain ⟨n, rfl⟩ : ∃ n', n = n' + 1 := ⟨n - 1, by omega⟩
    cases tl with
    | nil =>
      obtain ⟨i, k1, k2, k3, k4, k5⟩ := okr_at h.1
      refine ⟨S, ?_, h, FRr_rfl⟩
      unfold f_X12_town_l45
      rw [h.1.2.1, if_pos rfl, k1, sd_ld_ok (by rw [al132]; omega) (sd_al_lt _), k4 rfl, if_pos rfl]
    | cons t r => simp at hk
  | succ k ih =>
    intro n S P tl hk hn h hW
    obtain ⟨n, rfl⟩ : ∃ n', n = n' + 1 := ⟨n - 1, by omega⟩
    obtain ⟨i, k1, k2, k3, k4, k5⟩ := okr_at h.1
    cases tl with
    | nil =>
      refine ⟨S, ?_, h, FRr_rfl⟩
      unfold f_X12_town_l45
      rw [h.1.2.1, if_pos rfl, k1, sd_ld_ok (by rw [al132]; omega) (sd_al_lt _), k4 rfl, if_pos rfl]
    | cons t r =>
      obtain ⟨⟨-, q⟩, hk2⟩ := k5 t r rfl
      have hne : ¬ S.1 132 i = 0 := by
        rcases q with ⟨-, q2, -⟩ | ⟨-, q2, -⟩ | ⟨-, q2, -⟩ | ⟨-, q2 | ⟨q2, -⟩⟩ <;> rw [q2] <;> decide
      obtain ⟨S2, a1, a2, a3⟩ := n_rLine h hW
      have hend : ∀ (S3 : sd_St) (e n : Nat), 0 < n → FLr S3 e → f_X12_town_l45 n S3 = f_X12_town_b77 S3 := by
        intro S3 e n h0 hF
        obtain ⟨n, rfl⟩ : ∃ n', n = n' + 1 := ⟨n - 1, by omega⟩
        unfold f_X12_town_l45
        rw [if_neg (FLr_n0 hF)]
      have hgo : ∀ R, (∃ S3, f_X12_takeSign (59 : Int32) S2 = some ((), S3) ∧ f_X12_town_l45 n S3 = R) → f_X12_town_l45 (n + 1) S = R := by
        intro R hRR
        obtain ⟨S3, r1, r2⟩ := hRR
        show (if (S.1 130 8) = 0 then _ else _) = R
        rw [h.1.2.1, if_pos rfl, k1, sd_ld_ok (by rw [al132]; omega) (sd_al_lt _), if_neg hne, sd_cl_ok a1, sd_cl_ok r1, r2]
      show ∃ S3, _ ∧ ENDr S3 tp ((rLine tp.length P (t :: r)).bind _) ∧ _
      rcases a2 with a2 | ⟨P', tl', b1, b2, b3, b4⟩
      · cases hl : rLine tp.length P (t :: r) with
        | error e =>
          rw [hl] at a2
          have a2 : FLr S2 e := a2
          obtain ⟨S3, r1, r2, r3⟩ := n_takeS (tp := tp) (P := P) (x := .error e) a2
          have r2 : FLr S3 e := r2
          exact ⟨S3, hgo _ ⟨S3, r1, hend S3 e n (by omega) r2⟩, r2, FRr_trans a3 (FRb_r r3)⟩
        | ok z =>
          obtain ⟨P2, tl2⟩ := z
          rw [hl] at a2
          have a2 : OKR S2 tp P2 tl2 := a2
          have hW2 := rLine_PW hW (fun t ht => (okr_ok h.1 t ht).1) hl
          have hlen := rLine_len hl
          obtain ⟨S3, r1, r2, r3⟩ := n_takeS (tp := tp) (P := P2) (x := .ok tl2) a2.1
          have r2 : STr S3 tp P2 (sS tp.length tl2) := r2
          show ∃ S3, _ ∧ ENDr S3 tp ((sS tp.length tl2).bind _) ∧ _
          cases hs : sS tp.length tl2 with
          | error e =>
            rw [hs] at r2
            have r2 : FLr S3 e := r2
            exact ⟨S3, hgo _ ⟨S3, r1, hend S3 e n (by omega) r2⟩, r2, FRr_trans a3 (FRb_r r3)⟩
          | ok tl3 =>
            rw [hs] at r2
            have r2 : OKr S3 tp P2 tl3 := r2
            have h3 : tl3.length ≤ tl2.length := by
              unfold sS at hs
              by_cases c : isS tl2 = true
              · rw [if_pos c] at hs
                cases hs
                rw [List.length_tail]; omega
              · rw [if_neg c] at hs; cases hs
            have hk3 : tl3.length ≤ k := by
              have : (t :: r).length = r.length + 1 := rfl
              omega
            obtain ⟨S4, y1, y2, y3⟩ := ih n S3 P2 tl3 hk3 (by omega) ⟨r2, by rw [r3.1.1 136 (by decide)]; exact a2.2⟩ hW2
            exact ⟨S4, hgo _ ⟨S3, r1, y1⟩, y2, FRr_trans a3 (FRr_trans (FRb_r r3) y3)⟩
      · obtain ⟨S3, r1, r2, r3⟩ := n_takeS (tp := tp) (P := P') (x := .ok tl') b1.1
        have r2 : STr S3 tp P' (sS tp.length tl') := r2
        have hs : sS tp.length tl' = .error (flt 1 tp.length tl') := by
          unfold sS
          rw [b3, if_neg (by decide)]
        rw [hs] at r2
        have r2 : FLr S3 _ := r2
        rw [b4]
        exact ⟨S3, hgo _ ⟨S3, r1, hend S3 _ n (by omega) r2⟩, r2, FRr_trans a3 (FRb_r r3)⟩
