/-! letting in, by the class: all days -/
abbrev ZW : Type := Int32 × (Nat → Nat) × (Nat → Nat)
def stW (T : TW) (f : Nat) (low : Nat → Nat) (t e : Nat) (z : ZW) : ZW := if t < f then z else if nI t = z.1 then (z.1, z.2.1, wl T low t e z.2.1 z.2.2) else (nI t, z.2.2, wl T low t e z.2.2 z.2.2)
def rnW (T : TW) (f : Nat) (low : Nat → Nat) (L : List (Nat × Nat)) (z : ZW) : ZW := L.foldl (fun z ev => stW T f low ev.1 ev.2 z) z
theorem rnW_cons (T : TW) (f : Nat) (low : Nat → Nat) (t e : Nat) (L : List (Nat × Nat)) (z : ZW) : rnW T f low ((t, e) :: L) z = rnW T f low L (stW T f low t e z) := by
  unfold rnW
  rw [List.foldl_cons]
theorem rnW_app (T : TW) (f : Nat) (low : Nat → Nat) (L M : List (Nat × Nat)) (z : ZW) : rnW T f low (L ++ M) z = rnW T f low M (rnW T f low L z) := by
  unfold rnW
  rw [List.foldl_append]
theorem rnW_same {T : TW} {f : Nat} {low : Nat → Nat} {l : Nat} (hf : f ≤ l) : ∀ (es : List Nat) (g0 g : Nat → Nat), rnW T f low (es.map (fun e => (l, e))) (nI l, g0, g) = (nI l, g0, es.foldl (fun a e => wl T low l e g0 a) g) := by
  intro es
  induction es with
  | nil => intro g0 g; rfl
  | cons e es ih =>
    intro g0 g
    rw [List.map_cons, rnW_cons, List.foldl_cons]
    have : stW T f low l e (nI l, g0, g) = (nI l, g0, wl T low l e g0 g) := by
      unfold stW
      rw [if_neg (by omega), if_pos rfl]
    rw [this, ih]
theorem rnW_low {T : TW} {f : Nat} {low : Nat → Nat} {l : Nat} (hf : l < f) : ∀ (es : List Nat) (z : ZW), rnW T f low (es.map (fun e => (l, e))) z = z := by
  intro es
  induction es with
  | nil => intro z; rfl
  | cons e es ih =>
    intro z
    rw [List.map_cons, rnW_cons]
    have : stW T f low l e z = z := by
      unfold stW
      rw [if_pos hf]
    rw [this, ih]
theorem rnW_evs {T : TW} {b f : Nat} {low : Nat → Nat} (hgF : ∀ l p, gS T b f low l p ≤ FARN) {g0 : Nat → Nat} : ∀ l, l ≤ 4392 → (rnW T f low (evs T l) (-1, g0, gS T b f low 0)).2.2 = gS T b f low l ∧ ((rnW T f low (evs T l) (-1, g0, gS T b f low 0)).1 = -1 ∨ ∃ t0, t0 < l ∧ (rnW T f low (evs T l) (-1, g0, gS T b f low 0)).1 = nI t0) := by
  intro l
  induction l with
  | zero => intro _; exact ⟨rfl, Or.inl rfl⟩
  | succ l ih =>
    intro hl
    obtain ⟨i1, i2⟩ := ih (by omega)
    rw [evs_succ, rnW_app, gS_s]
    generalize rnW T f low (evs T l) (-1, g0, gS T b f low 0) = z at i1 i2
    obtain ⟨la, z0, z1⟩ := z
    dsimp only at i1 i2
    subst i1
    unfold dayE
    by_cases c : f ≤ l
    · rw [if_pos c, ← wl_gD (hgF l)]
      cases hes : (List.range (tn T)).filter (fun p => freeB T p l) with
      | nil =>
        refine ⟨rfl, ?_⟩
        rcases i2 with h | ⟨t0, h1, h2⟩
        · exact Or.inl h
        · exact Or.inr ⟨t0, by omega, h2⟩
      | cons e es =>
        have hne : ¬ nI l = la := by
          rcases i2 with h | ⟨t0, h1, h2⟩
          · rw [h]; exact nI_neg1 (by omega)
          · rw [h2]; exact fun z => by have := nI_inj (by omega) (by omega) z; omega
        rw [List.map_cons, rnW_cons, List.foldl_cons]
        have : stW T f low l e (la, z0, gS T b f low l) = (nI l, gS T b f low l, wl T low l e (gS T b f low l) (gS T b f low l)) := by
          unfold stW
          rw [if_neg (by omega), if_neg hne]
        rw [this, rnW_same c]
        exact ⟨rfl, Or.inr ⟨l, by omega, rfl⟩⟩
    · rw [if_neg c, rnW_low (by omega)]
      refine ⟨rfl, ?_⟩
      rcases i2 with h | ⟨t0, h1, h2⟩
      · exact Or.inl h
      · exact Or.inr ⟨t0, by omega, h2⟩
def fewI (v : Nat) : Int32 := if v = FARN then -1 else nI v
theorem gok_up {B C : Nat} (h : B ≤ C) {g : Nat → Nat} (hg : gok B g) : gok C g := fun j => by
  rcases hg j with k | k
  · exact Or.inl ⟨k.1, by omega⟩
  · exact Or.inr k
theorem m_few_e {T : TW} {S : sd_St} {p : Nat} (hp : p < 12) {B : Nat} (hB : B < 10000) {g : Nat → Nat} (hg : gok B g) (hS : ∀ j, j < 12 → S.1 61 j = gI (g j)) : f_X2_fewest_b105 59 28 (nI p) S = some (fewI (g p), S) := by
  have hal : sd_al (59 + 2) = 12 := by decide
  have h61 : S.1 (59 + 2) p = gI (g p) := hS p hp
  unfold f_X2_fewest_b105 fewI
  rw [sd_ld_ok (by rw [hal]; exact hp) (sd_al_lt _), h61, sd_ld_ok (by rw [hal]; exact hp) (sd_al_lt _), h61]
  by_cases c : g p = FARN
  · rw [if_pos ((gI_0 (by omega) hg).mpr c), if_pos c]
  · rw [if_neg (fun z => c ((gI_0 (by omega) hg).mp z)), if_neg c]
    unfold gI
    rw [if_neg c]
def invW (L : List (Nat × Nat)) (i : Nat) (S : sd_St) (z : ZW) : Prop := (z.1 = -1 ∧ gok 1 z.2.2) ∨ ∃ t0, t0 < 4392 ∧ z.1 = nI t0 ∧ (∀ j, j < 12 → S.1 60 j = gI (z.2.1 j)) ∧ gok (t0 + 1) z.2.1 ∧ gok (t0 + 2) z.2.2 ∧ ∀ t e, (t, e) ∈ L.drop i → t0 ≤ t
theorem invW_gok {L : List (Nat × Nat)} {i : Nat} {S : sd_St} {z : ZW} (h : invW L i S z) : gok 5000 z.2.2 := by
  rcases h with h | ⟨t0, h1, -, -, -, h2, -⟩
  · exact gok_up (by omega) h.2
  · exact gok_up (by omega) h2
theorem m_few_l {T : TW} (hw : wfT T) {L : List (Nat × Nat)} (hev : ∀ t e, (t, e) ∈ L → t < 4392 ∧ e < tn T) (hso : L.Pairwise (fun a b => a.1 ≤ b.1)) {f D p U : Nat} {F : Int32} (hf : f < 4392) (hD : D < 4392) (hp : p < 12) (hU : U < 4392) : ∀ (m n i : Nat) (S : sd_St) (z : ZW), i + m = L.length → m < n → DR 28 S T L → S.1 59 0 = F → S.1 59 1 = nI U → (∀ j, j < 12 → S.1 61 j = gI (z.2.2 j)) → invW L i S z →
    ∃ S2, f_X2_fewest_l21 59 28 n (nI f) (nI p) (nI D) z.1 (nI i) S = some (fewI ((rnW T f (lowF F U) ((L.drop i).takeWhile (fun ev => decide (ev.1 < D + 1))) z).2.2 p), S2) ∧ frm (fun a => a = 60 ∨ a = 61) S S2 := by
  have hal1 := al1 kd28
  intro m
  induction m with
  | zero =>
    intro n i S z hi hn hL h0 h1 hS hI
    obtain ⟨n, rfl⟩ : ∃ n', n = n' + 1 := ⟨n - 1, by omega⟩
    have := hL.2.1
    refine ⟨S, ?_, frm_rfl⟩
    unfold f_X2_fewest_l21
    rw [hL.1, if_pos (nI_le (by omega) (by omega)), List.drop_of_length_le (by omega)]
    exact m_few_e (T := T) hp (by decide) (invW_gok hI) hS
  | succ m ih =>
    intro n i S z hi hn hL h0 h1 hS hI
    obtain ⟨n, rfl⟩ : ∃ n', n = n' + 1 := ⟨n - 1, by omega⟩
    have hlen := hL.2.1
    have hil : i < L.length := by omega
    obtain ⟨⟨t, e⟩, hxi⟩ : ∃ y, L[i]? = some y := ⟨_, List.getElem?_eq_getElem hil⟩
    have hdr : L.drop i = (t, e) :: L.drop (i + 1) := by
      rw [List.drop_eq_getElem_cons hil]
      congr 1
      rw [List.getElem?_eq_getElem hil] at hxi
      exact Option.some.inj hxi
    obtain ⟨ht, he⟩ := hev t e (List.mem_of_getElem? hxi)
    obtain ⟨d1, d2, d3⟩ := hL.2.2 i t e hxi
    have hrest : ∀ t' e', (t', e') ∈ L.drop (i + 1) → t ≤ t' := by
      intro t' e' hm
      have hp2 : (L.drop i).Pairwise (fun a b => a.1 ≤ b.1) := hso.sublist (List.drop_sublist _ _)
      rw [hdr, List.pairwise_cons] at hp2
      exact hp2.1 (t', e') hm
    unfold f_X2_fewest_l21
    rw [hL.1, if_neg (nI_ge hil (by omega)), sd_ld_ok (by omega) (sd_al_lt _), d1, sd_ld_ok (by omega) (sd_al_lt _), d1, sd_ld_ok (by omega) (sd_al_lt _), d1, sd_ld_ok (by omega) (sd_al_lt _), d1, hdr]
    by_cases cD : D < t
    · rw [if_pos (nI_lt cD (by omega)), List.takeWhile_cons_of_neg (by simp; omega)]
      exact ⟨S, m_few_e (T := T) hp (by decide) (invW_gok hI) hS, frm_rfl⟩
    · rw [if_neg (nI_nlt (by omega) (by omega)), List.takeWhile_cons_of_pos (by simp; omega), rnW_cons]
      by_cases cf : t < f
      · have hst : stW T f (lowF F U) t e z = z := by unfold stW; rw [if_pos cf]
        unfold f_X2_fewest_b99
        rw [if_neg (nI_ge (by omega) (by omega)), nI_1, hst]
        refine ih n (i + 1) S z (by omega) (by omega) hL h0 h1 hS ?_
        rcases hI with h | ⟨t0, a1, a2, a3, a4, a5, a6⟩
        · exact Or.inl h
        · exact Or.inr ⟨t0, a1, a2, a3, a4, a5, fun t' e' hm => a6 t' e' (by rw [hdr]; exact List.mem_cons_of_mem _ hm)⟩
      · rw [if_pos (nI_le (by omega) (by omega))]
        have hgo : ∀ (S1 : sd_St) (g0 : Nat → Nat), DR 28 S1 T L → S1.1 59 0 = F → S1.1 59 1 = nI U → (∀ j, j < 12 → S1.1 60 j = gI (g0 j)) → (∀ j, j < 12 → S1.1 61 j = gI (z.2.2 j)) → gok (t + 1) g0 → gok (t + 2) z.2.2 → ∃ S2, f_X2_fewest_b92 (f_X2_fewest_l21 59 28 n) 59 28 (nI f) (nI p) (nI D) (nI t) (nI i) S1 = some (fewI ((rnW T f (lowF F U) ((L.drop (i + 1)).takeWhile (fun ev => decide (ev.1 < D + 1))) (nI t, g0, wl T (lowF F U) t e g0 z.2.2)).2.2 p), S2) ∧ frm (fun a => a = 60 ∨ a = 61) S1 S2 := by
          intro S1 g0 b1 b2 b3 b4 b5 b6 b7
          obtain ⟨S2, e1, e2, e3⟩ := m_welcome hw b1 hxi ht he hU b2 b3 (B := t + 2) (by omega) (gok_up (by omega) b6) b7 b4 b5
          obtain ⟨S3, y1, y2⟩ := ih n (i + 1) S2 (nI t, g0, wl T (lowF F U) t e g0 z.2.2) (by omega) (by omega) (DR_fr b1 (by rw [e3.1 28 (by omega)]) (fun a g1 g2 => e3.1 a (by omega))) (by rw [e3.1 59 (by omega)]; exact b2) (by rw [e3.1 59 (by omega)]; exact b3) e2 (Or.inr ⟨t, ht, rfl, by rw [e3.1 60 (by omega)]; exact b4, b6, gok_wl b6 b7 (by omega), hrest⟩)
          refine ⟨S3, ?_, frm_trans e3 y2 (fun a h => Or.inr h) (fun _ h => h)⟩
          unfold f_X2_fewest_b92 f_X2_fewest_b99
          rw [sd_cl_ok e1, nI_1]
          exact y1
        by_cases cl : nI t = z.1
        · obtain ⟨t0, a1, a2, a3, a4, a5, a6⟩ := hI.resolve_left (fun h => by
            rw [h.1] at cl
            exact nI_neg1 (by omega) cl)
          have : t0 = t := nI_inj (by omega) (by omega) (by rw [← a2, cl])
          subst this
          have hst : stW T f (lowF F U) t0 e z = (nI t0, z.2.1, wl T (lowF F U) t0 e z.2.1 z.2.2) := by unfold stW; rw [if_neg cf, if_pos cl, ← cl]
          rw [if_pos cl, hst, ← cl]
          exact hgo S z.2.1 hL h0 h1 a3 hS a4 a5
        · have hst : stW T f (lowF F U) t e z = (nI t, z.2.2, wl T (lowF F U) t e z.2.2 z.2.2) := by unfold stW; rw [if_neg cf, if_neg cl]
          have hgk : gok (t + 1) z.2.2 := by
            rcases hI with h | ⟨t0, a1, a2, a3, a4, a5, a6⟩
            · exact gok_up (by omega) h.2
            · have g1 := a6 t e (by rw [hdr]; exact List.mem_cons_self)
              have g2 : t0 ≠ t := fun z => cl (by rw [a2, z])
              exact gok_up (by omega) a5
          have hcp : ∀ (k : sd_St → Option (Int32 × sd_St)), sd_cp S (59 + 2) (0 : Int32) (59 + 1) (0 : Int32) (12 : Int32) k = k (sd_A S 60 (va_cpy (S.1 61) (S.1 60) 0 0 12)) := fun k => sd_cp_ok (k0 := 59 + 2) (k1 := 59 + 1) (a := 0) (b := 0) (n := 12) (by decide) (by decide)
          rw [if_neg cl, hst, hcp]
          obtain ⟨S2, y1, y2⟩ := hgo (sd_A S 60 (va_cpy (S.1 61) (S.1 60) 0 0 12)) z.2.2 (DR_fr hL (by rw [rA_cell (by omega)]) (fun a g1 g2 => rA_cell (by omega))) (by rw [rA_cell (by omega)]; exact h0) (by rw [rA_cell (by omega)]; exact h1) (fun j hj => by rw [rA_same, va_cpy, if_pos ⟨by omega, by omega⟩, Nat.sub_zero, Nat.zero_add]; exact hS j hj) (by rw [rA_cell (by omega)]; exact hS) hgk (gok_up (by omega) hgk)
          exact ⟨S2, y1, frm_trans (frm_A (c := fun a => a = 60 ∨ a = 61) (Or.inl rfl)) y2 (fun _ h => h) (fun _ h => h)⟩
theorem evs_tw (T : TW) {l : Nat} (hl : l ≤ 4392) : (evs T 4392).takeWhile (fun ev => decide (ev.1 < l)) = evs T l := by
  rw [takeWhile_filter (evs_EV T).weak.1]
  refine lx_uniq _ _ ((evs_lx T 4392).filter _) (evs_lx T l) (fun x => ?_)
  obtain ⟨t, p⟩ := x
  rw [List.mem_filter, evs_mem, evs_mem]
  constructor
  · rintro ⟨h1, h2⟩
    exact ⟨h1.1, by simpa using h2⟩
  · rintro ⟨h1, h2⟩
    exact ⟨⟨h1, by omega⟩, by simpa using h2⟩
theorem m_fewest {T : TW} (hw : wfT T) {S : sd_St} (hL : DR 28 S T (evs T 4392)) {b f D p U : Nat} {F : Int32} (hb : b < tn T) (hf : f < 4392) (hD : D < 4392) (hp : p < 12) (hU : U < 4392) (h0 : S.1 59 0 = F) (h1 : S.1 59 1 = nI U) (hgF : ∀ l p, gS T b f (lowF F U) l p ≤ FARN) : ∃ S2, f_X2_fewest 59 28 (nI b) (nI f) (nI p) (nI D) S = some (fewI (gS T b f (lowF F U) (D + 1) p), S2) ∧ frm (fun a => a = 60 ∨ a = 61) S S2 := by
  have h12 := hw.1
  have hal1 := al1 kd28
  have hlen := hL.2.1
  obtain ⟨S1, e1, e2, e3⟩ := m_fill2 (k := 61) (by decide) 0 S
  have e2 : ∀ j, j < 12 → S1.1 61 j = 0 := fun j hj => e2 j (by rw [show sd_al 61 = 12 by decide]; exact hj)
  have f1 : frm (fun a => a = 60 ∨ a = 61) S (sd_I S1 61 b 1) := frm_trans e3 (frm_I (c := fun a => a = 60 ∨ a = 61) (Or.inr rfl)) (fun _ h => Or.inr h) (fun _ h => h)
  obtain ⟨S2, y1, y2⟩ := m_few_l hw (EVw_in (evs_EV T).weak) (evs_EV T).weak.1 (F := F) hf hD hp hU (evs T 4392).length sd_FU 0 (sd_I S1 61 b 1) (-1, fun _ => 0, gS T b f (lowF F U) 0) (by omega) (by unfold sd_FU; omega) (DR_fr hL (by rw [f1.1 28 (by omega)]) (fun a g1 g2 => f1.1 a (by omega))) (by rw [f1.1 59 (by omega)]; exact h0) (by rw [f1.1 59 (by omega)]; exact h1) (fun j hj => by
    show _ = gI (if j = b then 1 else FARN)
    by_cases c : j = b
    · rw [if_pos c, c, rI_same]; rfl
    · rw [if_neg c, rI_oth c, e2 j hj]; rfl) (Or.inl ⟨rfl, fun j => by
    show (0 < (if j = b then 1 else FARN) ∧ (if j = b then 1 else FARN) ≤ 1) ∨ (if j = b then 1 else FARN) = FARN
    by_cases c : j = b
    · rw [if_pos c]; exact Or.inl ⟨by decide, by decide⟩
    · rw [if_neg c]; exact Or.inr rfl⟩)
  rw [List.drop_zero, evs_tw T (show D + 1 ≤ 4392 by omega), (rnW_evs hgF (D + 1) (by omega)).1] at y1
  refine ⟨S2, ?_, frm_trans f1 y2 (fun _ h => h) (fun _ h => h)⟩
  unfold f_X2_fewest
  rw [sd_cl_ok (show f_J7_fill_53178 (59 + 2) 0 S = some ((), S1) from e1), sd_st_ok (by rw [show sd_al (59 + 2) = 12 by decide]; omega) (sd_al_lt _)]
  exact y1
