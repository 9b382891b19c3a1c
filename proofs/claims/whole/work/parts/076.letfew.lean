/-! letting in, by the class: all days -/
abbrev ZW : Type := Int32 × (Nat → Nat) × (Nat → Nat)
def stW (T : TW) (f : Nat) (low : Nat → Nat) (t e : Nat) (z : ZW) : ZW := if t < f then z else if nI t = z.1 then (z.1, z.2.1, wl T low t e z.2.1 z.2.2) else (nI t, z.2.2, wl T low t e z.2.2 z.2.2)
def rnW (T : TW) (f : Nat) (low : Nat → Nat) (L : List (Nat × Nat)) (z : ZW) : ZW := L.foldl (fun z ev => stW T f low ev.1 ev.2 z) z
theorem rnW_cons (T : TW) (f : Nat) (low : Nat → Nat) (t e : Nat) (L : List (Nat × Nat)) (z : ZW) : rnW T f low ((t, e) :: L) z = rnW T f low L (stW T f low t e z) := by
  unfold rnW
  rw [List.foldl_cons]
theorem rnW_app (T : TW) (f : Nat) (low : Nat → Nat) (L M : List (Nat × Nat)) (z : ZW) : rnW T f low (L ++ M) z = rnW T f low M (rnW T f low L z) := by
  unfold rnW
  rw [List.foldl_append]
theorem rnW_same {T : TW} {f : Nat} {low : Nat → Nat} {l : Nat} (hf : f ≤ l) : ∀ (es : List Nat) (g0 g : Nat → Nat), rnW T f low (es.map (fun e => (l, e))) (nI l, g0, g) = (nI l, g0, es.foldl (fun a e => wl T low l e g0 a) g) := by
  intro es
  induction es with
  | nil => intro g0 g; rfl
  | cons e es ih =>
    intro g0 g
    rw [List.map_cons, rnW_cons, List.foldl_cons]
    have : stW T f low l e (nI l, g0, g) = (nI l, g0, wl T low l e g0 g) := by
      unfold stW
      rw [if_neg (by omega), if_pos rfl]
    rw [this, ih]
theorem rnW_low {T : TW} {f : Nat} {low : Nat → Nat} {l : Nat} (hf : l < f) : ∀ (es : List Nat) (z : ZW), rnW T f low (es.map (fun e => (l, e))) z = z := by
  intro es
  induction es with
  | nil => intro z; rfl
  | cons e es ih =>
    intro z
    rw [List.map_cons, rnW_cons]
    have : stW T f low l e z = z := by
      unfold stW
      rw [if_pos hf]
    rw [this, ih]
theorem rnW_evs {T : TW} {b f : Nat} {low : Nat → Nat} (hgF : ∀ l p, gS T b f low l p ≤ FARN) {g0 : Nat → Nat} : ∀ l, l ≤ 4392 → (rnW T f low (evs T l) (-1, g0, gS T b f low 0)).2.2 = gS T b f low l ∧ ((rnW T f low (evs T l) (-1, g0, gS T b f low 0)).1 = -1 ∨ ∃ t0, t0 < l ∧ (rnW T f low (evs T l) (-1, g0, gS T b f low 0)).1 = nI t0) := by
  intro l
  induction l with
  | zero => intro _; exact ⟨rfl, Or.inl rfl⟩
  | succ l ih =>
    intro hl
    obtain ⟨i1, i2⟩ := ih (by omega)
    rw [evs_succ, rnW_app, gS_s]
    generalize rnW T f low (evs T l) (-1, g0, gS T b f low 0) = z at i1 i2
    obtain ⟨la, z0, z1⟩ := z
    dsimp only at i1 i2
    subst i1
    unfold dayE
    by_cases c : f ≤ l
    · rw [if_pos c, ← wl_gD (hgF l)]
      cases hes : (List.range (tn T)).filter (fun p => freeB T p l) with
      | nil =>
        refine ⟨rfl, ?_⟩
        rcases i2 with h | ⟨t0, h1, h2⟩
        · exact Or.inl h
        · exact Or.inr ⟨t0, by omega, h2⟩
      | cons e es =>
        have hne : ¬ nI l = la := by
          rcases i2 with h | ⟨t0, h1, h2⟩
          · rw [h]; exact nI_neg1 (by omega)
          · rw [h2]; exact fun z => by have := nI_inj (by omega) (by omega) z; omega
        rw [List.map_cons, rnW_cons, List.foldl_cons]
        have : stW T f low l e (la, z0, gS T b f low l) = (nI l, gS T b f low l, wl T low l e (gS T b f low l) (gS T b f low l)) := by
          unfold stW
          rw [if_neg (by omega), if_neg hne]
        rw [this, rnW_same c]
        exact ⟨rfl, Or.inr ⟨l, by omega, rfl⟩⟩
    · rw [if_neg c, rnW_low (by omega)]
      refine ⟨rfl, ?_⟩
      rcases i2 with h | ⟨t0, h1, h2⟩
      · exact Or.inl h
      · exact Or.inr ⟨t0, by omega, h2⟩
def fewI (v : Nat) : Int32 := if v = FARN then -1 else nI v
theorem gok_up {B C : Nat} (h : B ≤ C) {g : Nat → Nat} (hg : gok B g) : gok C g := fun j => by
  rcases hg j with k | k
  · exact Or.inl ⟨k.1, by omega⟩
  · exact Or.inr k
theorem m_few_e {T : TW} {S : sd_St} {p : Nat} (hp : p < 12) {B : Nat} (hB : B < 10000) {g : Nat → Nat} (hg : gok B g) (hS : ∀ j, j < 12 → S.1 61 j = gI (g j)) : f_X2_fewest_b105 59 28 (nI p) S = some (fewI (g p), S) := by
  have hal : sd_al (59 + 2) = 12 := by decide
  have h61 : S.1 (59 + 2) p = gI (g p) := hS p hp
  unfold f_X2_fewest_b105 fewI
  rw [sd_ld_ok (by rw [hal]; exact hp) (sd_al_lt _), h61, sd_ld_ok (by rw [hal]; exact hp) (sd_al_lt _), h61]
  by_cases c : g p = FARN
  · rw [if_pos ((gI_0 (by omega) hg).mpr c), if_pos c]
  · rw [if_neg (fun z => c ((gI_0 (by omega) hg).mp z)), if_neg c]
    unfold gI
    rw [if_neg c]
