/-! WAYS THAT SHARE NO DOOR: flows, failed searches, one way more -/
theorem len_inj {α β : Type} [BEq β] [LawfulBEq β] {R : α → β → Prop} (hR : ∀ x x' y, R x y → R x' y → x = x') : ∀ (l1 : List α) (l2 : List β), l1.Nodup → (∀ x ∈ l1, ∃ y ∈ l2, R x y) → l1.length ≤ l2.length := by
  intro l1
  induction l1 with
  | nil => intro l2 _ _; exact Nat.zero_le _
  | cons a t ih =>
    intro l2 hn h
    obtain ⟨y, hy, hay⟩ := h a List.mem_cons_self
    have hn2 := List.nodup_cons.mp hn
    have := ih (l2.erase y) hn2.2 (fun x hx => by
      obtain ⟨y', hy', hr⟩ := h x (List.mem_cons_of_mem _ hx)
      refine ⟨y', (List.mem_erase_of_ne ?_).mpr hy', hr⟩
      intro e
      rw [e] at hr
      have := hR x a y hr hay
      rw [this] at hx
      exact hn2.1 hx)
    rw [List.length_erase_of_mem hy] at this
    have h1 : 0 < l2.length := List.length_pos_of_mem hy
    rw [List.length_cons]
    omega
def cn (N : Nat) (p : Nat → Bool) : Nat := ((List.range N).filter p).length
theorem mem_cn {N : Nat} {p : Nat → Bool} {x : Nat} : x ∈ (List.range N).filter p ↔ x < N ∧ p x = true := by
  rw [List.mem_filter, List.mem_range]
theorem cn_inj {N : Nat} {p q : Nat → Bool} {R : Nat → Nat → Prop} (hR : ∀ x x' y, R x y → R x' y → x = x') (h : ∀ x, x < N → p x = true → ∃ y, y < N ∧ q y = true ∧ R x y) : cn N p ≤ cn N q := by
  refine len_inj hR _ _ (List.Pairwise.filter _ List.nodup_range) (fun x hx => ?_)
  obtain ⟨h1, h2⟩ := mem_cn.mp hx
  obtain ⟨y, y1, y2, y3⟩ := h x h1 h2
  exact ⟨y, mem_cn.mpr ⟨y1, y2⟩, y3⟩
theorem cn_mono {N : Nat} {p q : Nat → Bool} (h : ∀ x, x < N → p x = true → q x = true) : cn N p ≤ cn N q :=
  cn_inj (R := fun x y => x = y) (fun x x' y a b => a.trans b.symm) (fun x hx hp => ⟨x, hx, h x hx hp, rfl⟩)
theorem cn_split (N : Nat) (p q : Nat → Bool) : cn N p = cn N (fun e => p e && q e) + cn N (fun e => p e && !q e) := by
  unfold cn
  induction N with
  | zero => rfl
  | succ N ih =>
    rw [List.range_succ, List.filter_append, List.filter_append, List.filter_append, List.length_append, List.length_append, List.length_append, ih]
    simp only [List.filter_cons, List.filter_nil]
    cases p N <;> cases q N <;> simp <;> omega
theorem cn_one {N : Nat} {p q : Nat → Bool} {r : Nat} (hr : r < N) (h : ∀ x, x < N → x ≠ r → q x = p x) (hq : q r = true) (hp : p r = false) : cn N q = cn N p + 1 := by
  have h1 := cn_split N q (fun x => x == r)
  have h2 : cn N (fun e => q e && (e == r)) = 1 := by
    have ha : cn N (fun e => q e && (e == r)) ≤ 1 := by
      have : cn N (fun e => q e && (e == r)) ≤ [r].length := len_inj (R := fun x y => x = y) (fun x x' y a b => a.trans b.symm) _ _ (List.Pairwise.filter _ List.nodup_range) (fun x hx => by
        obtain ⟨-, h2⟩ := mem_cn.mp hx
        have : x = r := by
          have := (Bool.and_eq_true _ _).mp h2
          simpa using this.2
        exact ⟨x, by rw [this]; exact List.mem_singleton_self _, rfl⟩)
      exact this
    have hb : 0 < cn N (fun e => q e && (e == r)) := List.length_pos_of_mem (mem_cn.mpr ⟨hr, by rw [hq]; simp⟩)
    omega
  have h3 : cn N (fun e => q e && !(e == r)) = cn N p := by
    apply Nat.le_antisymm
    · refine cn_mono (fun x hx hh => ?_)
      have hh := (Bool.and_eq_true _ _).mp hh
      have : x ≠ r := by simpa using hh.2
      rw [← h x hx this]; exact hh.1
    · refine cn_mono (fun x hx hh => ?_)
      have : x ≠ r := fun e => by rw [e, hp] at hh; cases hh
      rw [h x hx this, hh]
      simpa using this
  omega
/-- a flow: which doors are on ways, and which door stands ahead of each -/
def GF (N : Nat) (s t : Nat → Prop) (E : Nat → Nat → Prop) (u : Nat → Bool) (c : Nat → Option Nat) : Prop :=
  (∀ e, u e = true → e < N) ∧ (∀ e, u e = true → c e = none → s e) ∧ (∀ e d, u e = true → c e = some d → u d = true ∧ E d e) ∧ (∀ e e' d, u e = true → u e' = true → c e = some d → c e' = some d → e = e') ∧ ∀ e, u e = true → (∀ e', u e' = true → c e' ≠ some e) → t e
def wo (N : Nat) (u : Nat → Bool) (c : Nat → Option Nat) : Nat := cn N (fun e => u e && (c e).isNone)
/-- no flow is worth more than the doors at which a closed set ends -/
theorem gf_le {N : Nat} {s t : Nat → Prop} {E : Nat → Nat → Prop} {u : Nat → Bool} {c : Nat → Option Nat} (h : GF N s t E u c) {F B : Nat → Bool} (c1 : ∀ e, e < N → s e → F e = true) (c2 : ∀ d e, d < N → e < N → B d = true → E d e → F e = true) (c3 : ∀ d, d < N → B d = true → ¬ t d) : wo N u c ≤ cn N (fun e => F e && !B e) := by
  obtain ⟨h1, h2, h3, h4, h5⟩ := h
  have a1 := cn_split N (fun e => u e && F e) (fun e => (c e).isNone)
  have a2 := cn_split N (fun e => u e && F e) B
  have b1 : wo N u c ≤ cn N (fun e => (u e && F e) && (c e).isNone) := by
    refine cn_mono (fun x hx hh => ?_)
    obtain ⟨q1, q2⟩ := (Bool.and_eq_true _ _).mp hh
    have : c x = none := by simpa using q2
    rw [q1, c1 x hx (h2 x q1 this), q2]
    rfl
  have b2 : cn N (fun e => u e && B e) ≤ cn N (fun e => (u e && F e) && !(c e).isNone) := by
    refine cn_inj (R := fun x y => c y = some x) (fun x x' y a b => by rw [a] at b; exact Option.some.inj b) (fun x hx hh => ?_)
    obtain ⟨q1, q2⟩ := (Bool.and_eq_true _ _).mp hh
    have : ∃ e', u e' = true ∧ c e' = some x := by
      refine Classical.byContradiction (fun z => c3 x hx q2 (h5 x q1 (fun e' ue he => z ⟨e', ue, he⟩)))
    obtain ⟨e', w1, w2⟩ := this
    have hE := (h3 e' x w1 w2).2
    refine ⟨e', h1 e' w1, ?_, w2⟩
    rw [w1, c2 x e' hx (h1 e' w1) q2 hE, w2]
    rfl
  have b3 : cn N (fun e => (u e && F e) && B e) ≤ cn N (fun e => u e && B e) := by
    refine cn_mono (fun x hx hh => ?_)
    obtain ⟨q1, q2⟩ := (Bool.and_eq_true _ _).mp hh
    obtain ⟨q3, q4⟩ := (Bool.and_eq_true _ _).mp q1
    rw [q3, q2]; rfl
  have b4 : cn N (fun e => (u e && F e) && !B e) ≤ cn N (fun e => F e && !B e) := by
    refine cn_mono (fun x hx hh => ?_)
    obtain ⟨q1, q2⟩ := (Bool.and_eq_true _ _).mp hh
    obtain ⟨q3, q4⟩ := (Bool.and_eq_true _ _).mp q1
    rw [q4, q2]; rfl
  omega
/-- a search that failed ends at no more doors than the flow is worth -/
theorem gf_ge {N : Nat} {s t : Nat → Prop} {E : Nat → Nat → Prop} {u : Nat → Bool} {c : Nat → Option Nat} (h : GF N s t E u c) {F B : Nat → Bool} (r1 : ∀ e, u e = true → B e = true → F e = true) (r2 : ∀ e, e < N → F e = true → u e = false → B e = true) (r3 : ∀ e d, F e = true → u e = true → c e = some d → B d = true) : cn N (fun e => F e && !B e) ≤ wo N u c := by
  obtain ⟨h1, h2, h3, h4, h5⟩ := h
  have a1 := cn_split N (fun e => u e && F e) (fun e => (c e).isNone)
  have a2 := cn_split N (fun e => u e && F e) B
  have b1 : cn N (fun e => (u e && F e) && (c e).isNone) ≤ wo N u c := by
    refine cn_mono (fun x hx hh => ?_)
    obtain ⟨q1, q2⟩ := (Bool.and_eq_true _ _).mp hh
    obtain ⟨q3, q4⟩ := (Bool.and_eq_true _ _).mp q1
    rw [q3, q2]; rfl
  have b2 : cn N (fun e => (u e && F e) && !(c e).isNone) ≤ cn N (fun e => u e && B e) := by
    refine cn_inj (p := fun e => (u e && F e) && !(c e).isNone) (R := fun x y => c x = some y ∧ u x = true) (fun x x' y a b => h4 x x' y a.2 b.2 a.1 b.1) (fun x hx hh => ?_)
    obtain ⟨q1, q2⟩ := (Bool.and_eq_true _ _).mp hh
    obtain ⟨q3, q4⟩ := (Bool.and_eq_true _ _).mp q1
    cases hc : c x with
    | none => rw [hc] at q2; cases q2
    | some d =>
      have hd := (h3 x d q3 hc).1
      exact ⟨d, h1 d hd, by rw [hd, r3 x d q4 q3 hc]; rfl, rfl, q3⟩
  have b3 : cn N (fun e => u e && B e) ≤ cn N (fun e => (u e && F e) && B e) := by
    refine cn_mono (fun x hx hh => ?_)
    obtain ⟨q1, q2⟩ := (Bool.and_eq_true _ _).mp hh
    rw [q1, q2, r1 x q1 q2]; rfl
  have b4 : cn N (fun e => F e && !B e) ≤ cn N (fun e => (u e && F e) && !B e) := by
    refine cn_mono (fun x hx hh => ?_)
    obtain ⟨q1, q2⟩ := (Bool.and_eq_true _ _).mp hh
    have hu : u x = true := by
      cases hu : u x with
      | true => rfl
      | false =>
        rw [r2 x hx q1 hu] at q2
        cases q2
    rw [hu, q1, q2]; rfl
  omega
/-- a way found: fronts and backs on it, who reached them, and the last back -/
def WAY (N : Nat) (s : Nat → Prop) (E : Nat → Nat → Prop) (u : Nat → Bool) (c : Nat → Option Nat) (tF : Nat → Option Nat) (tB : Nat → Nat) (onF onB : Nat → Prop) (x : Nat) : Prop :=
  (∀ b, onB b → b < N ∧ onF (tB b) ∧ ((tB b = b ∧ u b = false) ∨ (tB b ≠ b ∧ u (tB b) = true ∧ c (tB b) = some b))) ∧
  (∀ f, onF f → f < N ∧ ((tF f = none ∧ s f) ∨ ∃ d, tF f = some d ∧ onB d ∧ ((d = f ∧ u f = true) ∨ (d ≠ f ∧ E d f)))) ∧
  (∀ f, onF f → ∃ b, onB b ∧ tB b = f) ∧
  (∀ f f', onF f → onF f' → tF f = tF f' → f = f') ∧
  (∀ b, onB b → b ≠ x → ∃ f, onF f ∧ tF f = some b) ∧
  (∀ f, onF f → tF f ≠ some x) ∧ onB x ∧ ∃ r, onF r ∧ tF r = none
/-- what a way changes -/
def CHG (u : Nat → Bool) (c : Nat → Option Nat) (tF : Nat → Option Nat) (tB : Nat → Nat) (onF onB : Nat → Prop) (u' : Nat → Bool) (c' : Nat → Option Nat) : Prop :=
  (∀ e, onF e → tF e = some e → u' e = false) ∧ (∀ e, onB e → tB e = e → u' e = true) ∧ (∀ e, ¬ (onF e ∧ tF e = some e) → ¬ (onB e ∧ tB e = e) → u' e = u e) ∧ (∀ e, onF e → tF e ≠ some e → c' e = tF e) ∧ ∀ e, ¬ (onF e ∧ tF e ≠ some e) → u' e = true → c' e = c e
theorem gf_aug {N : Nat} {s t : Nat → Prop} {E : Nat → Nat → Prop} {u : Nat → Bool} {c : Nat → Option Nat} (h : GF N s t E u c) {tF : Nat → Option Nat} {tB : Nat → Nat} {onF onB : Nat → Prop} {x : Nat} (hw : WAY N s E u c tF tB onF onB x) (ht : t x) {u' : Nat → Bool} {c' : Nat → Option Nat} (hc : CHG u c tF tB onF onB u' c') : GF N s t E u' c' ∧ wo N u' c' = wo N u c + 1 := by
  obtain ⟨h1, h2, h3, h4, h5⟩ := h
  obtain ⟨w1, w2, w3, w4, w5, w6, w7, r, w8, w9⟩ := hw
  obtain ⟨g1, g2, g3, g4, g5⟩ := hc
  -- a back on the way whose door is used: the door behind it is on the way
  have k1 : ∀ b e, onB b → u e = true → c e = some b → onF e ∧ tB b = e := by
    intro b e hb ue ce
    obtain ⟨-, q2, q3⟩ := w1 b hb
    have ub := (h3 e b ue ce).1
    rcases q3 with ⟨-, q⟩ | ⟨-, q4, q5⟩
    · rw [ub] at q; cases q
    · have := h4 _ _ _ q4 ue q5 ce
      rw [this] at q2
      exact ⟨q2, this⟩
  -- a front on the way that isn't given up is used
  have k2 : ∀ f, onF f → tF f ≠ some f → u' f = true := by
    intro f hf hn
    obtain ⟨b, hb, eb⟩ := w3 f hf
    obtain ⟨-, -, q3⟩ := w1 b hb
    rw [eb] at q3
    rcases q3 with ⟨q, -⟩ | ⟨q4, q5, -⟩
    · rw [← q] at eb hb
      exact g2 f hb eb
    · by_cases c2 : onB f ∧ tB f = f
      · exact g2 f c2.1 c2.2
      · rw [g3 f (fun z => hn z.2) c2]; exact q5
  -- a back on the way with a front behind it is used
  have k3 : ∀ d e, onB d → onF e → tF e = some d → d ≠ e → u' d = true := by
    intro d e hd he hte hne
    have hnc : ¬ (onF d ∧ tF d = some d) := fun z => hne (w4 d e z.1 he (z.2.trans hte.symm))
    obtain ⟨-, -, q3⟩ := w1 d hd
    rcases q3 with ⟨q, -⟩ | ⟨q4, q5, q6⟩
    · exact g2 d hd q
    · by_cases c2 : onB d ∧ tB d = d
      · exact g2 d hd c2.2
      · rw [g3 d hnc c2]; exact (h3 _ _ q5 q6).1
  -- off the way: as before
  have k4 : ∀ e, ¬ onF e → u' e = u e := by
    intro e he
    refine g3 e (fun z => he z.1) (fun z => ?_)
    have := (w1 e z.1).2.1
    rw [z.2] at this
    exact he this
  have k5 : ∀ e, ¬ onF e → u' e = true → c' e = c e := fun e he hu => g5 e (fun z => he z.1) hu
  have k6 : ∀ e, onF e → u' e = true → tF e ≠ some e := by
    intro e he hu z
    rw [g1 e he z] at hu; cases hu
  -- its first door wasn't a first door
  have k7 : ∀ e, onF e → ¬ (u e = true ∧ c e = none) := by
    intro e he ⟨z1, z2⟩
    obtain ⟨b, hb, eb⟩ := w3 e he
    obtain ⟨-, -, q3⟩ := w1 b hb
    rw [eb] at q3
    rcases q3 with ⟨q, q'⟩ | ⟨-, -, q6⟩
    · rw [← q, z1] at q'; cases q'
    · rw [z2] at q6; cases q6
  refine ⟨⟨fun e hu => ?_, fun e hu hn => ?_, fun e d hu hd => ?_, fun e e' d hu hu' hd hd' => ?_, fun e hu hno => ?_⟩, ?_⟩
  · by_cases c1 : onF e
    · exact (w2 e c1).1
    · rw [k4 e c1] at hu; exact h1 e hu
  · by_cases c1 : onF e
    · have hne := k6 e c1 hu
      rw [g4 e c1 hne] at hn
      rcases (w2 e c1).2 with ⟨-, q⟩ | ⟨d, q, -⟩
      · exact q
      · rw [hn] at q; cases q
    · rw [k5 e c1 hu] at hn
      rw [k4 e c1] at hu
      exact h2 e hu hn
  · by_cases c1 : onF e
    · have hne := k6 e c1 hu
      rw [g4 e c1 hne] at hd
      rcases (w2 e c1).2 with ⟨q, -⟩ | ⟨d', q, q2, q3⟩
      · rw [hd] at q; cases q
      · rw [hd] at q
        cases q
        rcases q3 with ⟨q3, -⟩ | ⟨q3, q4⟩
        · rw [q3] at hd; exact absurd hd hne
        · exact ⟨k3 d e q2 c1 hd q3, q4⟩
    · have hd2 := hd
      rw [k5 e c1 hu] at hd2
      rw [k4 e c1] at hu
      obtain ⟨q1, q2⟩ := h3 e d hu hd2
      refine ⟨?_, q2⟩
      have hnb : ¬ onB d := fun z => c1 (k1 d e z hu hd2).1
      rw [g3 d (fun z => ?_) (fun z => hnb z.1)]
      · exact q1
      · rcases (w2 d z.1).2 with ⟨q, -⟩ | ⟨d', q, q3, -⟩
        · rw [z.2] at q; cases q
        · rw [z.2] at q
          cases q
          exact hnb q3
  · -- two doors behind one
    have hone : ∀ e e', onF e → ¬ onF e' → u' e = true → u' e' = true → c' e = some d → c' e' = some d → False := by
      intro e e' z1 z2 z3 z4 z5 z6
      rw [g4 e z1 (k6 e z1 z3)] at z5
      rw [k5 e' z2 z4] at z6
      rw [k4 e' z2] at z4
      rcases (w2 e z1).2 with ⟨q, -⟩ | ⟨d', q, q2, -⟩
      · rw [z5] at q; cases q
      · rw [z5] at q
        cases q
        exact z2 (k1 d e' q2 z4 z6).1
    by_cases c1 : onF e
    · by_cases c2 : onF e'
      · rw [g4 e c1 (k6 e c1 hu)] at hd
        rw [g4 e' c2 (k6 e' c2 hu')] at hd'
        exact w4 e e' c1 c2 (hd.trans hd'.symm)
      · exact (hone e e' c1 c2 hu hu' hd hd').elim
    · by_cases c2 : onF e'
      · exact (hone e' e c2 c1 hu' hu hd' hd).elim
      · rw [k5 e c1 hu] at hd
        rw [k5 e' c2 hu'] at hd'
        rw [k4 e c1] at hu
        rw [k4 e' c2] at hu'
        exact h4 e e' d hu hu' hd hd'
  · -- a last door
    by_cases c1 : onB e
    · by_cases c2 : e = x
      · rw [c2]; exact ht
      · obtain ⟨f, q1, q2⟩ := w5 e c1 c2
        by_cases c3 : tF f = some f
        · rw [q2] at c3
          cases c3
          rw [g1 e q1 q2] at hu; cases hu
        · exact absurd ((g4 f q1 c3).trans q2) (hno f (k2 f q1 c3))
    · have hue : u e = true := by
        rw [← hu]
        refine (g3 e (fun z => ?_) (fun z => c1 z.1)).symm
        rcases (w2 e z.1).2 with ⟨q, -⟩ | ⟨d', q, q3, -⟩
        · rw [z.2] at q; cases q
        · rw [z.2] at q
          cases q
          exact c1 q3
      refine h5 e hue (fun e' ue he => ?_)
      by_cases c2 : onF e'
      · obtain ⟨b, hb, eb⟩ := w3 e' c2
        obtain ⟨-, -, q3⟩ := w1 b hb
        rw [eb] at q3
        rcases q3 with ⟨q, q'⟩ | ⟨-, -, q6⟩
        · rw [← q, ue] at q'; cases q'
        · rw [he] at q6
          cases q6
          exact c1 hb
      · have hu2 : u' e' = true := by rw [k4 e' c2]; exact ue
        exact hno e' hu2 (by rw [k5 e' c2 hu2]; exact he)
  · refine cn_one (r := r) (w2 r w8).1 (fun e he hne => ?_) ?_ ?_
    · by_cases c1 : onF e
      · have q := k7 e c1
        have l : (u e && (c e).isNone) = false := by
          cases hue : u e with
          | false => rfl
          | true =>
            cases hce : c e with
            | none => exact absurd ⟨hue, hce⟩ q
            | some d => rfl
        rw [l]
        cases hu : u' e with
        | false => rfl
        | true =>
          rw [g4 e c1 (k6 e c1 hu)]
          cases hte : tF e with
          | none => exact absurd (w4 e r c1 w8 (hte.trans w9.symm)) hne
          | some d => rfl
      · rw [k4 e c1]
        cases hu : u e with
        | false => rfl
        | true => rw [k5 e c1 (by rw [k4 e c1]; exact hu)]
    · have hn : tF r ≠ some r := by rw [w9]; exact fun z => (by cases z)
      rw [k2 r w8 hn, g4 r w8 hn, w9]
      rfl
    · have q := k7 r w8
      cases hue : u r with
      | false => rfl
      | true =>
        cases hce : c r with
        | none => exact absurd ⟨hue, hce⟩ q
        | some d => rfl
