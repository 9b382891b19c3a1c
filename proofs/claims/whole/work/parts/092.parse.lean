/-! WHAT A TOWN TOLD COMES TO: the tokens read -/
def kws : List (List Nat) := [[108, 101, 97, 112], [112, 101, 114, 115, 111, 110], [98, 111, 114, 110], [110, 97, 109, 101], [105, 108, 108], [99, 97, 108, 108, 115], [111, 110], [97, 119, 97, 121], [102, 114, 111, 109], [116, 111], [115, 101, 99, 114, 101, 116], [119, 105, 116, 104], [108, 97, 119], [110, 97, 109, 101, 115]]
def kw (i : Nat) : List Nat := kws.getD i []
theorem kw_C : ∀ i, i < 14 → sd_no i = wC (kw i) := by
  intro i hi
  have : ∀ i : Fin 14, sd_no i.val = wC (kw i.val) := by decide +kernel
  exact this ⟨i, hi⟩
theorem kw_R : ∀ i, i < 14 → wdsL.getD i 0 = wR (kw i) := by
  intro i hi
  have : ∀ i : Fin 14, wdsL.getD i.val 0 = wR (kw i.val) := by decide +kernel
  exact this ⟨i, hi⟩
theorem kw_ok : ∀ i, i < 14 → okW (kw i) := by
  intro i hi
  have : ∀ i : Fin 14, (kw i.val).all isL = true ∧ (kw i.val).length ≤ 8 := by decide +kernel
  obtain ⟨h1, h2⟩ := this ⟨i, hi⟩
  exact ⟨fun c hc => List.all_eq_true.mp h1 c hc, h2⟩
abbrev NL : Type := List (List Nat × Nat)
abbrev Pst : Type := TW × NL × Bool
def flt (k L : Nat) (ts : List TK) : Nat := k + 16 * plc L ts
def isW (i : Nat) : List TK → Bool
  | [] => false
  | t :: _ => t.1 == 1 && t.2.2 == kw i
def isNm : List TK → Bool
  | [] => false
  | t :: _ => t.1 == 1 && !(kws.any (fun w => w == t.2.2))
def isN : List TK → Bool
  | [] => false
  | t :: _ => t.1 == 2
def isS : List TK → Bool
  | [] => false
  | t :: _ => t.1 == 3
def hdw : List TK → List Nat
  | [] => []
  | t :: _ => t.2.2
def hdn (ts : List TK) : Nat := nm (hdw ts)
def sW (L i : Nat) (ts : List TK) : Except Nat (List TK) := if isW i ts then .ok ts.tail else .error (flt 1 L ts)
def sN (L m : Nat) (ts : List TK) : Except Nat (Nat × List TK) := if isN ts then (if hdn ts ≤ m then .ok (hdn ts, ts.tail) else .error (flt 4 L ts)) else .error (flt 1 L ts)
def lk (RN : NL) (w : List Nat) : Option Nat := (RN.find? (fun x => x.1 == w)).map (fun x => x.2)
def sP (L : Nat) (RN : NL) (ts : List TK) : Except Nat Nat := if isNm ts then (match lk RN (hdw ts) with
  | none => .error (flt 2 L ts)
  | some v => if v < 12 then .ok v else .error (flt 2 L ts)) else .error (flt 1 L ts)
def sNew (L : Nat) (RN : NL) (ts : List TK) : Except Nat (List Nat × List TK) := if isNm ts then (if (lk RN (hdw ts)).isSome then .error (flt 3 L ts) else .ok (hdw ts, ts.tail)) else .error (flt 1 L ts)
def sD2 (L least y : Nat) (ts : List TK) : Except Nat (Nat × List TK) := if isN ts && decide (366 * y + hdn ts < least) then .error (flt 4 L ts) else (sN L 365 ts).map (fun x => (366 * y + x.1, x.2))
def sD (L least : Nat) (ts : List TK) : Except Nat (Nat × List TK) := (sN L 11 ts).bind (fun x => sD2 L least x.1 x.2)
/-- names as they should be -/
def NW (T : TW) (RN : NL) : Prop := (∀ w v, (w, v) ∈ RN → okW w ∧ (v < tn T ∨ (12 ≤ v ∧ v < 12 + ts T))) ∧ RN.Pairwise (fun a b => a.1 ≠ b.1) ∧ (∀ p, p < tn T → ∃ w, (w, p) ∈ RN) ∧ (∀ s, s < ts T → ∃ w, (w, 12 + s) ∈ RN) ∧ RN.length = tn T + ts T ∧ RN.Pairwise (fun a b => a.2 ≠ b.2)
def pcB (b : Nat) : Nat := ((List.range 12).filter (fun p => b.testBit p)).length
def PW (P : Pst) : Prop := wfT P.1 ∧ fullT P.1 ∧ NW P.1 P.2.1 ∧ ∀ q, q < tn P.1 → pcB (tc P.1 q) ≤ 6
/-- the class reads on -/
def OKc (S : sd_St) (tp : List Nat) (P : Pst) (tl : List TK) : Prop := TPs S tp ∧ S.1 1 5 = 0 ∧ CUR S tp tl ∧ (∀ t ∈ tl, okT t ∧ t.2.1 < tp.length) ∧ CT 2 S P.1 ∧ ((∀ p, p < tn P.1 → ∀ q, hb (S.1 7 p) q = (decide (q < tn P.1) && (tc P.1 q).testBit p)) ∧ S.1 2 6 = nI (pcs P.1)) ∧ (∀ w v, (w, v) ∈ P.2.1 → (v < 12 → S.2 15 v = wC w) ∧ (12 ≤ v → S.2 16 (v - 12) = wC w)) ∧ S.1 1 4 = bI P.2.2 ∧ PW P
/-- the class has found a fault -/
def FL (S : sd_St) (tp : List Nat) (e : Nat) : Prop := TPs S tp ∧ (∃ i, S.1 13 2 = nI i ∧ i ≤ tp.length) ∧ (∃ n, S.1 2 0 = nI n ∧ n ≤ 12) ∧ (∃ n, S.1 2 11 = nI n ∧ n ≤ 4) ∧ (S.1 1 4 = 0 ∨ S.1 1 4 = 1) ∧ (S.1 2 15 = 0 ∨ S.1 2 15 = 1) ∧ S.1 1 5 = nI e ∧ 0 < e ∧ e < 2 ^ 30
def ST (S : sd_St) (tp : List Nat) (P : Pst) : Except Nat (List TK) → Prop
  | .ok tl => OKc S tp P tl
  | .error e => FL S tp e
abbrev FR (S S2 : sd_St) : Prop := frm (fun a => 1 ≤ a ∧ a ≤ 16) S S2
theorem FR_rfl {S : sd_St} : FR S S := frm_rfl
theorem FR_trans {S S2 S3 : sd_St} (h : FR S S2) (g : FR S2 S3) : FR S S3 := frm_trans h g (fun _ h => h) (fun _ h => h)
theorem plc_le {S : sd_St} {tp : List Nat} {P : Pst} {tl : List TK} (h : OKc S tp P tl) : plc tp.length tl ≤ tp.length := by
  cases tl with
  | nil => exact Nat.le_refl _
  | cons t r => exact Nat.le_of_lt (h.2.2.2.1 t List.mem_cons_self).2
theorem flt_lt {S : sd_St} {tp : List Nat} {P : Pst} {tl : List TK} (h : OKc S tp P tl) {k : Nat} (hk : k < 16) : flt k tp.length tl < 2 ^ 30 := by
  have h1 := plc_le h
  have h2 := h.1.2.1
  unfold flt
  omega
theorem OK_FL {S : sd_St} {tp : List Nat} {P : Pst} {tl : List TK} (h : OKc S tp P tl) {e : Nat} (h0 : 0 < e) (he : e < 2 ^ 30) : FL (sd_I S 1 5 (nI e)) tp e := by
  obtain ⟨a1, a2, a3, a4, a5, a6, a7, a8, a9⟩ := h
  obtain ⟨-, i, hi1, hi2, -⟩ := a3
  have o : ∀ a, a ≠ 1 → (sd_I S 1 5 (nI e)).1 a = S.1 a := fun a ha => rI_cell ha
  refine ⟨TPs_fr a1 (by rw [o 13 (by decide)]) (o 14 (by decide)), ⟨i, by rw [o 13 (by decide)]; exact hi1, hi2⟩, ⟨tn P.1, by rw [o 2 (by decide)]; exact a5.1, a9.1.1⟩, ⟨ts P.1, by rw [o 2 (by decide)]; exact a5.2.2.2.2.1, a9.1.2.2.2.2.1⟩, ?_, ?_, rI_same, h0, he⟩
  · rw [rI_oth (by decide), a8]
    cases P.2.2
    · exact Or.inl rfl
    · exact Or.inr rfl
  · rw [o 2 (by decide), a5.2.2.2.2.2.2.2]
    have := a9.1.2.2.2.2.2.2.2
    rcases (show tz P.1 = 0 ∨ tz P.1 = 1 by omega) with e | e <;> rw [e]
    · exact Or.inl rfl
    · exact Or.inr rfl
theorem m_fail_no {S : sd_St} {y : Int32} : f_X9_failIf 1 0 y S = some ((), S) := by
  unfold f_X9_failIf
  rw [if_pos rfl]
theorem m_fail_FL {S : sd_St} {tp : List Nat} {e : Nat} (h : FL S tp e) (x y : Int32) : f_X9_failIf 1 x y S = some ((), S) := by
  unfold f_X9_failIf
  obtain ⟨-, -, -, -, -, -, h5, h0, he⟩ := h
  by_cases c : x = 0
  · rw [if_pos c]
  · rw [if_neg c, h5, if_neg (nI_ne0 h0 (by omega))]
theorem m_fail_yes {S : sd_St} {tp : List Nat} {P : Pst} {tl : List TK} (h : OKc S tp P tl) {k : Nat} (hk0 : 0 < k) (hk : k < 16) {x y : Int32} (hx : ¬ x = 0) (hy : y = nI k) : ∃ S2, f_X9_failIf 1 x y S = some ((), S2) ∧ FL S2 tp (flt k tp.length tl) ∧ FR S S2 := by
  refine ⟨_, ?_, OK_FL h (e := flt k tp.length tl) (by unfold flt; omega) (flt_lt h hk), frm_I (by omega)⟩
  unfold f_X9_failIf
  simp only [Nat.reduceAdd]
  rw [if_neg hx, h.2.1, if_pos rfl, hy, h.2.2.1.1, show (16 : Int32) = nI 16 from rfl, nI_mul, nI_add, sd_nm_eq]
  rfl
theorem FL_T {S S2 : sd_St} {tp : List Nat} {e : Nat} (h : FL S tp e) (g : frT S S2) (hi : ∃ i, S2.1 13 2 = nI i ∧ i ≤ tp.length) : FL S2 tp e := by
  obtain ⟨a1, a2, a3, a4, a5, a6, a7⟩ := h
  refine ⟨TPs_T a1 g, hi, ?_, ?_, ?_, ?_, ?_⟩
  · rw [g.1.1 2 (by decide)]; exact a3
  · rw [g.1.1 2 (by decide)]; exact a4
  · rw [g.1.1 1 (by decide)]; exact a5
  · rw [g.1.1 2 (by decide)]; exact a6
  · rw [g.1.1 1 (by decide)]; exact a7
theorem OK_T {S S2 : sd_St} {tp : List Nat} {P : Pst} {tl tl2 : List TK} (h : OKc S tp P tl) (g : frT S S2) (hc : CUR S2 tp tl2) (ht : ∀ t ∈ tl2, t ∈ tl) : OKc S2 tp P tl2 := by
  obtain ⟨a1, a2, a3, a4, a5, a6, a7, a8, a9⟩ := h
  refine ⟨TPs_T a1 g, by rw [g.1.1 1 (by decide)]; exact a2, hc, fun t h => a4 t (ht t h), CT_fr a5 (fun a q1 q2 => g.1.1 a (by omega)), ?_, ?_, by rw [g.1.1 1 (by decide)]; exact a8, a9⟩
  · rw [g.1.1 7 (by decide), g.1.1 2 (by decide)]; exact a6
  · rw [g.1.2 15 (by decide), g.1.2 16 (by decide)]; exact a7
theorem frT_FR {S S2 : sd_St} (h : frT S S2) : FR S S2 := frm_mono h.1 (fun a ha => by omega)
theorem m_stepF {S : sd_St} {tp : List Nat} {e : Nat} (h : FL S tp e) : ∃ S2, f_X7_step 13 S = some ((), S2) ∧ FL S2 tp e ∧ FR S S2 := by
  obtain ⟨i, hi1, hi2⟩ := h.2.1
  obtain ⟨S2, e1, e2, e3⟩ := m_step hi2 h.1 hi1
  obtain ⟨-, j, hj1, hj2, -⟩ := e3
  exact ⟨S2, e1, FL_T h e2 ⟨j, hj1, hj2⟩, frT_FR e2⟩
theorem m_stepO {S : sd_St} {tp : List Nat} {P : Pst} {t : TK} {tl : List TK} (h : OKc S tp P (t :: tl)) : ∃ S2, f_X7_step 13 S = some ((), S2) ∧ OKc S2 tp P tl ∧ FR S S2 := by
  obtain ⟨-, i, hi1, hi2, -, -, -, hr⟩ := h.2.2.1
  obtain ⟨S2, e1, e2, e3⟩ := m_step hi2 h.1 hi1
  rw [← hr] at e3
  exact ⟨S2, e1, OK_T h e2 e3 (fun t ht => List.mem_cons_of_mem _ ht), frT_FR e2⟩
theorem cm0 (x y : Int64) : (lg_cmp x y = 0) ↔ x = y := lg_cmp_eq x y
theorem cur_k {S : sd_St} {tp : List Nat} {t : TK} {tl : List TK} (h : CUR S tp (t :: tl)) : S.1 13 3 = nI t.1 ∧ (t.1 = 1 → S.2 13 5 = wC t.2.2) ∧ (t.1 = 2 → S.1 13 6 = nI (nm t.2.2)) := by
  obtain ⟨-, i, -, -, h1, h2, h3, -⟩ := h
  exact ⟨h1, h2, h3⟩
theorem cur_0 {S : sd_St} {tp : List Nat} (h : CUR S tp []) : S.1 13 3 = 0 := by
  obtain ⟨-, i, -, -, h1⟩ := h
  exact h1
theorem okT_lt {t : TK} (h : okT t) : 0 < t.1 ∧ t.1 < 5 := by
  unfold okT at h
  omega
theorem m_isAt {S : sd_St} {tp : List Nat} {P : Pst} {tl : List TK} (h : OKc S tp P tl) {i : Nat} (hi : i < 14) : f_X7_isAt 13 (sd_no i) S = some (bI (isW i tl), S) := by
  unfold f_X7_isAt
  cases tl with
  | nil =>
    rw [cur_0 h.2.2.1, if_neg (by decide)]
    rfl
  | cons t tl =>
    obtain ⟨k1, k2, -⟩ := cur_k h.2.2.1
    obtain ⟨o1, o2⟩ := h.2.2.2.1 t List.mem_cons_self
    have hk := okT_lt o1
    rw [k1, show isW i (t :: tl) = (t.1 == 1 && t.2.2 == kw i) from rfl]
    by_cases c : t.1 = 1
    · have hw : okW t.2.2 := by
        unfold okT at o1
        rcases o1 with o | o | o | o
        · exact o.2
        · omega
        · omega
        · omega
      rw [if_pos (by rw [c]; rfl), k2 c, c, kw_C i hi]
      by_cases c2 : t.2.2 = kw i
      · rw [if_pos ((cm0 _ _).mpr (by rw [c2])), c2]
        simp [bI]
      · rw [if_neg (fun z => c2 ((wC_inj hw (kw_ok i hi)).mp ((cm0 _ _).mp z)))]
        simp [bI, c2]
    · rw [if_neg (show ¬ nI t.1 = (1 : Int32) from fun z => c (nI_inj (b := 1) (by omega) (by decide) z))]
      simp [bI, c]
/-- a word is taken -/
theorem isW_cons {i : Nat} {tl : List TK} (h : isW i tl = true) : ∃ t r, tl = t :: r := by
  cases tl with
  | nil => cases h
  | cons t r => exact ⟨t, r, rfl⟩
theorem m_takeW {S : sd_St} {tp : List Nat} {P : Pst} {x : Except Nat (List TK)} (h : ST S tp P x) {i : Nat} (hi : i < 14) : ∃ S2, f_X9_takeWord 1 (sd_no i) S = some ((), S2) ∧ ST S2 tp P (x.bind (sW tp.length i)) ∧ FR S S2 := by
  cases x with
  | error e =>
    have h : FL S tp e := h
    obtain ⟨S2, e1, e2, e3⟩ := m_stepF h
    refine ⟨S2, ?_, e2, e3⟩
    have hat : ∃ b, f_X7_isAt 13 (sd_no i) S = some (b, S) := by
      unfold f_X7_isAt
      by_cases c : S.1 13 3 = 1
      · rw [if_pos c]
        by_cases c2 : lg_cmp (S.2 13 5) (sd_no i) = 0
        · rw [if_pos c2]; exact ⟨_, rfl⟩
        · rw [if_neg c2]; exact ⟨_, rfl⟩
      · rw [if_neg c]; exact ⟨_, rfl⟩
    obtain ⟨b, hb⟩ := hat
    unfold f_X9_takeWord f_X9_takeWord_b17
    simp only [Nat.reduceAdd]
    rw [sd_cl_ok hb, m_fail_FL h, m_fail_FL h, sd_cl_ok rfl, sd_cl_ok e1]
    simp
  | ok tl =>
    have h : OKc S tp P tl := h
    show ∃ S2, _ ∧ ST S2 tp P (sW tp.length i tl) ∧ _
    unfold f_X9_takeWord f_X9_takeWord_b17 sW
    simp only [Nat.reduceAdd]
    rw [sd_cl_ok (m_isAt h hi)]
    cases c : isW i tl with
    | true =>
      obtain ⟨t, r, rfl⟩ := isW_cons c
      obtain ⟨S2, e1, e2, e3⟩ := m_stepO h
      refine ⟨S2, ?_, e2, e3⟩
      rw [if_neg (by decide), sd_cl_ok m_fail_no, sd_cl_ok e1]
    | false =>
      obtain ⟨S1, a1, a2, a3⟩ := m_fail_yes h (k := 1) (x := 1) (y := 1) (by decide) (by decide) (by decide) rfl
      obtain ⟨S2, e1, e2, e3⟩ := m_stepF a2
      refine ⟨S2, ?_, e2, FR_trans a3 e3⟩
      rw [if_pos (by decide), sd_cl_ok a1, sd_cl_ok e1]
theorem isN_cons {tl : List TK} (h : isN tl = true) : ∃ t r, tl = t :: r ∧ t.1 = 2 := by
  cases tl with
  | nil => cases h
  | cons t r => exact ⟨t, r, rfl, by simpa [isN] using h⟩
theorem m_takeN {S : sd_St} {tp : List Nat} {P : Pst} {x : Except Nat (List TK)} (h : ST S tp P x) {m : Nat} (hm : m < 10000) : ∃ v S2, f_X9_takeNumber 1 (nI m) S = some (v, S2) ∧ ST S2 tp P ((x.bind (sN tp.length m)).map (fun y => y.2)) ∧ FR S S2 ∧ ∀ a tl2, x.bind (sN tp.length m) = .ok (a, tl2) → v = nI a := by
  have hFL : ∀ (S : sd_St) (e : Nat) (w : Int32), FL S tp e → ∃ v S2, f_X9_takeNumber_b38 1 w S = some (v, S2) ∧ FL S2 tp e ∧ FR S S2 := by
    intro S e w h
    obtain ⟨S2, e1, e2, e3⟩ := m_stepF h
    refine ⟨S.1 13 6, S2, ?_, e2, e3⟩
    unfold f_X9_takeNumber_b38
    simp only [Nat.reduceAdd]
    rw [m_fail_FL h, sd_cl_ok rfl, sd_nm_eq, sd_cl_ok e1]
  have hFL2 : ∀ (S : sd_St) (e : Nat) (w : Int32), FL S tp e → ∃ v S2, f_X9_takeNumber_b17 1 (nI m) w S = some (v, S2) ∧ FL S2 tp e ∧ FR S S2 := by
    intro S e w h
    unfold f_X9_takeNumber_b17
    rw [m_fail_FL h, sd_cl_ok rfl]
    by_cases c : S.1 (1 + 12) 6 ≤ nI m
    · rw [if_pos c]; exact hFL S e 0 h
    · rw [if_neg c]; exact hFL S e 1 h
  cases x with
  | error e =>
    have h : FL S tp e := h
    unfold f_X9_takeNumber
    by_cases c : S.1 (1 + 12) 3 = (2 : Int32)
    · rw [if_pos c]
      obtain ⟨v, S2, e1, e2, e3⟩ := hFL2 S e 0 h
      exact ⟨v, S2, e1, e2, e3, fun a tl2 z => by cases z⟩
    · rw [if_neg c]
      obtain ⟨v, S2, e1, e2, e3⟩ := hFL2 S e 1 h
      exact ⟨v, S2, e1, e2, e3, fun a tl2 z => by cases z⟩
  | ok tl =>
    have h : OKc S tp P tl := h
    show ∃ v S2, _ ∧ ST S2 tp P ((sN tp.length m tl).map (fun y => y.2)) ∧ _ ∧ ∀ a tl2, sN tp.length m tl = .ok (a, tl2) → v = nI a
    unfold f_X9_takeNumber sN
    simp only [Nat.reduceAdd]
    cases c : isN tl with
    | true =>
      obtain ⟨t, r, rfl, ht⟩ := isN_cons c
      obtain ⟨k1, -, k3⟩ := cur_k h.2.2.1
      obtain ⟨o1, o2⟩ := h.2.2.2.1 t List.mem_cons_self
      have hn : nm t.2.2 < 10000 := by
        unfold okT at o1
        rcases o1 with o | o | o | o
        · omega
        · exact o.2
        · omega
        · omega
      rw [k1, if_pos (by rw [ht]; rfl)]
      unfold f_X9_takeNumber_b17
      simp only [Nat.reduceAdd]
      rw [sd_cl_ok m_fail_no, k3 ht]
      show ∃ v S2, _ ∧ ST S2 tp P ((if nm t.2.2 ≤ m then Except.ok (nm t.2.2, r) else Except.error (flt 4 tp.length (t :: r))).map (fun y => y.2)) ∧ _ ∧ ∀ a tl2, (if nm t.2.2 ≤ m then Except.ok (nm t.2.2, r) else Except.error (flt 4 tp.length (t :: r))) = .ok (a, tl2) → v = nI a
      by_cases c2 : nm t.2.2 ≤ m
      · rw [if_pos (nI_le c2 (by omega)), if_pos c2]
        obtain ⟨S2, e1, e2, e3⟩ := m_stepO h
        refine ⟨nI (nm t.2.2), S2, ?_, e2, e3, fun a tl2 z => by cases z; rfl⟩
        unfold f_X9_takeNumber_b38
        simp only [Nat.reduceAdd]
        rw [sd_cl_ok m_fail_no, k3 ht, sd_nm_eq, sd_cl_ok e1]
      · rw [if_neg (nI_ge (by omega) (by omega)), if_neg c2]
        obtain ⟨S1, a1, a2, a3⟩ := m_fail_yes h (k := 4) (x := 1) (y := 4) (by decide) (by decide) (by decide) rfl
        obtain ⟨S2, e1, e2, e3⟩ := m_stepF a2
        refine ⟨S1.1 13 6, S2, ?_, e2, FR_trans a3 e3, fun a tl2 z => by cases z⟩
        unfold f_X9_takeNumber_b38
        simp only [Nat.reduceAdd]
        rw [sd_cl_ok a1, sd_nm_eq, sd_cl_ok e1]
    | false =>
      have hk : ¬ S.1 13 3 = (2 : Int32) := by
        cases tl with
        | nil => rw [cur_0 h.2.2.1]; decide
        | cons t r =>
          obtain ⟨k1, -, -⟩ := cur_k h.2.2.1
          have hl := okT_lt (h.2.2.2.1 t List.mem_cons_self).1
          have : ¬ t.1 = 2 := by simpa [isN] using c
          rw [k1]
          exact fun z => this (nI_inj (b := 2) (by omega) (by decide) z)
      rw [if_neg hk]
      obtain ⟨S1, a1, a2, a3⟩ := m_fail_yes h (k := 1) (x := 1) (y := 1) (by decide) (by decide) (by decide) rfl
      have hF : ∃ v S2, f_X9_takeNumber_b17 1 (nI m) (1 : Int32) S = some (v, S2) ∧ FL S2 tp (flt 1 tp.length tl) ∧ FR S S2 := by
        unfold f_X9_takeNumber_b17
        rw [sd_cl_ok a1]
        by_cases c3 : S1.1 (1 + 12) 6 ≤ nI m
        · rw [if_pos c3]
          obtain ⟨v, S2, e1, e2, e3⟩ := hFL S1 _ 0 a2
          exact ⟨v, S2, e1, e2, FR_trans a3 e3⟩
        · rw [if_neg c3]
          obtain ⟨v, S2, e1, e2, e3⟩ := hFL S1 _ 1 a2
          exact ⟨v, S2, e1, e2, FR_trans a3 e3⟩
      obtain ⟨v, S2, e1, e2, e3⟩ := hF
      exact ⟨v, S2, e1, e2, e3, fun a tl2 z => by cases z⟩
