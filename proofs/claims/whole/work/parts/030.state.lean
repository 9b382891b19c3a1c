/-! THE STATE: S.1 k j the int (boolean, byte) at place j of cell k, S.2 k j the long there; the cells, their kinds and lengths never change; references are cells. -/
abbrev sd_St : Type := (Nat → Nat → Int32) × (Nat → Nat → Int64)
def sd_I (S : sd_St) (k j : Nat) (v : Int32) : sd_St := (fun a => if a = k then upd (S.1 k) j v else S.1 a, S.2)
def sd_L (S : sd_St) (k j : Nat) (v : Int64) : sd_St := (S.1, fun a => if a = k then vp_updL (S.2 k) j v else S.2 a)
def sd_A (S : sd_St) (k : Nat) (f : Nat → Int32) : sd_St := (fun a => if a = k then f else S.1 a, S.2)
def sd_nC : Nat := 155
def sd_kdL : List Nat := [11, 9, 8, 13, 13, 13, 13, 13, 13, 13, 13, 13, 13, 7, 16, 14, 14, 8, 13, 13, 13, 13, 13, 13, 13, 13, 13, 13, 1, 13, 13, 13, 13, 17, 5, 13, 13, 13, 13, 5, 13, 13, 13, 13, 5, 13, 13, 13, 13, 5, 13, 13, 13, 13, 5, 13, 13, 13, 13, 2, 13, 13, 6, 13, 13, 15, 13, 13, 13, 13, 13, 0, 4, 13, 13, 13, 15, 3, 15, 15, 18, 4, 13, 13, 13, 15, 4, 13, 13, 13, 15, 4, 13, 13, 13, 15, 4, 13, 13, 13, 15, 10, 8, 13, 13, 13, 13, 13, 13, 13, 13, 13, 13, 1, 13, 13, 13, 13, 1, 13, 13, 13, 13, 5, 13, 13, 13, 13, 15, 13, 12, 13, 13, 13, 14, 14, 13, 14, 13, 13, 13, 13, 13, 13, 13, 15, 13, 13, 13, 13, 15, 13, 13, 13, 15]
def sd_alL : List Nat := [0, 0, 0, 12, 12, 12, 12, 12, 12, 12, 12, 4, 4, 0, 1000, 12, 4, 0, 12, 12, 12, 12, 12, 12, 12, 12, 4, 4, 0, 24, 288, 288, 288, 4, 0, 12, 12, 12, 12, 0, 12, 12, 12, 12, 0, 12, 12, 12, 12, 0, 12, 12, 12, 12, 0, 12, 12, 12, 12, 0, 12, 12, 0, 12, 288, 288, 288, 288, 288, 12, 576, 0, 0, 16, 16, 16, 16, 0, 4, 4, 4, 0, 16, 16, 16, 16, 0, 16, 16, 16, 16, 0, 16, 16, 16, 16, 0, 16, 16, 16, 16, 0, 0, 12, 12, 12, 12, 12, 12, 12, 12, 4, 4, 0, 24, 288, 288, 288, 0, 1, 12, 12, 12, 0, 12, 12, 12, 12, 366, 12, 0, 1000, 1002, 1002, 1002, 14, 1020, 16, 16, 24, 12, 12, 144, 288, 288, 288, 288, 288, 576, 576, 288, 288, 288, 12, 4]
def sd_kd (k : Nat) : Nat := sd_kdL.getD k 99
def sd_al (k : Nat) : Nat := sd_alL.getD k 0
theorem sd_kdLen : sd_kdL.length = sd_nC := by decide +kernel
theorem sd_lt {k : Nat} (h : sd_kd k ≠ 99) : k < sd_nC := by
  rcases Nat.lt_or_ge k sd_nC with q | q
  · exact q
  · exact absurd (by unfold sd_kd; rw [List.getD_eq_getElem?_getD, List.getElem?_eq_none (by rw [sd_kdLen]; exact q)]; rfl) h
def sd_cell (cy : Nat → ClassId) (ad : Nat → Nat) (S : sd_St) (k : Nat) : va_E := match sd_kd k with
  | 0 => .inr (0, [.long (S.2 k 0)])
  | 1 => .inr (1, [.int (S.1 k 0), .ref (ad (k + 2)), .ref (ad (k + 3)), .ref (ad (k + 4)), .int (S.1 k 4), .ref (ad (k + 1))])
  | 2 => .inr (2, [.int (S.1 k 0), .int (S.1 k 1), .ref (ad (k + 1)), .ref (ad (k + 2))])
  | 3 => .inr (3, [.ref (ad (k + 1)), .ref (ad (k + 2)), .ref (ad (k + 3))])
  | 4 => .inr (4, [.int (S.1 k 0), .ref (ad (k + 1)), .ref (ad (k + 2)), .ref (ad (k + 3)), .ref (ad (k + 4))])
  | 5 => .inr (5, [.int (S.1 k 0), .int (S.1 k 1), .ref (ad (k + 1)), .ref (ad (k + 2)), .ref (ad (k + 3)), .ref (ad (k + 4))])
  | 6 => .inr (6, [.int (S.1 k 0), .int (S.1 k 1), .int (S.1 k 2), .ref (ad (k + 1)), .ref (ad (k + 2)), .ref (ad (k + 3)), .ref (ad (k + 4)), .ref (ad (k + 5)), .ref (ad (k + 6)), .ref (ad (k + 7)), .ref (ad (k + 8)), .int (S.1 k 11)])
  | 7 => .inr (7, [.ref (ad (k + 1)), .int (S.1 k 1), .int (S.1 k 2), .int (S.1 k 3), .int (S.1 k 4), .long (S.2 k 5), .int (S.1 k 6)])
  | 8 => .inr (8, [.int (S.1 k 0), .ref (ad (k + 1)), .ref (ad (k + 2)), .ref (ad (k + 3)), .ref (ad (k + 4)), .ref (ad (k + 5)), .int (S.1 k 6), .int (S.1 k 7), .ref (ad (k + 6)), .ref (ad (k + 7)), .ref (ad (k + 8)), .int (S.1 k 11), .ref (ad (k + 9)), .ref (ad (k + 10)), .int (S.1 k 14), .int (S.1 k 15)])
  | 9 => .inr (9, [.ref (ad (k + 1)), .ref (ad (k + 12)), .ref (ad (k + 14)), .ref (ad (k + 15)), .int (S.1 k 4), .int (S.1 k 5)])
  | 10 => .inr (10, [.ref (ad (k + 1)), .ref (ad (k + 12)), .ref (ad (k + 17)), .ref (ad (k + 22)), .ref (ad (k + 27)), .ref (ad (k + 28)), .int (S.1 k 6), .int (S.1 k 7)])
  | 11 => .inr (11, [.ref (ad (k + 1)), .ref (ad (k + 17)), .ref (ad (k + 28)), .ref (ad (k + 33)), .ref (ad (k + 54)), .ref (ad (k + 59)), .ref (ad (k + 62)), .ref (ad (k + 71)), .ref (ad (k + 72)), .ref (ad (k + 77)), .ref (ad (k + 101)), .int (S.1 k 11)])
  | 12 => .inr (12, [.int (S.1 k 0), .ref (ad (k + 1)), .int (S.1 k 2), .int (S.1 k 3), .ref (ad (k + 2)), .ref (ad (k + 3)), .ref (ad (k + 4)), .int (S.1 k 7), .int (S.1 k 8), .ref (ad (k + 5)), .ref (ad (k + 6)), .ref (ad (k + 7)), .ref (ad (k + 8)), .int (S.1 k 13), .int (S.1 k 14), .ref (ad (k + 9)), .int (S.1 k 16), .ref (ad (k + 10)), .ref (ad (k + 11)), .ref (ad (k + 12)), .int (S.1 k 20), .ref (ad (k + 13)), .ref (ad (k + 14)), .ref (ad (k + 15)), .ref (ad (k + 16)), .ref (ad (k + 17)), .ref (ad (k + 18)), .ref (ad (k + 19)), .int (S.1 k 28), .ref (ad (k + 20)), .ref (ad (k + 21)), .ref (ad (k + 22)), .ref (ad (k + 23)), .long (S.2 k 33), .ref (ad (k + 24))])
  | 13 => .inl (cy 0, sd_al k, .inl (S.1 k))
  | 14 => .inl (cy 1, sd_al k, .inr (.inl (S.2 k)))
  | 15 => .inl (cy 2, sd_al k, .inl (S.1 k))
  | 16 => .inl (cy 3, sd_al k, .inl (S.1 k))
  | 17 => .inl (cy 4, sd_al k, .inr (.inr (.inr (.inr (fun i => some (ad (34 + 5 * i)))))))
  | 18 => .inl (cy 5, sd_al k, .inr (.inr (.inr (.inr (fun i => some (ad (81 + 5 * i)))))))
  | _ => .inr (99, [])
theorem sd_c0 {cy : Nat → ClassId} {ad : Nat → Nat} {S : sd_St} {k : Nat} (h : sd_kd k = 0) : sd_cell cy ad S k = .inr (0, [.long (S.2 k 0)]) := by unfold sd_cell; rw [h]; rfl
theorem sd_c1 {cy : Nat → ClassId} {ad : Nat → Nat} {S : sd_St} {k : Nat} (h : sd_kd k = 1) : sd_cell cy ad S k = .inr (1, [.int (S.1 k 0), .ref (ad (k + 2)), .ref (ad (k + 3)), .ref (ad (k + 4)), .int (S.1 k 4), .ref (ad (k + 1))]) := by unfold sd_cell; rw [h]; rfl
theorem sd_c2 {cy : Nat → ClassId} {ad : Nat → Nat} {S : sd_St} {k : Nat} (h : sd_kd k = 2) : sd_cell cy ad S k = .inr (2, [.int (S.1 k 0), .int (S.1 k 1), .ref (ad (k + 1)), .ref (ad (k + 2))]) := by unfold sd_cell; rw [h]; rfl
theorem sd_c3 {cy : Nat → ClassId} {ad : Nat → Nat} {S : sd_St} {k : Nat} (h : sd_kd k = 3) : sd_cell cy ad S k = .inr (3, [.ref (ad (k + 1)), .ref (ad (k + 2)), .ref (ad (k + 3))]) := by unfold sd_cell; rw [h]; rfl
theorem sd_c4 {cy : Nat → ClassId} {ad : Nat → Nat} {S : sd_St} {k : Nat} (h : sd_kd k = 4) : sd_cell cy ad S k = .inr (4, [.int (S.1 k 0), .ref (ad (k + 1)), .ref (ad (k + 2)), .ref (ad (k + 3)), .ref (ad (k + 4))]) := by unfold sd_cell; rw [h]; rfl
theorem sd_c5 {cy : Nat → ClassId} {ad : Nat → Nat} {S : sd_St} {k : Nat} (h : sd_kd k = 5) : sd_cell cy ad S k = .inr (5, [.int (S.1 k 0), .int (S.1 k 1), .ref (ad (k + 1)), .ref (ad (k + 2)), .ref (ad (k + 3)), .ref (ad (k + 4))]) := by unfold sd_cell; rw [h]; rfl
theorem sd_c6 {cy : Nat → ClassId} {ad : Nat → Nat} {S : sd_St} {k : Nat} (h : sd_kd k = 6) : sd_cell cy ad S k = .inr (6, [.int (S.1 k 0), .int (S.1 k 1), .int (S.1 k 2), .ref (ad (k + 1)), .ref (ad (k + 2)), .ref (ad (k + 3)), .ref (ad (k + 4)), .ref (ad (k + 5)), .ref (ad (k + 6)), .ref (ad (k + 7)), .ref (ad (k + 8)), .int (S.1 k 11)]) := by unfold sd_cell; rw [h]; rfl
theorem sd_c7 {cy : Nat → ClassId} {ad : Nat → Nat} {S : sd_St} {k : Nat} (h : sd_kd k = 7) : sd_cell cy ad S k = .inr (7, [.ref (ad (k + 1)), .int (S.1 k 1), .int (S.1 k 2), .int (S.1 k 3), .int (S.1 k 4), .long (S.2 k 5), .int (S.1 k 6)]) := by unfold sd_cell; rw [h]; rfl
theorem sd_c8 {cy : Nat → ClassId} {ad : Nat → Nat} {S : sd_St} {k : Nat} (h : sd_kd k = 8) : sd_cell cy ad S k = .inr (8, [.int (S.1 k 0), .ref (ad (k + 1)), .ref (ad (k + 2)), .ref (ad (k + 3)), .ref (ad (k + 4)), .ref (ad (k + 5)), .int (S.1 k 6), .int (S.1 k 7), .ref (ad (k + 6)), .ref (ad (k + 7)), .ref (ad (k + 8)), .int (S.1 k 11), .ref (ad (k + 9)), .ref (ad (k + 10)), .int (S.1 k 14), .int (S.1 k 15)]) := by unfold sd_cell; rw [h]; rfl
theorem sd_c9 {cy : Nat → ClassId} {ad : Nat → Nat} {S : sd_St} {k : Nat} (h : sd_kd k = 9) : sd_cell cy ad S k = .inr (9, [.ref (ad (k + 1)), .ref (ad (k + 12)), .ref (ad (k + 14)), .ref (ad (k + 15)), .int (S.1 k 4), .int (S.1 k 5)]) := by unfold sd_cell; rw [h]; rfl
theorem sd_c10 {cy : Nat → ClassId} {ad : Nat → Nat} {S : sd_St} {k : Nat} (h : sd_kd k = 10) : sd_cell cy ad S k = .inr (10, [.ref (ad (k + 1)), .ref (ad (k + 12)), .ref (ad (k + 17)), .ref (ad (k + 22)), .ref (ad (k + 27)), .ref (ad (k + 28)), .int (S.1 k 6), .int (S.1 k 7)]) := by unfold sd_cell; rw [h]; rfl
theorem sd_c11 {cy : Nat → ClassId} {ad : Nat → Nat} {S : sd_St} {k : Nat} (h : sd_kd k = 11) : sd_cell cy ad S k = .inr (11, [.ref (ad (k + 1)), .ref (ad (k + 17)), .ref (ad (k + 28)), .ref (ad (k + 33)), .ref (ad (k + 54)), .ref (ad (k + 59)), .ref (ad (k + 62)), .ref (ad (k + 71)), .ref (ad (k + 72)), .ref (ad (k + 77)), .ref (ad (k + 101)), .int (S.1 k 11)]) := by unfold sd_cell; rw [h]; rfl
theorem sd_c12 {cy : Nat → ClassId} {ad : Nat → Nat} {S : sd_St} {k : Nat} (h : sd_kd k = 12) : sd_cell cy ad S k = .inr (12, [.int (S.1 k 0), .ref (ad (k + 1)), .int (S.1 k 2), .int (S.1 k 3), .ref (ad (k + 2)), .ref (ad (k + 3)), .ref (ad (k + 4)), .int (S.1 k 7), .int (S.1 k 8), .ref (ad (k + 5)), .ref (ad (k + 6)), .ref (ad (k + 7)), .ref (ad (k + 8)), .int (S.1 k 13), .int (S.1 k 14), .ref (ad (k + 9)), .int (S.1 k 16), .ref (ad (k + 10)), .ref (ad (k + 11)), .ref (ad (k + 12)), .int (S.1 k 20), .ref (ad (k + 13)), .ref (ad (k + 14)), .ref (ad (k + 15)), .ref (ad (k + 16)), .ref (ad (k + 17)), .ref (ad (k + 18)), .ref (ad (k + 19)), .int (S.1 k 28), .ref (ad (k + 20)), .ref (ad (k + 21)), .ref (ad (k + 22)), .ref (ad (k + 23)), .long (S.2 k 33), .ref (ad (k + 24))]) := by unfold sd_cell; rw [h]; rfl
theorem sd_c13 {cy : Nat → ClassId} {ad : Nat → Nat} {S : sd_St} {k : Nat} (h : sd_kd k = 13) : sd_cell cy ad S k = .inl (cy 0, sd_al k, .inl (S.1 k)) := by unfold sd_cell; rw [h]; rfl
theorem sd_c14 {cy : Nat → ClassId} {ad : Nat → Nat} {S : sd_St} {k : Nat} (h : sd_kd k = 14) : sd_cell cy ad S k = .inl (cy 1, sd_al k, .inr (.inl (S.2 k))) := by unfold sd_cell; rw [h]; rfl
theorem sd_c15 {cy : Nat → ClassId} {ad : Nat → Nat} {S : sd_St} {k : Nat} (h : sd_kd k = 15) : sd_cell cy ad S k = .inl (cy 2, sd_al k, .inl (S.1 k)) := by unfold sd_cell; rw [h]; rfl
theorem sd_c16 {cy : Nat → ClassId} {ad : Nat → Nat} {S : sd_St} {k : Nat} (h : sd_kd k = 16) : sd_cell cy ad S k = .inl (cy 3, sd_al k, .inl (S.1 k)) := by unfold sd_cell; rw [h]; rfl
theorem sd_c17 {cy : Nat → ClassId} {ad : Nat → Nat} {S : sd_St} {k : Nat} (h : sd_kd k = 17) : sd_cell cy ad S k = .inl (cy 4, sd_al k, .inr (.inr (.inr (.inr (fun i => some (ad (34 + 5 * i))))))) := by unfold sd_cell; rw [h]; rfl
theorem sd_c18 {cy : Nat → ClassId} {ad : Nat → Nat} {S : sd_St} {k : Nat} (h : sd_kd k = 18) : sd_cell cy ad S k = .inl (cy 5, sd_al k, .inr (.inr (.inr (.inr (fun i => some (ad (81 + 5 * i))))))) := by unfold sd_cell; rw [h]; rfl
theorem sd_cong {cy : Nat → ClassId} {ad : Nat → Nat} {S S2 : sd_St} {k : Nat} (h1 : S2.1 k = S.1 k) (h2 : S2.2 k = S.2 k) : sd_cell cy ad S2 k = sd_cell cy ad S k := by
  unfold sd_cell
  rw [h1, h2]
def sd_W (cy : Nat → ClassId) (ad : Nat → Nat) (S : sd_St) : va_W := (List.range sd_nC).map (fun k => (ad k, sd_cell cy ad S k))
theorem sd_Wat {cy : Nat → ClassId} {ad : Nat → Nat} {S : sd_St} {k : Nat} (h : k < sd_nC) : (sd_W cy ad S)[k]? = some (ad k, sd_cell cy ad S k) := by
  unfold sd_W
  rw [List.getElem?_map, List.getElem?_range h]
  rfl
theorem sd_Wat2 {cy : Nat → ClassId} {ad : Nat → Nat} {S : sd_St} {k : Nat} {q : Nat × va_E} (h : (sd_W cy ad S)[k]? = some q) : k < sd_nC ∧ q = (ad k, sd_cell cy ad S k) := by
  have hl : k < sd_nC := by
    have := (List.getElem?_eq_some_iff.mp h).1
    simpa [sd_W] using this
  rw [sd_Wat hl] at h
  exact ⟨hl, (Option.some.inj h).symm⟩
theorem sd_Wset {cy : Nat → ClassId} {ad : Nat → Nat} {S S2 : sd_St} {k : Nat} {e : va_E} (h : k < sd_nC) (he : e = sd_cell cy ad S2 k) (ho : ∀ j, j ≠ k → S2.1 j = S.1 j ∧ S2.2 j = S.2 j) : (sd_W cy ad S).set k (ad k, e) = sd_W cy ad S2 := by
  have hlen : k < (sd_W cy ad S).length := by simpa [sd_W] using h
  apply List.ext_getElem?
  intro j
  by_cases hj : j = k
  · subst hj
    rw [List.getElem?_set_self hlen, sd_Wat h, he]
  · rw [List.getElem?_set_ne (Ne.symm hj)]
    by_cases hl : j < sd_nC
    · rw [sd_Wat hl, sd_Wat hl, sd_cong (ho j hj).1 (ho j hj).2]
    · rw [List.getElem?_eq_none (by simpa [sd_W] using hl), List.getElem?_eq_none (by simpa [sd_W] using hl)]
theorem sd_Iown {S : sd_St} {k j : Nat} {v : Int32} : (sd_I S k j v).1 k = upd (S.1 k) j v := by simp [sd_I]
theorem sd_Ioth {S : sd_St} {k j : Nat} {v : Int32} : ∀ i, i ≠ k → (sd_I S k j v).1 i = S.1 i ∧ (sd_I S k j v).2 i = S.2 i := fun i h => by simp [sd_I, h]
theorem sd_Lown {S : sd_St} {k j : Nat} {v : Int64} : (sd_L S k j v).2 k = vp_updL (S.2 k) j v := by simp [sd_L]
theorem sd_Loth {S : sd_St} {k j : Nat} {v : Int64} : ∀ i, i ≠ k → (sd_L S k j v).1 i = S.1 i ∧ (sd_L S k j v).2 i = S.2 i := fun i h => by simp [sd_L, h]
theorem sd_Aown {S : sd_St} {k : Nat} {f : Nat → Int32} : (sd_A S k f).1 k = f := by simp [sd_A]
theorem sd_Aoth {S : sd_St} {k : Nat} {f : Nat → Int32} : ∀ i, i ≠ k → (sd_A S k f).1 i = S.1 i ∧ (sd_A S k f).2 i = S.2 i := fun i h => by simp [sd_A, h]
def sd_noL : List Int64 := [1818583408, 123581014175598, 1651470958, 1851878757, 6909036, 426836257907, 28526, 1635213689, 1718775661, 29807, 126879297332596, 2003399784, 7102839, 474080961907]
def sd_no (i : Nat) : Int64 := sd_noL.getD i 0
def sd_nest : List Cond := [.methodLinkNest RX11 11 (⟨RX9, "<init>", "()V"⟩ : MethodName) "SecretDays", .methodLinkNest RX9 11 (⟨RX8, "<init>", "()V"⟩ : MethodName) "SecretDays", .methodLinkNest RX9 20 (⟨RX7, "<init>", "()V"⟩ : MethodName) "SecretDays", .methodLinkNest RX11 18 (⟨RX8, "<init>", "()V"⟩ : MethodName) "SecretDays", .methodLinkNest RX11 38 (⟨RX5, "<init>", "()V"⟩ : MethodName) "SecretDays", .methodLinkNest RX11 45 (⟨RX2, "<init>", "()V"⟩ : MethodName) "SecretDays", .methodLinkNest RX11 52 (⟨RX6, "<init>", "()V"⟩ : MethodName) "SecretDays", .methodLinkNest RX11 59 (⟨RX0, "<init>", "()V"⟩ : MethodName) "SecretDays", .methodLinkNest RX11 66 (⟨RX4, "<init>", "()V"⟩ : MethodName) "SecretDays", .methodLinkNest RX3 24 (⟨RX4, "<init>", "()V"⟩ : MethodName) "SecretDays", .methodLinkNest RX10 11 (⟨RX8, "<init>", "()V"⟩ : MethodName) "SecretDays", .methodLinkNest RX10 32 (⟨RX5, "<init>", "()V"⟩ : MethodName) "SecretDays", .methodLinkNest RX9 146 (⟨RX11, "has", "(II)Z"⟩ : MethodName) "SecretDays", .methodLinkNest RX1 72 (⟨RX11, "has", "(II)Z"⟩ : MethodName) "SecretDays", .methodLinkNest RX5 59 (⟨RX11, "has", "(II)Z"⟩ : MethodName) "SecretDays", .methodLinkNest RX2 55 (⟨RX11, "has", "(II)Z"⟩ : MethodName) "SecretDays", .methodLinkNest RX6 88 (⟨RX11, "has", "(II)Z"⟩ : MethodName) "SecretDays", .methodLinkNest RX10 65 (⟨RX11, "has", "(II)Z"⟩ : MethodName) "SecretDays"]
