/-! THE WORDS OF THE PURE FUNCTIONS: an index is looked at, a call's answer is taken, a loop has fuel -/
def sd_FU : Nat := 20000
def sd_DU : Nat := 14
abbrev sd_rem (x y : Int32) : Int32 := x - x / y * y
abbrev sd_lrem (x y : Int64) : Int64 := x - x / y * y
abbrev sd_mx (x y : Int32) : Int32 := if x < y then y else x
def sd_nm {α β : Type} (a : α) (f : α → Option β) : Option β := f a
theorem sd_nm_some {α β : Type} {a : α} {f : α → Option β} {r : β} (h : sd_nm a f = some r) : ∃ x, x = a ∧ f x = some r := ⟨a, rfl, h⟩
def sd_nz {β : Type} (y : Int32) (f : Option β) : Option β := if y = 0 then none else f
theorem sd_nz_some {β : Type} {y : Int32} {f : Option β} {r : β} (h : sd_nz y f = some r) : ¬ y = 0 ∧ f = some r := by
  unfold sd_nz at h
  by_cases c : y = 0
  · rw [if_pos c] at h; cases h
  · rw [if_neg c] at h; exact ⟨c, h⟩
def sd_nzl {β : Type} (y : Int64) (f : Option β) : Option β := if y = 0 then none else f
theorem sd_nzl_some {β : Type} {y : Int64} {f : Option β} {r : β} (h : sd_nzl y f = some r) : ¬ y = 0 ∧ f = some r := by
  unfold sd_nzl at h
  by_cases c : y = 0
  · rw [if_pos c] at h; cases h
  · rw [if_neg c] at h; exact ⟨c, h⟩
def sd_in {β : Type} (i : Int32) (n : Nat) (f : Option β) : Option β := if i < 0 ∨ n ≤ i.toNatClampNeg then none else f
theorem sd_in_some {β : Type} {i : Int32} {n : Nat} {f : Option β} {r : β} (h : sd_in i n f = some r) : vp_in i n ∧ f = some r := by
  unfold sd_in at h
  by_cases c : i < 0 ∨ n ≤ i.toNatClampNeg
  · rw [if_pos c] at h; cases h
  · rw [if_neg c] at h; exact ⟨c, h⟩
def sd_ld {β : Type} (S : sd_St) (k : Nat) (i : Int32) (f : Int32 → Option β) : Option β := sd_in i (sd_al k) (f (S.1 k i.toNatClampNeg))
theorem sd_ld_some {β : Type} {S : sd_St} {k : Nat} {i : Int32} {f : Int32 → Option β} {r : β} (h : sd_ld S k i f = some r) : vp_in i (sd_al k) ∧ ∃ v, v = S.1 k i.toNatClampNeg ∧ f v = some r := by
  obtain ⟨a, b⟩ := sd_in_some h
  exact ⟨a, _, rfl, b⟩
def sd_ldl {β : Type} (S : sd_St) (k : Nat) (i : Int32) (f : Int64 → Option β) : Option β := sd_in i (sd_al k) (f (S.2 k i.toNatClampNeg))
theorem sd_ldl_some {β : Type} {S : sd_St} {k : Nat} {i : Int32} {f : Int64 → Option β} {r : β} (h : sd_ldl S k i f = some r) : vp_in i (sd_al k) ∧ ∃ v, v = S.2 k i.toNatClampNeg ∧ f v = some r := by
  obtain ⟨a, b⟩ := sd_in_some h
  exact ⟨a, _, rfl, b⟩
def sd_ld0 {β : Type} (i : Int32) (f : Int64 → Option β) : Option β := sd_in i 14 (f (sd_no i.toNatClampNeg))
theorem sd_ld0_some {β : Type} {i : Int32} {f : Int64 → Option β} {r : β} (h : sd_ld0 i f = some r) : vp_in i 14 ∧ ∃ v, v = sd_no i.toNatClampNeg ∧ f v = some r := by
  obtain ⟨a, b⟩ := sd_in_some h
  exact ⟨a, _, rfl, b⟩
def sd_st {β : Type} (S : sd_St) (k : Nat) (i v : Int32) (f : sd_St → Option β) : Option β := sd_in i (sd_al k) (f (sd_I S k i.toNatClampNeg v))
theorem sd_st_some {β : Type} {S : sd_St} {k : Nat} {i v : Int32} {f : sd_St → Option β} {r : β} (h : sd_st S k i v f = some r) : vp_in i (sd_al k) ∧ ∃ S1, S1 = sd_I S k i.toNatClampNeg v ∧ f S1 = some r := by
  obtain ⟨a, b⟩ := sd_in_some h
  exact ⟨a, _, rfl, b⟩
def sd_stl {β : Type} (S : sd_St) (k : Nat) (i : Int32) (v : Int64) (f : sd_St → Option β) : Option β := sd_in i (sd_al k) (f (sd_L S k i.toNatClampNeg v))
theorem sd_stl_some {β : Type} {S : sd_St} {k : Nat} {i : Int32} {v : Int64} {f : sd_St → Option β} {r : β} (h : sd_stl S k i v f = some r) : vp_in i (sd_al k) ∧ ∃ S1, S1 = sd_L S k i.toNatClampNeg v ∧ f S1 = some r := by
  obtain ⟨a, b⟩ := sd_in_some h
  exact ⟨a, _, rfl, b⟩
def sd_cp {β : Type} (S : sd_St) (k0 : Nat) (sp : Int32) (k1 : Nat) (dp n : Int32) (f : sd_St → Option β) : Option β :=
  if sp < 0 ∨ dp < 0 ∨ n < 0 ∨ sd_al k0 < sp.toNatClampNeg + n.toNatClampNeg ∨ sd_al k1 < dp.toNatClampNeg + n.toNatClampNeg then none else f (sd_A S k1 (va_cpy (S.1 k0) (S.1 k1) sp.toNatClampNeg dp.toNatClampNeg n.toNatClampNeg))
theorem sd_cp_some {β : Type} {S : sd_St} {k0 k1 : Nat} {sp dp n : Int32} {f : sd_St → Option β} {r : β} (h : sd_cp S k0 sp k1 dp n f = some r) : (¬ sp < 0 ∧ ¬ dp < 0 ∧ ¬ n < 0 ∧ sp.toNatClampNeg + n.toNatClampNeg ≤ sd_al k0 ∧ dp.toNatClampNeg + n.toNatClampNeg ≤ sd_al k1) ∧ ∃ S1, S1 = sd_A S k1 (va_cpy (S.1 k0) (S.1 k1) sp.toNatClampNeg dp.toNatClampNeg n.toNatClampNeg) ∧ f S1 = some r := by
  unfold sd_cp at h
  by_cases c : sp < 0 ∨ dp < 0 ∨ n < 0 ∨ sd_al k0 < sp.toNatClampNeg + n.toNatClampNeg ∨ sd_al k1 < dp.toNatClampNeg + n.toNatClampNeg
  · rw [if_pos c] at h; cases h
  · rw [if_neg c] at h
    refine ⟨⟨fun q => c (Or.inl q), fun q => c (Or.inr (Or.inl q)), fun q => c (Or.inr (Or.inr (Or.inl q))), ?_, ?_⟩, _, rfl, h⟩
    · exact Nat.not_lt.mp fun q => c (Or.inr (Or.inr (Or.inr (Or.inl q))))
    · exact Nat.not_lt.mp fun q => c (Or.inr (Or.inr (Or.inr (Or.inr q))))
def sd_cl {α β : Type} (x : Option (α × sd_St)) (f : α → sd_St → Option β) : Option β := match x with
  | none => none
  | some (a, S) => f a S
theorem sd_cl_some {α β : Type} {x : Option (α × sd_St)} {f : α → sd_St → Option β} {r : β} (h : sd_cl x f = some r) : ∃ a S, x = some (a, S) ∧ f a S = some r := by
  match x, h with
  | some (a, S), h => exact ⟨a, S, rfl, h⟩
def sd_ckz {β : Type} (v : Int32) (f : Option β) : Option β := if v = 0 ∨ v = 1 then f else none
theorem sd_ckz_some {β : Type} {v : Int32} {f : Option β} {r : β} (h : sd_ckz v f = some r) : (v = 0 ∨ v = 1) ∧ f = some r := by
  unfold sd_ckz at h
  by_cases c : v = 0 ∨ v = 1
  · rw [if_pos c] at h; exact ⟨c, h⟩
  · rw [if_neg c] at h; cases h
theorem sd_ifp {β : Type} {c : Prop} {dc : Decidable c} {a b : Option β} {r : β} (hc : c) (h : (@ite _ c dc a b) = some r) : a = some r := by rw [if_pos hc] at h; exact h
theorem sd_ifn {β : Type} {c : Prop} {dc : Decidable c} {a b : Option β} {r : β} (hc : ¬ c) (h : (@ite _ c dc a b) = some r) : b = some r := by rw [if_neg hc] at h; exact h
section SDN
variable {p : Program} {l : Launch} {e : Env} {R : Room} {s : State} {m : MethodId} {args : Array Value} {below : List Frame} {meth : Method} {c : Code} {H : Heap} {locs : List Loc} {Q : State → Prop} {pc cells slots : Nat} {ls : Array Slot} {rest : List Value}
theorem sd_nmi {x y : Int32} (h : x = y) (k : W p l e R s m args below meth c H locs cells slots Q (F0 m pc ls (.int x :: rest))) : W p l e R s m args below meth c H locs cells slots Q (F0 m pc ls (.int y :: rest)) := h ▸ k
theorem sd_nml {x y : Int64} (h : x = y) (k : W p l e R s m args below meth c H locs cells slots Q (F0 m pc ls (.long x :: rest))) : W p l e R s m args below meth c H locs cells slots Q (F0 m pc ls (.long y :: rest)) := h ▸ k
end SDN
theorem sd_swo5 {x : Int32} (h0 : ¬ x = 0) (h1 : ¬ x = 1) (h2 : ¬ x = 2) (h3 : ¬ x = 3) (h4 : ¬ x = 4) : x.toInt < 0 ∨ 4 < x.toInt := by
  have a0 := lv_neT h0 (a := 0) (by decide)
  have a1 := lv_neT h1 (a := 1) (by decide)
  have a2 := lv_neT h2 (a := 2) (by decide)
  have a3 := lv_neT h3 (a := 3) (by decide)
  have a4 := lv_neT h4 (a := 4) (by decide)
  omega
theorem sd_swo8 {x : Int32} (h0 : ¬ x = 0) (h1 : ¬ x = 1) (h2 : ¬ x = 2) (h3 : ¬ x = 3) (h4 : ¬ x = 4) (h5 : ¬ x = 5) (h6 : ¬ x = 6) (h7 : ¬ x = 7) : x.toInt < 0 ∨ 7 < x.toInt := by
  have a0 := lv_neT h0 (a := 0) (by decide)
  have a1 := lv_neT h1 (a := 1) (by decide)
  have a2 := lv_neT h2 (a := 2) (by decide)
  have a3 := lv_neT h3 (a := 3) (by decide)
  have a4 := lv_neT h4 (a := 4) (by decide)
  have a5 := lv_neT h5 (a := 5) (by decide)
  have a6 := lv_neT h6 (a := 6) (by decide)
  have a7 := lv_neT h7 (a := 7) (by decide)
  omega
theorem sd_e5 {k q : Nat} {i : Int32} (hk : sd_kd k = 17) (b : vp_in i (sd_al k)) (e : q = 34 + 5 * i.toNatClampNeg) : sd_kd q = 5 := by
  have h : ∀ k, k < 155 → sd_kd k = 17 → sd_al k = 4 := by decide +kernel
  have h4 := h k (sd_lt (by rw [hk]; decide)) hk
  rw [h4] at b
  have hi : i.toNatClampNeg < 4 := Nat.not_le.mp fun z => b (Or.inr z)
  subst e
  generalize i.toNatClampNeg = j at hi
  rcases (show j = 0 ∨ j = 1 ∨ j = 2 ∨ j = 3 by omega) with h | h | h | h <;> subst h <;> rfl
theorem sd_e4 {k q : Nat} {i : Int32} (hk : sd_kd k = 18) (b : vp_in i (sd_al k)) (e : q = 81 + 5 * i.toNatClampNeg) : sd_kd q = 4 := by
  have h : ∀ k, k < 155 → sd_kd k = 18 → sd_al k = 4 := by decide +kernel
  have h4 := h k (sd_lt (by rw [hk]; decide)) hk
  rw [h4] at b
  have hi : i.toNatClampNeg < 4 := Nat.not_le.mp fun z => b (Or.inr z)
  subst e
  generalize i.toNatClampNeg = j at hi
  rcases (show j = 0 ∨ j = 1 ∨ j = 2 ∨ j = 3 by omega) with h | h | h | h <;> subst h <;> rfl
theorem sd_k1_1 {k : Nat} (h : sd_kd k = 1) : sd_kd (k + 1) = 13 := (show ∀ k, k < 155 → sd_kd k = 1 → sd_kd (k + 1) = 13 by decide +kernel) k (sd_lt (by rw [h]; decide)) h
theorem sd_k1_2 {k : Nat} (h : sd_kd k = 1) : sd_kd (k + 2) = 13 := (show ∀ k, k < 155 → sd_kd k = 1 → sd_kd (k + 2) = 13 by decide +kernel) k (sd_lt (by rw [h]; decide)) h
theorem sd_k1_3 {k : Nat} (h : sd_kd k = 1) : sd_kd (k + 3) = 13 := (show ∀ k, k < 155 → sd_kd k = 1 → sd_kd (k + 3) = 13 by decide +kernel) k (sd_lt (by rw [h]; decide)) h
theorem sd_k1_4 {k : Nat} (h : sd_kd k = 1) : sd_kd (k + 4) = 13 := (show ∀ k, k < 155 → sd_kd k = 1 → sd_kd (k + 4) = 13 by decide +kernel) k (sd_lt (by rw [h]; decide)) h
theorem sd_k2_1 {k : Nat} (h : sd_kd k = 2) : sd_kd (k + 1) = 13 := (show ∀ k, k < 155 → sd_kd k = 2 → sd_kd (k + 1) = 13 by decide +kernel) k (sd_lt (by rw [h]; decide)) h
theorem sd_k2_2 {k : Nat} (h : sd_kd k = 2) : sd_kd (k + 2) = 13 := (show ∀ k, k < 155 → sd_kd k = 2 → sd_kd (k + 2) = 13 by decide +kernel) k (sd_lt (by rw [h]; decide)) h
theorem sd_k3_1 {k : Nat} (h : sd_kd k = 3) : sd_kd (k + 1) = 15 := (show ∀ k, k < 155 → sd_kd k = 3 → sd_kd (k + 1) = 15 by decide +kernel) k (sd_lt (by rw [h]; decide)) h
theorem sd_k3_2 {k : Nat} (h : sd_kd k = 3) : sd_kd (k + 2) = 15 := (show ∀ k, k < 155 → sd_kd k = 3 → sd_kd (k + 2) = 15 by decide +kernel) k (sd_lt (by rw [h]; decide)) h
theorem sd_k3_3 {k : Nat} (h : sd_kd k = 3) : sd_kd (k + 3) = 18 := (show ∀ k, k < 155 → sd_kd k = 3 → sd_kd (k + 3) = 18 by decide +kernel) k (sd_lt (by rw [h]; decide)) h
theorem sd_k4_1 {k : Nat} (h : sd_kd k = 4) : sd_kd (k + 1) = 13 := (show ∀ k, k < 155 → sd_kd k = 4 → sd_kd (k + 1) = 13 by decide +kernel) k (sd_lt (by rw [h]; decide)) h
theorem sd_k4_2 {k : Nat} (h : sd_kd k = 4) : sd_kd (k + 2) = 13 := (show ∀ k, k < 155 → sd_kd k = 4 → sd_kd (k + 2) = 13 by decide +kernel) k (sd_lt (by rw [h]; decide)) h
theorem sd_k4_3 {k : Nat} (h : sd_kd k = 4) : sd_kd (k + 3) = 13 := (show ∀ k, k < 155 → sd_kd k = 4 → sd_kd (k + 3) = 13 by decide +kernel) k (sd_lt (by rw [h]; decide)) h
theorem sd_k4_4 {k : Nat} (h : sd_kd k = 4) : sd_kd (k + 4) = 15 := (show ∀ k, k < 155 → sd_kd k = 4 → sd_kd (k + 4) = 15 by decide +kernel) k (sd_lt (by rw [h]; decide)) h
theorem sd_k5_1 {k : Nat} (h : sd_kd k = 5) : sd_kd (k + 1) = 13 := (show ∀ k, k < 155 → sd_kd k = 5 → sd_kd (k + 1) = 13 by decide +kernel) k (sd_lt (by rw [h]; decide)) h
theorem sd_k5_2 {k : Nat} (h : sd_kd k = 5) : sd_kd (k + 2) = 13 := (show ∀ k, k < 155 → sd_kd k = 5 → sd_kd (k + 2) = 13 by decide +kernel) k (sd_lt (by rw [h]; decide)) h
theorem sd_k5_3 {k : Nat} (h : sd_kd k = 5) : sd_kd (k + 3) = 13 := (show ∀ k, k < 155 → sd_kd k = 5 → sd_kd (k + 3) = 13 by decide +kernel) k (sd_lt (by rw [h]; decide)) h
theorem sd_k5_4 {k : Nat} (h : sd_kd k = 5) : sd_kd (k + 4) = 13 := (show ∀ k, k < 155 → sd_kd k = 5 → sd_kd (k + 4) = 13 by decide +kernel) k (sd_lt (by rw [h]; decide)) h
theorem sd_k6_1 {k : Nat} (h : sd_kd k = 6) : sd_kd (k + 1) = 13 := (show ∀ k, k < 155 → sd_kd k = 6 → sd_kd (k + 1) = 13 by decide +kernel) k (sd_lt (by rw [h]; decide)) h
theorem sd_k6_2 {k : Nat} (h : sd_kd k = 6) : sd_kd (k + 2) = 13 := (show ∀ k, k < 155 → sd_kd k = 6 → sd_kd (k + 2) = 13 by decide +kernel) k (sd_lt (by rw [h]; decide)) h
theorem sd_k6_3 {k : Nat} (h : sd_kd k = 6) : sd_kd (k + 3) = 15 := (show ∀ k, k < 155 → sd_kd k = 6 → sd_kd (k + 3) = 15 by decide +kernel) k (sd_lt (by rw [h]; decide)) h
theorem sd_k6_4 {k : Nat} (h : sd_kd k = 6) : sd_kd (k + 4) = 13 := (show ∀ k, k < 155 → sd_kd k = 6 → sd_kd (k + 4) = 13 by decide +kernel) k (sd_lt (by rw [h]; decide)) h
theorem sd_k6_5 {k : Nat} (h : sd_kd k = 6) : sd_kd (k + 5) = 13 := (show ∀ k, k < 155 → sd_kd k = 6 → sd_kd (k + 5) = 13 by decide +kernel) k (sd_lt (by rw [h]; decide)) h
theorem sd_k6_6 {k : Nat} (h : sd_kd k = 6) : sd_kd (k + 6) = 13 := (show ∀ k, k < 155 → sd_kd k = 6 → sd_kd (k + 6) = 13 by decide +kernel) k (sd_lt (by rw [h]; decide)) h
theorem sd_k6_7 {k : Nat} (h : sd_kd k = 6) : sd_kd (k + 7) = 13 := (show ∀ k, k < 155 → sd_kd k = 6 → sd_kd (k + 7) = 13 by decide +kernel) k (sd_lt (by rw [h]; decide)) h
theorem sd_k6_8 {k : Nat} (h : sd_kd k = 6) : sd_kd (k + 8) = 13 := (show ∀ k, k < 155 → sd_kd k = 6 → sd_kd (k + 8) = 13 by decide +kernel) k (sd_lt (by rw [h]; decide)) h
theorem sd_k7_1 {k : Nat} (h : sd_kd k = 7) : sd_kd (k + 1) = 16 := (show ∀ k, k < 155 → sd_kd k = 7 → sd_kd (k + 1) = 16 by decide +kernel) k (sd_lt (by rw [h]; decide)) h
theorem sd_k8_1 {k : Nat} (h : sd_kd k = 8) : sd_kd (k + 1) = 13 := (show ∀ k, k < 155 → sd_kd k = 8 → sd_kd (k + 1) = 13 by decide +kernel) k (sd_lt (by rw [h]; decide)) h
theorem sd_k8_2 {k : Nat} (h : sd_kd k = 8) : sd_kd (k + 2) = 13 := (show ∀ k, k < 155 → sd_kd k = 8 → sd_kd (k + 2) = 13 by decide +kernel) k (sd_lt (by rw [h]; decide)) h
theorem sd_k8_3 {k : Nat} (h : sd_kd k = 8) : sd_kd (k + 3) = 13 := (show ∀ k, k < 155 → sd_kd k = 8 → sd_kd (k + 3) = 13 by decide +kernel) k (sd_lt (by rw [h]; decide)) h
theorem sd_k8_4 {k : Nat} (h : sd_kd k = 8) : sd_kd (k + 4) = 13 := (show ∀ k, k < 155 → sd_kd k = 8 → sd_kd (k + 4) = 13 by decide +kernel) k (sd_lt (by rw [h]; decide)) h
theorem sd_k8_5 {k : Nat} (h : sd_kd k = 8) : sd_kd (k + 5) = 13 := (show ∀ k, k < 155 → sd_kd k = 8 → sd_kd (k + 5) = 13 by decide +kernel) k (sd_lt (by rw [h]; decide)) h
theorem sd_k8_6 {k : Nat} (h : sd_kd k = 8) : sd_kd (k + 6) = 13 := (show ∀ k, k < 155 → sd_kd k = 8 → sd_kd (k + 6) = 13 by decide +kernel) k (sd_lt (by rw [h]; decide)) h
theorem sd_k8_7 {k : Nat} (h : sd_kd k = 8) : sd_kd (k + 7) = 13 := (show ∀ k, k < 155 → sd_kd k = 8 → sd_kd (k + 7) = 13 by decide +kernel) k (sd_lt (by rw [h]; decide)) h
theorem sd_k8_8 {k : Nat} (h : sd_kd k = 8) : sd_kd (k + 8) = 13 := (show ∀ k, k < 155 → sd_kd k = 8 → sd_kd (k + 8) = 13 by decide +kernel) k (sd_lt (by rw [h]; decide)) h
theorem sd_k8_9 {k : Nat} (h : sd_kd k = 8) : sd_kd (k + 9) = 13 := (show ∀ k, k < 155 → sd_kd k = 8 → sd_kd (k + 9) = 13 by decide +kernel) k (sd_lt (by rw [h]; decide)) h
theorem sd_k8_10 {k : Nat} (h : sd_kd k = 8) : sd_kd (k + 10) = 13 := (show ∀ k, k < 155 → sd_kd k = 8 → sd_kd (k + 10) = 13 by decide +kernel) k (sd_lt (by rw [h]; decide)) h
theorem sd_k9_1 {k : Nat} (h : sd_kd k = 9) : sd_kd (k + 1) = 8 := (show ∀ k, k < 155 → sd_kd k = 9 → sd_kd (k + 1) = 8 by decide +kernel) k (sd_lt (by rw [h]; decide)) h
theorem sd_k9_3 {k : Nat} (h : sd_kd k = 9) : sd_kd (k + 3) = 13 := (show ∀ k, k < 155 → sd_kd k = 9 → sd_kd (k + 3) = 13 by decide +kernel) k (sd_lt (by rw [h]; decide)) h
theorem sd_k9_4 {k : Nat} (h : sd_kd k = 9) : sd_kd (k + 4) = 13 := (show ∀ k, k < 155 → sd_kd k = 9 → sd_kd (k + 4) = 13 by decide +kernel) k (sd_lt (by rw [h]; decide)) h
theorem sd_k9_5 {k : Nat} (h : sd_kd k = 9) : sd_kd (k + 5) = 13 := (show ∀ k, k < 155 → sd_kd k = 9 → sd_kd (k + 5) = 13 by decide +kernel) k (sd_lt (by rw [h]; decide)) h
theorem sd_k9_6 {k : Nat} (h : sd_kd k = 9) : sd_kd (k + 6) = 13 := (show ∀ k, k < 155 → sd_kd k = 9 → sd_kd (k + 6) = 13 by decide +kernel) k (sd_lt (by rw [h]; decide)) h
theorem sd_k9_12 {k : Nat} (h : sd_kd k = 9) : sd_kd (k + 12) = 7 := (show ∀ k, k < 155 → sd_kd k = 9 → sd_kd (k + 12) = 7 by decide +kernel) k (sd_lt (by rw [h]; decide)) h
theorem sd_k9_14 {k : Nat} (h : sd_kd k = 9) : sd_kd (k + 14) = 14 := (show ∀ k, k < 155 → sd_kd k = 9 → sd_kd (k + 14) = 14 by decide +kernel) k (sd_lt (by rw [h]; decide)) h
theorem sd_k9_15 {k : Nat} (h : sd_kd k = 9) : sd_kd (k + 15) = 14 := (show ∀ k, k < 155 → sd_kd k = 9 → sd_kd (k + 15) = 14 by decide +kernel) k (sd_lt (by rw [h]; decide)) h
theorem sd_k10_1 {k : Nat} (h : sd_kd k = 10) : sd_kd (k + 1) = 8 := (show ∀ k, k < 155 → sd_kd k = 10 → sd_kd (k + 1) = 8 by decide +kernel) k (sd_lt (by rw [h]; decide)) h
theorem sd_k10_2 {k : Nat} (h : sd_kd k = 10) : sd_kd (k + 2) = 13 := (show ∀ k, k < 155 → sd_kd k = 10 → sd_kd (k + 2) = 13 by decide +kernel) k (sd_lt (by rw [h]; decide)) h
theorem sd_k10_10 {k : Nat} (h : sd_kd k = 10) : sd_kd (k + 10) = 13 := (show ∀ k, k < 155 → sd_kd k = 10 → sd_kd (k + 10) = 13 by decide +kernel) k (sd_lt (by rw [h]; decide)) h
theorem sd_k10_11 {k : Nat} (h : sd_kd k = 10) : sd_kd (k + 11) = 13 := (show ∀ k, k < 155 → sd_kd k = 10 → sd_kd (k + 11) = 13 by decide +kernel) k (sd_lt (by rw [h]; decide)) h
theorem sd_k10_12 {k : Nat} (h : sd_kd k = 10) : sd_kd (k + 12) = 1 := (show ∀ k, k < 155 → sd_kd k = 10 → sd_kd (k + 12) = 1 by decide +kernel) k (sd_lt (by rw [h]; decide)) h
theorem sd_k10_17 {k : Nat} (h : sd_kd k = 10) : sd_kd (k + 17) = 1 := (show ∀ k, k < 155 → sd_kd k = 10 → sd_kd (k + 17) = 1 by decide +kernel) k (sd_lt (by rw [h]; decide)) h
theorem sd_k10_22 {k : Nat} (h : sd_kd k = 10) : sd_kd (k + 22) = 5 := (show ∀ k, k < 155 → sd_kd k = 10 → sd_kd (k + 22) = 5 by decide +kernel) k (sd_lt (by rw [h]; decide)) h
theorem sd_k10_27 {k : Nat} (h : sd_kd k = 10) : sd_kd (k + 27) = 15 := (show ∀ k, k < 155 → sd_kd k = 10 → sd_kd (k + 27) = 15 by decide +kernel) k (sd_lt (by rw [h]; decide)) h
theorem sd_k10_28 {k : Nat} (h : sd_kd k = 10) : sd_kd (k + 28) = 13 := (show ∀ k, k < 155 → sd_kd k = 10 → sd_kd (k + 28) = 13 by decide +kernel) k (sd_lt (by rw [h]; decide)) h
