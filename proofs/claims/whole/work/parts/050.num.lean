/-! NUMBERS AND BITS -/
def hb (x : Int32) (q : Nat) : Bool := x.toBitVec.getLsbD q
theorem hb_or (x y : Int32) (q : Nat) : hb (x ||| y) q = (hb x q || hb y q) := by simp [hb]
theorem hb_and (x y : Int32) (q : Nat) : hb (x &&& y) q = (hb x q && hb y q) := by simp [hb]
theorem hb_xor (x y : Int32) (q : Nat) : hb (x ^^^ y) q = (hb x q ^^ hb y q) := by simp [hb]
theorem hb_m1 (q : Nat) : hb (-1) q = decide (q < 32) := by
  have h : (-1 : Int32).toBitVec = BitVec.allOnes 32 := by decide
  unfold hb
  rw [h, BitVec.getLsbD_allOnes]
theorem hb_0 (q : Nat) : hb 0 q = false := by simp [hb]
theorem hb_ge (x : Int32) {q : Nat} (h : 32 ≤ q) : hb x q = false := BitVec.getLsbD_of_ge _ _ h
theorem hb_ext {x y : Int32} (h : ∀ q, q < 32 → hb x q = hb y q) : x = y := by
  apply Int32.toBitVec_inj.mp
  apply BitVec.eq_of_getLsbD_eq
  intro i hi
  exact h i hi
theorem hb_zero {x : Int32} : x = 0 ↔ ∀ q, q < 32 → hb x q = false := by
  constructor
  · intro h q _
    rw [h, hb_0]
  · intro h
    apply hb_ext
    intro q hq
    rw [h q hq, hb_0]
theorem hb_sh {p : Nat} (hp : p < 32) : ((nI p &&& 31).toBitVec.smod 32).toNat = p := by
  have h : ∀ p : Fin 32, ((nI p.val &&& 31).toBitVec.smod 32).toNat = p.val := by decide +kernel
  exact h ⟨p, hp⟩
theorem hb_shl {p : Nat} (hp : p < 32) (q : Nat) : hb ((1 : Int32) <<< (nI p &&& 31)) q = decide (q = p) := by
  have h : ∀ p : Fin 32, ((1 : Int32) <<< (nI p.val &&& 31)).toBitVec = BitVec.twoPow 32 p.val := by decide +kernel
  unfold hb
  rw [h ⟨p, hp⟩, BitVec.getLsbD_twoPow]
  by_cases hq : q = p
  · subst hq; simp [hp]
  · simp [hq, Ne.symm hq]
theorem hb_has (x : Int32) {p : Nat} (hp : p < 32) : ((x >>> (nI p &&& 31)) &&& 1) = 0 ↔ hb x p = false := by
  have h1 : ∀ q, hb ((x >>> (nI p &&& 31)) &&& 1) q = (decide (q = 0) && hb x p) := by
    intro q
    rw [hb_and]
    have h2 : hb 1 q = decide (q = 0) := by
      have h : (1 : Int32).toBitVec = BitVec.twoPow 32 0 := by decide
      unfold hb
      rw [h, BitVec.getLsbD_twoPow]
      by_cases hq : q = 0
      · subst hq; decide
      · simp [hq, Ne.symm hq]
    rw [h2]
    by_cases hq : q = 0
    · subst hq
      unfold hb
      rw [Int32.toBitVec_shiftRight, BitVec.sshiftRight', hb_sh hp, BitVec.getLsbD_sshiftRight]
      simp [hp]
    · simp [hq]
  rw [hb_zero]
  constructor
  · intro h
    have := h 0 (by decide)
    rw [h1] at this
    simpa using this
  · intro h q _
    rw [h1, h, Bool.and_false]
/-- the first n bits -/
theorem hb_all {n : Nat} (hn : n < 32) (q : Nat) : hb (((1 : Int32) <<< (nI n &&& 31)) - 1) q = decide (q < n) := by
  have h : ∀ n : Fin 32, (((1 : Int32) <<< (nI n.val &&& 31)) - 1).toBitVec = BitVec.ofNat 32 (2 ^ n.val - 1) := by decide +kernel
  unfold hb
  rw [h ⟨n, hn⟩]
  simp only [BitVec.getLsbD_ofNat, Nat.testBit_two_pow_sub_one]
  by_cases hq : q < n
  · simp [hq]; omega
  · simp [hq]
theorem hb_nI {b q : Nat} (hq : q < 32) : hb (nI b) q = b.testBit q := by
  unfold hb nI
  rw [Int32.toBitVec_ofNat', BitVec.getLsbD_ofNat]
  simp [hq]
theorem nI_inj {a b : Nat} (ha : a < 2 ^ 31) (hb : b < 2 ^ 31) (h : nI a = nI b) : a = b := (nI_eq ha hb).mp h
/-- an index that is looked at -/
theorem sd_in_ok {β : Type} {i n : Nat} {f : Option β} (h : i < n) (hn : n < 2 ^ 31) : sd_in (nI i) n f = f := by
  unfold sd_in
  exact if_neg (nI_in h hn)
theorem sd_ld_ok {β : Type} {S : sd_St} {k i : Nat} {f : Int32 → Option β} (h : i < sd_al k) (hn : sd_al k < 2 ^ 31) : sd_ld S k (nI i) f = f (S.1 k i) := by
  unfold sd_ld
  rw [sd_in_ok h hn, nI_clamp (by omega)]
theorem sd_ldl_ok {β : Type} {S : sd_St} {k i : Nat} {f : Int64 → Option β} (h : i < sd_al k) (hn : sd_al k < 2 ^ 31) : sd_ldl S k (nI i) f = f (S.2 k i) := by
  unfold sd_ldl
  rw [sd_in_ok h hn, nI_clamp (by omega)]
theorem sd_ld0_ok {β : Type} {i : Nat} {f : Int64 → Option β} (h : i < 14) : sd_ld0 (nI i) f = f (sd_no i) := by
  unfold sd_ld0
  rw [sd_in_ok h (by decide), nI_clamp (by omega)]
theorem sd_st_ok {β : Type} {S : sd_St} {k i : Nat} {v : Int32} {f : sd_St → Option β} (h : i < sd_al k) (hn : sd_al k < 2 ^ 31) : sd_st S k (nI i) v f = f (sd_I S k i v) := by
  unfold sd_st
  rw [sd_in_ok h hn, nI_clamp (by omega)]
theorem sd_stl_ok {β : Type} {S : sd_St} {k i : Nat} {v : Int64} {f : sd_St → Option β} (h : i < sd_al k) (hn : sd_al k < 2 ^ 31) : sd_stl S k (nI i) v f = f (sd_L S k i v) := by
  unfold sd_stl
  rw [sd_in_ok h hn, nI_clamp (by omega)]
theorem sd_cl_ok {α β : Type} {x : Option (α × sd_St)} {a : α} {S : sd_St} {f : α → sd_St → Option β} (h : x = some (a, S)) : sd_cl x f = f a S := by
  rw [h]; rfl
theorem sd_al_lt (k : Nat) : sd_al k < 2 ^ 31 := by
  by_cases h : k < 155
  · have : ∀ k : Fin 155, sd_al k.val < 2 ^ 31 := by decide +kernel
    exact this ⟨k, h⟩
  · unfold sd_al
    rw [List.getD_eq_getElem?_getD, List.getElem?_eq_none (by
      have : sd_alL.length = 155 := by decide +kernel
      omega)]
    decide
/-- reading behind a writing -/
theorem rI_same {S : sd_St} {k j : Nat} {v : Int32} : (sd_I S k j v).1 k j = v := by simp [sd_I, upd]
theorem rI_oth {S : sd_St} {k j i : Nat} {v : Int32} (h : i ≠ j) : (sd_I S k j v).1 k i = S.1 k i := by simp [sd_I, upd, h]
theorem rI_cell {S : sd_St} {k j a : Nat} {v : Int32} (h : a ≠ k) : (sd_I S k j v).1 a = S.1 a := by simp [sd_I, h]
theorem rI_2 {S : sd_St} {k j : Nat} {v : Int32} : (sd_I S k j v).2 = S.2 := rfl
theorem rL_same {S : sd_St} {k j : Nat} {v : Int64} : (sd_L S k j v).2 k j = v := by simp [sd_L, vp_updL]
theorem rL_oth {S : sd_St} {k j i : Nat} {v : Int64} (h : i ≠ j) : (sd_L S k j v).2 k i = S.2 k i := by simp [sd_L, vp_updL, h]
theorem rL_cell {S : sd_St} {k j a : Nat} {v : Int64} (h : a ≠ k) : (sd_L S k j v).2 a = S.2 a := by simp [sd_L, h]
theorem rL_1 {S : sd_St} {k j : Nat} {v : Int64} : (sd_L S k j v).1 = S.1 := rfl
theorem rA_same {S : sd_St} {k : Nat} {f : Nat → Int32} : (sd_A S k f).1 k = f := by simp [sd_A]
theorem rA_cell {S : sd_St} {k a : Nat} {f : Nat → Int32} (h : a ≠ k) : (sd_A S k f).1 a = S.1 a := by simp [sd_A, h]
theorem rA_2 {S : sd_St} {k : Nat} {f : Nat → Int32} : (sd_A S k f).2 = S.2 := rfl
/-- remainders and quotients of numbers that are not negative -/
theorem nI_rem {a d : Nat} (ha : a < 2 ^ 31) (h0 : 0 < d) (hd : d < 2 ^ 31) : sd_rem (nI a) (nI d) = nI (a % d) := pk_rem ha h0 hd
theorem nI_div {a d : Nat} (ha : a < 2 ^ 31) (h0 : 0 < d) (hd : d < 2 ^ 31) : nI a / nI d = nI (a / d) := pk_div ha h0 hd
theorem nI_mul (a b : Nat) : nI a * nI b = nI (a * b) := pk_mul a b
theorem nI_neg1 {a : Nat} (h : a < 2 ^ 31) : ¬ nI a = -1 := by
  intro e
  have h1 := nI_toInt h
  rw [e] at h1
  have h2 : (-1 : Int32).toInt = -1 := by decide
  omega
theorem nI_lt_neg1 {a : Nat} (h : a < 2 ^ 31) : (-1 : Int32) < nI a := by
  rw [Int32.lt_iff_toInt_lt, nI_toInt h]
  have h2 : (-1 : Int32).toInt = -1 := by decide
  omega
theorem sd_nm_eq {α β : Type} {a : α} {f : α → Option β} : sd_nm a f = f a := rfl
theorem sd_cp_ok {β : Type} {S : sd_St} {k0 k1 a b n : Nat} {f : sd_St → Option β} (h4 : a + n ≤ sd_al k0) (h5 : b + n ≤ sd_al k1) : sd_cp S k0 (nI a) k1 (nI b) (nI n) f = f (sd_A S k1 (va_cpy (S.1 k0) (S.1 k1) a b n)) := by
  have g0 := sd_al_lt k0
  have g1 := sd_al_lt k1
  unfold sd_cp
  rw [nI_clamp (by omega), nI_clamp (by omega), nI_clamp (by omega)]
  rw [if_neg (by
    rintro (h | h | h | h | h)
    · exact nI_pos (by omega) h
    · exact nI_pos (by omega) h
    · exact nI_pos (by omega) h
    · omega
    · omega)]
theorem rI (S : sd_St) (k j : Nat) (v : Int32) (a i : Nat) : (sd_I S k j v).1 a i = if a = k ∧ i = j then v else S.1 a i := by
  by_cases h : a = k
  · subst h
    by_cases h2 : i = j
    · subst h2; simp [rI_same]
    · simp [h2, rI_oth h2]
  · rw [rI_cell h]; simp [h]
theorem rL (S : sd_St) (k j : Nat) (v : Int64) (a i : Nat) : (sd_L S k j v).2 a i = if a = k ∧ i = j then v else S.2 a i := by
  by_cases h : a = k
  · subst h
    by_cases h2 : i = j
    · subst h2; simp [rL_same]
    · simp [h2, rL_oth h2]
  · rw [rL_cell h]; simp [h]
theorem rA (S : sd_St) (k : Nat) (f : Nat → Int32) (a i : Nat) : (sd_A S k f).1 a i = if a = k then f i else S.1 a i := by
  by_cases h : a = k
  · subst h; simp [rA_same]
  · rw [rA_cell h]; simp [h]
