/-! WORDS AND TOKENS -/
def wr (B o : Nat) : List Nat → Nat
  | [] => 0
  | c :: r => B * wr B o r + (c - o)
def wv (B o : Nat) (w : List Nat) : Nat := wr B o w.reverse
theorem wv_app (B o : Nat) (w : List Nat) (c : Nat) : wv B o (w ++ [c]) = B * wv B o w + (c - o) := by
  unfold wv
  rw [List.reverse_append]
  rfl
theorem wr_inj {B o : Nat} : ∀ (u v : List Nat), (∀ c ∈ u, o < c ∧ c - o < B) → (∀ c ∈ v, o < c ∧ c - o < B) → wr B o u = wr B o v → u = v := by
  intro u
  induction u with
  | nil =>
    intro v _ hv h
    cases v with
    | nil => rfl
    | cons c v =>
      have := hv c List.mem_cons_self
      unfold wr at h
      omega
  | cons c u ih =>
    intro v hu hv h
    obtain ⟨h1, h2⟩ := hu c List.mem_cons_self
    cases v with
    | nil => unfold wr at h; omega
    | cons d v =>
      obtain ⟨h3, h4⟩ := hv d List.mem_cons_self
      have h : B * wr B o u + (c - o) = B * wr B o v + (d - o) := h
      have e1 : (c - o) = (d - o) := by
        have a1 := Nat.mul_add_mod B (wr B o u) (c - o)
        have a2 := Nat.mul_add_mod B (wr B o v) (d - o)
        rw [h, a2, Nat.mod_eq_of_lt h4, Nat.mod_eq_of_lt h2] at a1
        exact a1.symm
      have e2 : wr B o u = wr B o v := by
        have : B * wr B o u = B * wr B o v := by omega
        exact Nat.eq_of_mul_eq_mul_left (by omega) this
      rw [ih v (fun c hc => hu c (List.mem_cons_of_mem _ hc)) (fun c hc => hv c (List.mem_cons_of_mem _ hc)) e2]
      have : c = d := by omega
      rw [this]
theorem wr_lt {B o : Nat} (hB : 0 < B) : ∀ (u : List Nat), (∀ c ∈ u, c - o < B) → wr B o u < B ^ u.length := by
  intro u
  induction u with
  | nil => intro _; unfold wr; simp
  | cons c u ih =>
    intro h
    have h1 := h c List.mem_cons_self
    have h2 := ih (fun c hc => h c (List.mem_cons_of_mem _ hc))
    show B * wr B o u + (c - o) < B ^ (u.length + 1)
    rw [Nat.pow_succ, Nat.mul_comm]
    have : (wr B o u + 1) * B ≤ B ^ u.length * B := Nat.mul_le_mul_right B h2
    rw [Nat.add_mul] at this
    omega
def isL (c : Nat) : Bool := decide (97 ≤ c ∧ c ≤ 122)
def isD (c : Nat) : Bool := decide (48 ≤ c ∧ c ≤ 57)
/-- a word's letters, 8 at most -/
def okW (w : List Nat) : Prop := (∀ c ∈ w, isL c = true) ∧ w.length ≤ 8
abbrev wC (w : List Nat) : Int64 := lN (wv 256 0 w)
abbrev wR (w : List Nat) : Int64 := lN (wv 37 96 w)
theorem lN64 {a b : Nat} (ha : a < 2 ^ 64) (hb : b < 2 ^ 64) (h : lN a = lN b) : a = b := by
  have h1 : (lN a).toBitVec = (lN b).toBitVec := by rw [h]
  have e : ∀ n, (lN n).toBitVec = BitVec.ofNat 64 n := fun n => rfl
  rw [e, e] at h1
  have h2 := congrArg BitVec.toNat h1
  rw [BitVec.toNat_ofNat, BitVec.toNat_ofNat, Nat.mod_eq_of_lt ha, Nat.mod_eq_of_lt hb] at h2
  exact h2
theorem L_pos {c : Nat} (h : isL c = true) : 97 ≤ c ∧ c ≤ 122 := by
  unfold isL at h
  exact of_decide_eq_true h
theorem D_pos {c : Nat} (h : isD c = true) : 48 ≤ c ∧ c ≤ 57 := by
  unfold isD at h
  exact of_decide_eq_true h
theorem wC_lt {w : List Nat} (h : okW w) : wv 256 0 w < 2 ^ 64 := by
  have h1 := wr_lt (B := 256) (o := 0) (by decide) w.reverse (fun c hc => by have := L_pos (h.1 c (List.mem_reverse.mp hc)); omega)
  rw [List.length_reverse] at h1
  have h2 : 256 ^ w.length ≤ 256 ^ 8 := Nat.pow_le_pow_right (by decide) h.2
  have h3 : 256 ^ 8 = 2 ^ 64 := by decide
  unfold wv
  omega
theorem wR_lt {w : List Nat} (h : okW w) : wv 37 96 w < 2 ^ 63 := by
  have h1 := wr_lt (B := 37) (o := 96) (by decide) w.reverse (fun c hc => by have := L_pos (h.1 c (List.mem_reverse.mp hc)); omega)
  rw [List.length_reverse] at h1
  have h2 : 37 ^ w.length ≤ 37 ^ 8 := Nat.pow_le_pow_right (by decide) h.2
  have h3 : 37 ^ 8 < 2 ^ 63 := by decide
  unfold wv
  omega
theorem wC_inj {u v : List Nat} (hu : okW u) (hv : okW v) : wC u = wC v ↔ u = v := by
  constructor
  · intro h
    have := lN64 (wC_lt hu) (wC_lt hv) h
    have := wr_inj u.reverse v.reverse (fun c hc => by have := L_pos (hu.1 c (List.mem_reverse.mp hc)); omega) (fun c hc => by have := L_pos (hv.1 c (List.mem_reverse.mp hc)); omega) this
    exact List.reverse_inj.mp this
  · intro h; rw [h]
theorem wR_inj {u v : List Nat} (hu : okW u) (hv : okW v) : wR u = wR v ↔ u = v := by
  constructor
  · intro h
    have := lN64 (by have := wR_lt hu; omega) (by have := wR_lt hv; omega) h
    have := wr_inj u.reverse v.reverse (fun c hc => by have := L_pos (hu.1 c (List.mem_reverse.mp hc)); omega) (fun c hc => by have := L_pos (hv.1 c (List.mem_reverse.mp hc)); omega) this
    exact List.reverse_inj.mp this
  · intro h; rw [h]
theorem lN_sh8 (a : Nat) {c : Nat} (hc : c < 256) : (lN a <<< ((8 : Int32).toInt64 &&& 63)) ||| (nI c).toInt64 = lN (256 * a + c) := by
  rw [nI_l (by omega)]
  apply Int64.toBitVec_inj.mp
  have e : ∀ n, (lN n).toBitVec = BitVec.ofNat 64 n := fun n => rfl
  have hs : (((8 : Int32).toInt64 &&& 63).toBitVec.smod 64) = 8#64 := by decide
  rw [Int64.toBitVec_or, Int64.toBitVec_shiftLeft, hs, e, e, e, BitVec.shiftLeft_eq']
  apply BitVec.eq_of_getLsbD_eq
  intro i hi
  rw [BitVec.getLsbD_or, BitVec.getLsbD_shiftLeft, BitVec.getLsbD_ofNat, BitVec.getLsbD_ofNat, BitVec.getLsbD_ofNat]
  have h8 : (8#64 : BitVec 64).toNat = 8 := by decide
  rw [h8, show 256 * a + c = 2 ^ 8 * a + c from rfl, Nat.testBit_two_pow_mul_add a (show c < 2 ^ 8 from hc) i]
  by_cases q : i < 8
  · simp [q, hi]
  · have : c.testBit i = false := Nat.testBit_lt_two_pow (Nat.lt_of_lt_of_le (show c < 2 ^ 8 from hc) (Nat.pow_le_pow_right (by decide) (by omega)))
    simp [q, hi, this]
    omega
def nm (w : List Nat) : Nat := wv 10 48 w
theorem nm_lt {w : List Nat} (h : ∀ c ∈ w, isD c = true) (hl : w.length ≤ 4) : nm w < 10000 := by
  have h1 := wr_lt (B := 10) (o := 48) (by decide) w.reverse (fun c hc => by have := D_pos (h c (List.mem_reverse.mp hc)); omega)
  rw [List.length_reverse] at h1
  have h2 : 10 ^ w.length ≤ 10 ^ 4 := Nat.pow_le_pow_right (by decide) hl
  unfold nm wv
  omega
/-! tokens: kind, place, signs -/
abbrev TK : Type := Nat × Nat × List Nat
def spn (P : Nat → Bool) (tp : List Nat) (i : Nat) : List Nat := (tp.drop i).takeWhile P
def tkf (tp : List Nat) : Nat → Nat → List TK
  | 0, _ => []
  | n + 1, i => match tp[i]? with
    | none => []
    | some c => if c = 32 ∨ c = 10 then tkf tp n (i + 1) else if isL c = true then (if (spn isL tp i).length ≤ 8 then 1 else 4, i, spn isL tp i) :: tkf tp n (i + (spn isL tp i).length) else if isD c = true then (if (spn isD tp i).length ≤ 4 then 2 else 4, i, spn isD tp i) :: tkf tp n (i + (spn isD tp i).length) else (if c = 59 then 3 else 4, i, [c]) :: tkf tp n (i + 1)
theorem spn_cons {P : Nat → Bool} {tp : List Nat} {i c : Nat} (h : tp[i]? = some c) (hP : P c = true) : spn P tp i = c :: spn P tp (i + 1) := by
  have hi : i < tp.length := (List.getElem?_eq_some_iff.mp h).1
  have hc : tp[i] = c := (List.getElem?_eq_some_iff.mp h).2
  unfold spn
  rw [List.drop_eq_getElem_cons hi, hc, List.takeWhile_cons, if_pos hP]
theorem spn_nil {P : Nat → Bool} {tp : List Nat} {i c : Nat} (h : tp[i]? = some c) (hP : P c = false) : spn P tp i = [] := by
  have hi : i < tp.length := (List.getElem?_eq_some_iff.mp h).1
  have hc : tp[i] = c := (List.getElem?_eq_some_iff.mp h).2
  unfold spn
  rw [List.drop_eq_getElem_cons hi, hc, List.takeWhile_cons, if_neg (by rw [hP]; decide)]
theorem spn_end {P : Nat → Bool} {tp : List Nat} {i : Nat} (h : tp.length ≤ i) : spn P tp i = [] := by
  unfold spn
  rw [List.drop_eq_nil_of_le h]
  rfl
theorem spn_le {P : Nat → Bool} {tp : List Nat} {i : Nat} (hi : i ≤ tp.length) : i + (spn P tp i).length ≤ tp.length := by
  have h1 : (spn P tp i).length ≤ (tp.drop i).length := (List.takeWhile_sublist P).length_le
  rw [List.length_drop] at h1
  omega
theorem spn_pos {P : Nat → Bool} {tp : List Nat} {i c : Nat} (h : tp[i]? = some c) (hP : P c = true) : 0 < (spn P tp i).length := by
  rw [spn_cons h hP]
  simp
theorem spn_all {P : Nat → Bool} {tp : List Nat} {i c : Nat} (h : c ∈ spn P tp i) : P c = true := by
  unfold spn at h
  exact List.all_eq_true.mp (List.all_takeWhile) c h
theorem tkf_fuel {tp : List Nat} : ∀ (n m i : Nat), tp.length - i ≤ n → tp.length - i ≤ m → tkf tp n i = tkf tp m i := by
  have hend : ∀ n i, tp.length ≤ i → tkf tp n i = [] := by
    intro n i hi
    cases n with
    | zero => rfl
    | succ n =>
      unfold tkf
      rw [List.getElem?_eq_none hi]
  intro n
  induction n with
  | zero => intro m i h1 h2; rw [hend 0 i (by omega), hend m i (by omega)]
  | succ n ih =>
    intro m i h1 h2
    by_cases hi : tp.length ≤ i
    · rw [hend _ i hi, hend _ i hi]
    · obtain ⟨m, rfl⟩ : ∃ m', m = m' + 1 := ⟨m - 1, by omega⟩
      obtain ⟨c, hc⟩ : ∃ c, tp[i]? = some c := ⟨tp[i]'(by omega), List.getElem?_eq_getElem (by omega)⟩
      unfold tkf
      rw [hc]
      dsimp only
      by_cases c1 : c = 32 ∨ c = 10
      · rw [if_pos c1, if_pos c1, ih m (i + 1) (by omega) (by omega)]
      · rw [if_neg c1, if_neg c1]
        by_cases c2 : isL c = true
        · have := spn_pos (P := isL) hc c2
          rw [if_pos c2, if_pos c2, ih m (i + (spn isL tp i).length) (by omega) (by omega)]
        · rw [if_neg c2, if_neg c2]
          by_cases c3 : isD c = true
          · have := spn_pos (P := isD) hc c3
            rw [if_pos c3, if_pos c3, ih m (i + (spn isD tp i).length) (by omega) (by omega)]
          · rw [if_neg c3, if_neg c3, ih m (i + 1) (by omega) (by omega)]
def tks (tp : List Nat) (i : Nat) : List TK := tkf tp (tp.length - i) i
theorem tks_end {tp : List Nat} {i : Nat} (h : tp.length ≤ i) : tks tp i = [] := by
  unfold tks
  rw [show tp.length - i = 0 by omega]
  rfl
theorem tks_at {tp : List Nat} {i c : Nat} (h : tp[i]? = some c) : tks tp i = if c = 32 ∨ c = 10 then tks tp (i + 1) else if isL c = true then (if (spn isL tp i).length ≤ 8 then 1 else 4, i, spn isL tp i) :: tks tp (i + (spn isL tp i).length) else if isD c = true then (if (spn isD tp i).length ≤ 4 then 2 else 4, i, spn isD tp i) :: tks tp (i + (spn isD tp i).length) else (if c = 59 then 3 else 4, i, [c]) :: tks tp (i + 1) := by
  have hi : i < tp.length := (List.getElem?_eq_some_iff.mp h).1
  have e : tks tp i = tkf tp (tp.length + 1) i := tkf_fuel _ _ i (by omega) (by omega)
  rw [e]
  conv => lhs; unfold tkf
  rw [h]
  dsimp only
  have q : ∀ j, tkf tp tp.length j = tks tp j := fun j => tkf_fuel _ _ j (by omega) (by omega)
  rw [q, q, q]
/-- tokens are made of what they should be -/
def okT (t : TK) : Prop := (t.1 = 1 ∧ okW t.2.2) ∨ (t.1 = 2 ∧ nm t.2.2 < 10000) ∨ t.1 = 3 ∨ t.1 = 4
theorem tks_ok {tp : List Nat} : ∀ (n i : Nat), tp.length - i ≤ n → (∀ t ∈ tks tp i, okT t ∧ t.2.1 < tp.length ∧ i ≤ t.2.1) ∧ (tks tp i).length ≤ tp.length - i := by
  intro n
  induction n with
  | zero => intro i h; rw [tks_end (by omega)]; exact ⟨fun t ht => (by cases ht), Nat.zero_le _⟩
  | succ n ih =>
    intro i h
    by_cases hi : tp.length ≤ i
    · rw [tks_end hi]; exact ⟨fun t ht => (by cases ht), Nat.zero_le _⟩
    · obtain ⟨c, hc⟩ : ∃ c, tp[i]? = some c := ⟨tp[i]'(by omega), List.getElem?_eq_getElem (by omega)⟩
      rw [tks_at hc]
      have step : ∀ (t : TK) (j : Nat), okT t → t.2.1 = i → i < j → (∀ u ∈ t :: tks tp j, okT u ∧ u.2.1 < tp.length ∧ i ≤ u.2.1) ∧ (t :: tks tp j).length ≤ tp.length - i := by
        intro t j h1 h2 h3
        obtain ⟨q1, q2⟩ := ih j (by omega)
        refine ⟨fun u hu => ?_, ?_⟩
        · rcases List.mem_cons.mp hu with e | e
          · rw [e]; exact ⟨h1, by omega, by omega⟩
          · obtain ⟨r1, r2, r3⟩ := q1 u e
            exact ⟨r1, r2, by omega⟩
        · rw [List.length_cons]
          by_cases hj : tp.length ≤ j
          · rw [tks_end hj]; simp; omega
          · omega
      by_cases c1 : c = 32 ∨ c = 10
      · rw [if_pos c1]
        obtain ⟨q1, q2⟩ := ih (i + 1) (by omega)
        exact ⟨fun t ht => ⟨(q1 t ht).1, (q1 t ht).2.1, by have := (q1 t ht).2.2; omega⟩, by omega⟩
      · rw [if_neg c1]
        by_cases c2 : isL c = true
        · rw [if_pos c2]
          refine step _ _ ?_ rfl (by have := spn_pos (P := isL) hc c2; omega)
          by_cases c4 : (spn isL tp i).length ≤ 8
          · exact Or.inl ⟨by rw [if_pos c4], fun c hc => spn_all hc, c4⟩
          · exact Or.inr (Or.inr (Or.inr (by rw [if_neg c4])))
        · rw [if_neg c2]
          by_cases c3 : isD c = true
          · rw [if_pos c3]
            refine step _ _ ?_ rfl (by have := spn_pos (P := isD) hc c3; omega)
            by_cases c4 : (spn isD tp i).length ≤ 4
            · exact Or.inr (Or.inl ⟨by rw [if_pos c4], nm_lt (fun c hc => spn_all hc) c4⟩)
            · exact Or.inr (Or.inr (Or.inr (by rw [if_neg c4])))
          · rw [if_neg c3]
            refine step _ _ ?_ rfl (by omega)
            by_cases c4 : c = 59
            · exact Or.inr (Or.inr (Or.inl (by rw [if_pos c4])))
            · exact Or.inr (Or.inr (Or.inr (by rw [if_neg c4])))
