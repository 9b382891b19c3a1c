/-! THE READERS: what each line comes to, and what it keeps -/
def setL (T : TW) (n : Nat) : TW := fun i j => if i = 12 ∧ j = 0 then n else T i j
def addP (T : TW) (d : Nat) : TW := fun i j => if i = 0 ∧ j = 0 then T 0 0 + 1 else if i = 1 ∧ j = T 0 0 then d + 1 else if (i = 2 ∨ i = 3 ∨ i = 4) ∧ j = T 0 0 then 0 else T i j
def setM (T : TW) (p m : Nat) : TW := fun i j => if i = 2 ∧ j = p then m else T i j
def setI (T : TW) (p m : Nat) : TW := fun i j => if i = 3 ∧ j = p then m else T i j
def addC (T : TW) (p h : Nat) : TW := fun i j => if i = 4 ∧ j = h then T 4 h ||| 2 ^ p else T i j
def addA (T : TW) (w f t : Nat) : TW := fun i j => if i = 5 ∧ j = 0 then T 5 0 + 1 else if i = 6 ∧ j = T 5 0 then w else if i = 7 ∧ j = T 5 0 then f else if i = 8 ∧ j = T 5 0 then t else T i j
def addS (T : TW) (b x : Nat) : TW := fun i j => if i = 9 ∧ j = 0 then T 9 0 + 1 else if i = 10 ∧ j = T 9 0 then b else if i = 11 ∧ j = T 9 0 then x else T i j
def rLeap (L : Nat) (P : Pst) (tl : List TK) : Except Nat (Pst × List TK) := if P.2.2 then .error (flt 3 L tl) else (sN L 3 tl.tail).map (fun x => ((setL P.1 x.1, P.2.1, true), x.2))
def rLaw (L : Nat) (P : Pst) (tl : List TK) : Except Nat (Pst × List TK) := if tz P.1 = 1 then .error (flt 3 L tl) else (sW L 13 tl.tail).map (fun x => ((setZ P.1 1, P.2.1, P.2.2), x))
def rExt (L : Nat) : Nat → Bool → Bool → Nat → Pst → List TK → Except Nat (Pst × List TK)
  | 0, _, _, _, P, tl => .ok (P, tl)
  | n + 1, a, b, p, P, tl => if isW 3 tl then (if a then .error (flt 3 L tl) else (sN L 365 tl.tail).bind (fun x => rExt L n true b p (setM P.1 p (x.1 + 1), P.2.1, P.2.2) x.2)) else if isW 4 tl then (if b then .error (flt 3 L tl) else (sN L 99 tl.tail).bind (fun x => rExt L n a true p (setI P.1 p x.1, P.2.1, P.2.2) x.2)) else .ok (P, tl)
def rPerson (L : Nat) (P : Pst) (tl : List TK) : Except Nat (Pst × List TK) := if tn P.1 = 12 then .error (flt 5 L tl) else (sNew L P.2.1 tl.tail).bind (fun x => ((sW L 2 x.2).bind (sN L 365)).bind (fun y => rExt L 3 false false (tn P.1) (addP P.1 y.1, P.2.1 ++ [(x.1, tn P.1)], P.2.2) y.2))
def rHost (L : Nat) : Nat → Nat → Pst → List TK → Except Nat (Pst × List TK)
  | 0, _, P, tl => .ok (P, tl)
  | n + 1, p, P, tl => (sP L P.2.1 tl).bind (fun h => if h = p ∨ (tc P.1 h).testBit p = true then .error (flt 3 L tl) else if 6 ≤ pcB (tc P.1 h) then .error (flt 5 L tl) else if isS tl.tail then .ok ((addC P.1 p h, P.2.1, P.2.2), tl.tail) else rHost L n p (addC P.1 p h, P.2.1, P.2.2) tl.tail)
def rCalls (L : Nat) (P : Pst) (tl : List TK) : Except Nat (Pst × List TK) := (sP L P.2.1 tl.tail).bind (fun p => (sW L 6 tl.tail.tail).bind (fun x => rHost L 12 p P x))
def rAway (L : Nat) (P : Pst) (tl : List TK) : Except Nat (Pst × List TK) := if ta P.1 = 12 then .error (flt 5 L tl) else (sP L P.2.1 tl.tail).bind (fun p => ((sW L 8 tl.tail.tail).bind (sD L 0)).bind (fun x => ((sW L 9 x.2).bind (sD L x.1)).map (fun y => ((addA P.1 p x.1 y.1, P.2.1, P.2.2), y.2))))
def rSecret (L : Nat) (P : Pst) (tl : List TK) : Except Nat (Pst × List TK) := if ts P.1 = 4 then .error (flt 5 L tl) else (sNew L P.2.1 tl.tail).bind (fun x => (sW L 11 x.2).bind (fun t1 => (sP L P.2.1 t1).bind (fun p => ((sW L 8 t1.tail).bind (sD L 0)).map (fun y => ((addS P.1 p y.1, P.2.1 ++ [(x.1, 12 + ts P.1)], P.2.2), y.2)))))
def rLine (L : Nat) (P : Pst) (tl : List TK) : Except Nat (Pst × List TK) := if isW 0 tl then rLeap L P tl else if isW 1 tl then rPerson L P tl else if isW 5 tl then rCalls L P tl else if isW 7 tl then rAway L P tl else if isW 10 tl then rSecret L P tl else if isW 12 tl then rLaw L P tl else .error (flt 1 L tl)
def sS (L : Nat) (tl : List TK) : Except Nat (List TK) := if isS tl then .ok tl.tail else .error (flt 1 L tl)
def rAll (L : Nat) : Nat → Pst → List TK → Except Nat Pst
  | 0, P, _ => .ok P
  | n + 1, P, tl => match tl with
    | [] => .ok P
    | t :: r => (rLine L P (t :: r)).bind (fun x => (sS L x.2).bind (fun y => rAll L n x.1 y))
/-! what is kept -/
theorem PW_setL {P : Pst} (h : PW P) {n : Nat} (hn : n ≤ 3) {b : Bool} : PW (setL P.1 n, P.2.1, b) := by
  obtain ⟨⟨h1, h2, h3, h4, h5, h6, h7, h8⟩, f, g, k⟩ := h
  exact ⟨⟨h1, h2, h3, h4, h5, h6, hn, h8⟩, f, g, k⟩
theorem PW_setZ {P : Pst} (h : PW P) : PW (setZ P.1 1, P.2.1, P.2.2) := by
  obtain ⟨⟨h1, h2, h3, h4, h5, h6, h7, h8⟩, f, g, k⟩ := h
  exact ⟨⟨h1, h2, h3, h4, h5, h6, h7, Nat.le_refl 1⟩, f, g, k⟩
theorem PW_setM {P : Pst} (h : PW P) {p m : Nat} (hm : m ≤ 366) : PW (setM P.1 p m, P.2.1, P.2.2) := by
  obtain ⟨⟨h1, h2, h3⟩, f, g, k⟩ := h
  refine ⟨⟨h1, fun q hq => ?_, h3⟩, f, g, k⟩
  obtain ⟨a1, a2, a3⟩ := h2 q hq
  refine ⟨a1, ?_, a3⟩
  show (if 2 = 2 ∧ q = p then m else P.1 2 q) ≤ 366
  by_cases c : q = p
  · rw [if_pos ⟨rfl, c⟩]; exact hm
  · rw [if_neg (fun z => c z.2)]; exact a2
theorem PW_setI {P : Pst} (h : PW P) {p m : Nat} (hm : m ≤ 99) : PW (setI P.1 p m, P.2.1, P.2.2) := by
  obtain ⟨⟨h1, h2, h3⟩, f, g, k⟩ := h
  refine ⟨⟨h1, fun q hq => ?_, h3⟩, f, g, k⟩
  obtain ⟨a1, a2, a3, a4⟩ := h2 q hq
  refine ⟨a1, a2, ?_, a4⟩
  show (if 3 = 3 ∧ q = p then m else P.1 3 q) ≤ 99
  by_cases c : q = p
  · rw [if_pos ⟨rfl, c⟩]; exact hm
  · rw [if_neg (fun z => c z.2)]; exact a3
theorem addP_n (T : TW) (d : Nat) : tn (addP T d) = tn T + 1 := by
  show addP T d 0 0 = _
  unfold addP
  rw [if_pos ⟨rfl, rfl⟩]
theorem addP_hi {T : TW} {d i : Nat} (h : 5 ≤ i) : addP T d i = T i := by
  funext j
  unfold addP
  rw [if_neg (by omega), if_neg (by omega), if_neg (by omega)]
theorem addP_old {T : TW} {d i q : Nat} (hi : 1 ≤ i) (hq : q ≠ tn T) : addP T d i q = T i q := by
  unfold addP
  rw [if_neg (by omega), if_neg (fun z => hq z.2), if_neg (fun z => hq z.2)]
theorem addP_b (T : TW) (d : Nat) : tb (addP T d) (tn T) = d + 1 := by
  show addP T d 1 (tn T) = _
  unfold addP
  rw [if_neg (by omega), if_pos ⟨rfl, rfl⟩]
theorem addP_0 {T : TW} {d i : Nat} (hi : i = 2 ∨ i = 3 ∨ i = 4) : addP T d i (tn T) = 0 := by
  unfold addP
  rw [if_neg (by omega), if_neg (by omega), if_pos ⟨hi, rfl⟩]
theorem pcB_0 : pcB 0 = 0 := by decide
theorem PW_addP {P : Pst} (h : PW P) (hn : tn P.1 < 12) {d : Nat} (hd : d ≤ 365) {w : List Nat} (hw : okW w) (hl : lk P.2.1 w = none) : PW (addP P.1 d, P.2.1 ++ [(w, tn P.1)], P.2.2) := by
  obtain ⟨⟨h1, h2, h3, h4, h5, h6, h7, h8⟩, f, g, k⟩ := h
  have r5 : addP P.1 d 5 = P.1 5 := addP_hi (by omega)
  have r6 : addP P.1 d 6 = P.1 6 := addP_hi (by omega)
  have r7 : addP P.1 d 7 = P.1 7 := addP_hi (by omega)
  have r8 : addP P.1 d 8 = P.1 8 := addP_hi (by omega)
  have r9 : addP P.1 d 9 = P.1 9 := addP_hi (by omega)
  have r10 : addP P.1 d 10 = P.1 10 := addP_hi (by omega)
  have r11 : addP P.1 d 11 = P.1 11 := addP_hi (by omega)
  have r12 : addP P.1 d 12 = P.1 12 := addP_hi (by omega)
  have r13 : addP P.1 d 13 = P.1 13 := addP_hi (by omega)
  have ets : ts (addP P.1 d) = ts P.1 := by show addP P.1 d 9 0 = _; rw [r9]
  have hpw : 2 ^ tn P.1 < 2 ^ (tn P.1 + 1) := Nat.pow_lt_pow_right (by decide) (by omega)
  refine ⟨⟨by rw [addP_n]; omega, fun p hp => ?_, by show addP P.1 d 5 0 ≤ 12; rw [r5]; exact h3, fun i hi => ?_, by rw [ets]; exact h5, fun s hs => ?_, by show addP P.1 d 12 0 ≤ 3; rw [r12]; exact h7, by show addP P.1 d 13 0 ≤ 1; rw [r13]; exact h8⟩, fun p hp => ?_, ?_, fun q hq => ?_⟩
  · rw [addP_n] at hp ⊢
    by_cases c : p = tn P.1
    · subst c
      have e2 : tm (addP P.1 d) (tn P.1) = 0 := addP_0 (Or.inl rfl)
      have e3 : ti (addP P.1 d) (tn P.1) = 0 := addP_0 (Or.inr (Or.inl rfl))
      have e4 : tc (addP P.1 d) (tn P.1) = 0 := addP_0 (Or.inr (Or.inr rfl))
      rw [addP_b, e2, e3, e4]
      exact ⟨by omega, by omega, by omega, Nat.two_pow_pos _, Nat.zero_testBit _⟩
    · have e1 : tb (addP P.1 d) p = tb P.1 p := addP_old (by omega) c
      have e2 : tm (addP P.1 d) p = tm P.1 p := addP_old (by omega) c
      have e3 : ti (addP P.1 d) p = ti P.1 p := addP_old (by omega) c
      have e4 : tc (addP P.1 d) p = tc P.1 p := addP_old (by omega) c
      obtain ⟨a1, a2, a3, a4, a5⟩ := h2 p (by omega)
      rw [e1, e2, e3, e4]
      exact ⟨a1, a2, a3, by omega, a5⟩
  · have hi : i < addP P.1 d 5 0 := hi
    rw [r5] at hi
    obtain ⟨a1, a2, a3⟩ := h4 i hi
    show addP P.1 d 6 i < tn (addP P.1 d) ∧ addP P.1 d 7 i ≤ addP P.1 d 8 i ∧ addP P.1 d 8 i < 4392
    rw [r6, r7, r8, addP_n]
    exact ⟨Nat.lt_succ_of_lt a1, a2, a3⟩
  · rw [ets] at hs
    obtain ⟨a1, a2⟩ := h6 s hs
    show addP P.1 d 10 s < tn (addP P.1 d) ∧ addP P.1 d 11 s < 4392
    rw [r10, r11, addP_n]
    exact ⟨Nat.lt_succ_of_lt a1, a2⟩
  · rw [addP_n] at hp
    by_cases c : p = tn P.1
    · rw [c, addP_b]; omega
    · have e1 : tb (addP P.1 d) p = tb P.1 p := addP_old (by omega) c
      rw [e1]; exact f p (by omega)
  · obtain ⟨g1, g2, g3, g4, g5, g6⟩ := g
    refine ⟨fun u v hm => ?_, ?_, fun p hp => ?_, fun s hs => ?_, ?_, ?_⟩
    · rw [addP_n, ets]
      rcases List.mem_append.mp hm with q | q
      · obtain ⟨q1, q2⟩ := g1 u v q
        exact ⟨q1, by omega⟩
      · have q := List.mem_singleton.mp q
        cases q
        exact ⟨hw, Or.inl (by omega)⟩
    · refine List.pairwise_append.mpr ⟨g2, List.pairwise_singleton _ _, fun a ha b hb => ?_⟩
      rw [List.mem_singleton.mp hb]
      intro z
      obtain ⟨u, v⟩ := a
      have z : u = w := z
      rw [z] at ha
      exact lk_none hl v ha
    · rw [addP_n] at hp
      by_cases c : p = tn P.1
      · exact ⟨w, List.mem_append_right _ (by rw [c]; exact List.mem_singleton_self _)⟩
      · obtain ⟨u, hu⟩ := g3 p (by omega)
        exact ⟨u, List.mem_append_left _ hu⟩
    · rw [ets] at hs
      obtain ⟨u, hu⟩ := g4 s hs
      exact ⟨u, List.mem_append_left _ hu⟩
    · rw [List.length_append, addP_n, ets, g5]
      simp
      omega
    · refine List.pairwise_append.mpr ⟨g6, List.pairwise_singleton _ _, fun a ha b hb => ?_⟩
      rw [List.mem_singleton.mp hb]
      intro z
      obtain ⟨u, v⟩ := a
      have z : v = tn P.1 := z
      have := (g1 u v ha).2
      omega
  · rw [addP_n] at hq
    by_cases c : q = tn P.1
    · have e4 : tc (addP P.1 d) q = 0 := by rw [c]; exact addP_0 (Or.inr (Or.inr rfl))
      show pcB (tc (addP P.1 d) q) ≤ 6
      rw [e4, pcB_0]; omega
    · have e4 : tc (addP P.1 d) q = tc P.1 q := addP_old (by omega) c
      show pcB (tc (addP P.1 d) q) ≤ 6
      rw [e4]; exact k q (by omega)
theorem cnB_or {b p : Nat} (hb : b.testBit p = false) : ∀ N, ((List.range N).filter (fun q => (b ||| 2 ^ p).testBit q)).length = ((List.range N).filter (fun q => b.testBit q)).length + (if p < N then 1 else 0) := by
  intro N
  induction N with
  | zero => simp
  | succ N ih =>
    rw [List.range_succ, List.filter_append, List.filter_append, List.length_append, List.length_append, ih, List.filter_cons, List.filter_cons, List.filter_nil, List.filter_nil, Nat.testBit_or, Nat.testBit_two_pow]
    by_cases c : p = N
    · subst c
      simp [hb]
    · have e : (p < N + 1) = (p < N) := by simp; omega
      simp [c, e]
      by_cases c2 : b.testBit N = true
      · simp [c2]; omega
      · simp [c2]
theorem pcB_or {b p : Nat} (hp : p < 12) (hb : b.testBit p = false) : pcB (b ||| 2 ^ p) = pcB b + 1 := by
  unfold pcB
  rw [cnB_or hb, if_pos hp]
theorem addC_c (T : TW) (p h : Nat) (q : Nat) : tc (addC T p h) q = if q = h then tc T h ||| 2 ^ p else tc T q := by
  show (if 4 = 4 ∧ q = h then T 4 h ||| 2 ^ p else T 4 q) = _
  by_cases c : q = h
  · rw [if_pos ⟨rfl, c⟩, if_pos c]
  · rw [if_neg (fun z => c z.2), if_neg c]
theorem PW_addC {P : Pst} (hW : PW P) {p h : Nat} (hp : p < tn P.1) (hh : h < tn P.1) (hne : h ≠ p) (hb : (tc P.1 h).testBit p = false) (h6 : pcB (tc P.1 h) < 6) : PW (addC P.1 p h, P.2.1, P.2.2) := by
  obtain ⟨⟨h1, h2, h3⟩, f, g, k⟩ := hW
  refine ⟨⟨h1, fun q hq => ?_, h3⟩, f, g, fun q hq => ?_⟩
  · have hq : q < tn P.1 := hq
    obtain ⟨a1, a2, a3, a4, a5⟩ := h2 q hq
    refine ⟨a1, a2, a3, ?_⟩
    rw [addC_c]
    by_cases c : q = h
    · subst c
      rw [if_pos rfl]
      refine ⟨Nat.or_lt_two_pow a4 (Nat.pow_lt_pow_right (by decide) hp), ?_⟩
      rw [Nat.testBit_or, a5, Nat.testBit_two_pow]
      simp
      omega
    · rw [if_neg c]; exact ⟨a4, a5⟩
  · have hq : q < tn P.1 := hq
    show pcB (tc (addC P.1 p h) q) ≤ 6
    rw [addC_c]
    by_cases c : q = h
    · rw [if_pos c, pcB_or (by have : tn P.1 ≤ 12 := h1; omega) hb]; omega
    · rw [if_neg c]; exact k q hq
theorem sum_at {f g : Nat → Nat} {h : Nat} (hh : g h = f h + 1) (ho : ∀ q, q ≠ h → g q = f q) : ∀ n, ((List.range n).map g).sum = ((List.range n).map f).sum + (if h < n then 1 else 0) := by
  intro n
  induction n with
  | zero => simp
  | succ n ih =>
    rw [List.range_succ, List.map_append, List.map_append, List.sum_append, List.sum_append, ih]
    simp only [List.map_cons, List.map_nil, List.sum_cons, List.sum_nil, Nat.add_zero]
    by_cases c : h = n
    · subst c
      rw [hh, if_neg (by omega), if_pos (by omega)]
      omega
    · rw [ho n (fun z => c z.symm)]
      have e : (h < n + 1) = (h < n) := by simp; omega
      simp only [e]
      omega
theorem pcs_addC {T : TW} (hw : wfT T) {p h : Nat} (hp : p < tn T) (hh : h < tn T) (hb : (tc T h).testBit p = false) : pcs (addC T p h) = pcs T + 1 := by
  have h12 := hw.1
  unfold pcs
  rw [show tn (addC T p h) = tn T from rfl]
  rw [sum_at (f := fun q => ((List.range 12).filter (fun p => (tc T q).testBit p)).length) (g := fun q => ((List.range 12).filter (fun r => (tc (addC T p h) q).testBit r)).length) (h := h) (by
    show pcB (tc (addC T p h) h) = pcB (tc T h) + 1
    rw [addC_c, if_pos rfl, pcB_or (by omega) hb]) (fun q hq => by
    show pcB (tc (addC T p h) q) = pcB (tc T q)
    rw [addC_c, if_neg hq]) (tn T), if_pos hh]
theorem pcs_addP {T : TW} {d : Nat} : pcs (addP T d) = pcs T := by
  unfold pcs
  rw [addP_n, List.range_succ (n := tn T), List.map_append, List.sum_append]
  have e4 : tc (addP T d) (tn T) = 0 := addP_0 (Or.inr (Or.inr rfl))
  have h0 : ((List.range 12).filter (fun p => (tc (addP T d) (tn T)).testBit p)).length = 0 := by rw [e4]; exact pcB_0
  simp only [List.map_cons, List.map_nil, List.sum_cons, List.sum_nil, Nat.add_zero]
  rw [h0, Nat.add_zero]
  congr 1
  apply List.map_congr_left
  intro q hq
  have hq := List.mem_range.mp hq
  have : tc (addP T d) q = tc T q := addP_old (by omega) (by omega)
  rw [this]
theorem addA_o {T : TW} {w f t i : Nat} (hi : i < 5 ∨ 8 < i) : addA T w f t i = T i := by
  funext j
  unfold addA
  rw [if_neg (by omega), if_neg (by omega), if_neg (by omega), if_neg (by omega)]
theorem addA_n (T : TW) (w f t : Nat) : ta (addA T w f t) = ta T + 1 := by
  show addA T w f t 5 0 = _
  unfold addA
  rw [if_pos ⟨rfl, rfl⟩]
theorem addA_r (T : TW) (w f t j : Nat) : tw (addA T w f t) j = (if j = ta T then w else tw T j) ∧ tf (addA T w f t) j = (if j = ta T then f else tf T j) ∧ tt (addA T w f t) j = (if j = ta T then t else tt T j) := by
  show addA T w f t 6 j = _ ∧ addA T w f t 7 j = _ ∧ addA T w f t 8 j = _
  unfold addA
  by_cases c : j = ta T
  · have c' : j = T 5 0 := c
    rw [if_neg (by omega), if_pos ⟨rfl, c'⟩, if_pos c, if_neg (by omega), if_neg (by omega), if_pos ⟨rfl, c'⟩, if_pos c, if_neg (by omega), if_neg (by omega), if_neg (by omega), if_pos ⟨rfl, c'⟩, if_pos c]
    exact ⟨rfl, rfl, rfl⟩
  · have c' : ¬ j = T 5 0 := c
    rw [if_neg (by omega), if_neg (fun z => c' z.2), if_neg (by omega), if_neg (by omega), if_neg c, if_neg (by omega), if_neg (by omega), if_neg (fun z => c' z.2), if_neg (by omega), if_neg c, if_neg (by omega), if_neg (by omega), if_neg (by omega), if_neg (fun z => c' z.2), if_neg c]
    exact ⟨rfl, rfl, rfl⟩
theorem PW_addA {P : Pst} (hW : PW P) (hn : ta P.1 < 12) {w f t : Nat} (hw : w < tn P.1) (hft : f ≤ t) (ht : t < 4392) : PW (addA P.1 w f t, P.2.1, P.2.2) := by
  obtain ⟨⟨h1, h2, h3, h4, h5, h6, h7, h8⟩, fu, g, k⟩ := hW
  have e0 : addA P.1 w f t 0 = P.1 0 := addA_o (by omega)
  have e1 : addA P.1 w f t 1 = P.1 1 := addA_o (by omega)
  have e2 : addA P.1 w f t 2 = P.1 2 := addA_o (by omega)
  have e3 : addA P.1 w f t 3 = P.1 3 := addA_o (by omega)
  have e4 : addA P.1 w f t 4 = P.1 4 := addA_o (by omega)
  have e9 : addA P.1 w f t 9 = P.1 9 := addA_o (by omega)
  have e10 : addA P.1 w f t 10 = P.1 10 := addA_o (by omega)
  have e11 : addA P.1 w f t 11 = P.1 11 := addA_o (by omega)
  have e12 : addA P.1 w f t 12 = P.1 12 := addA_o (by omega)
  have e13 : addA P.1 w f t 13 = P.1 13 := addA_o (by omega)
  refine ⟨⟨by show addA P.1 w f t 0 0 ≤ 12; rw [e0]; exact h1, fun p hp => ?_, by rw [addA_n]; omega, fun i hi => ?_, by show addA P.1 w f t 9 0 ≤ 4; rw [e9]; exact h5, fun s hs => ?_, by show addA P.1 w f t 12 0 ≤ 3; rw [e12]; exact h7, by show addA P.1 w f t 13 0 ≤ 1; rw [e13]; exact h8⟩, fun p hp => ?_, ?_, fun q hq => ?_⟩
  · have hp : p < addA P.1 w f t 0 0 := hp
    rw [e0] at hp
    show addA P.1 w f t 1 p ≤ 366 ∧ addA P.1 w f t 2 p ≤ 366 ∧ addA P.1 w f t 3 p ≤ 99 ∧ addA P.1 w f t 4 p < 2 ^ addA P.1 w f t 0 0 ∧ (addA P.1 w f t 4 p).testBit p = false
    rw [e0, e1, e2, e3, e4]
    exact h2 p hp
  · rw [addA_n] at hi
    obtain ⟨q1, q2, q3⟩ := addA_r P.1 w f t i
    rw [q1, q2, q3]
    show _ < addA P.1 w f t 0 0 ∧ _
    rw [e0]
    by_cases c : i = ta P.1
    · rw [if_pos c, if_pos c, if_pos c]; exact ⟨hw, hft, ht⟩
    · rw [if_neg c, if_neg c, if_neg c]; exact h4 i (by omega)
  · have hs : s < addA P.1 w f t 9 0 := hs
    rw [e9] at hs
    show addA P.1 w f t 10 s < addA P.1 w f t 0 0 ∧ addA P.1 w f t 11 s < 4392
    rw [e0, e10, e11]
    exact h6 s hs
  · have hp : p < addA P.1 w f t 0 0 := hp
    rw [e0] at hp
    show 0 < addA P.1 w f t 1 p
    rw [e1]
    exact fu p hp
  · obtain ⟨g1, g2, g3, g4, g5, g6⟩ := g
    have q0 : tn (addA P.1 w f t) = tn P.1 := by show addA P.1 w f t 0 0 = _; rw [e0]
    have q9 : ts (addA P.1 w f t) = ts P.1 := by show addA P.1 w f t 9 0 = _; rw [e9]
    unfold NW
    rw [q0, q9]
    exact ⟨g1, g2, g3, g4, g5, g6⟩
  · have hq : q < addA P.1 w f t 0 0 := hq
    rw [e0] at hq
    show pcB (addA P.1 w f t 4 q) ≤ 6
    rw [e4]
    exact k q hq
theorem addS_o {T : TW} {b x i : Nat} (hi : i < 9 ∨ 11 < i) : addS T b x i = T i := by
  funext j
  unfold addS
  rw [if_neg (by omega), if_neg (by omega), if_neg (by omega)]
theorem addS_n (T : TW) (b x : Nat) : ts (addS T b x) = ts T + 1 := by
  show addS T b x 9 0 = _
  unfold addS
  rw [if_pos ⟨rfl, rfl⟩]
theorem addS_r (T : TW) (b x j : Nat) : tg (addS T b x) j = (if j = ts T then b else tg T j) ∧ tx (addS T b x) j = (if j = ts T then x else tx T j) := by
  show addS T b x 10 j = _ ∧ addS T b x 11 j = _
  unfold addS
  by_cases c : j = ts T
  · have c' : j = T 9 0 := c
    rw [if_neg (by omega), if_pos ⟨rfl, c'⟩, if_pos c, if_neg (by omega), if_neg (by omega), if_pos ⟨rfl, c'⟩, if_pos c]
    exact ⟨rfl, rfl⟩
  · have c' : ¬ j = T 9 0 := c
    rw [if_neg (by omega), if_neg (fun z => c' z.2), if_neg (by omega), if_neg c, if_neg (by omega), if_neg (by omega), if_neg (fun z => c' z.2), if_neg c]
    exact ⟨rfl, rfl⟩
theorem PW_addS {P : Pst} (hW : PW P) (hn : ts P.1 < 4) {b x : Nat} (hb : b < tn P.1) (hx : x < 4392) {w : List Nat} (hw : okW w) (hl : lk P.2.1 w = none) : PW (addS P.1 b x, P.2.1 ++ [(w, 12 + ts P.1)], P.2.2) := by
  obtain ⟨⟨h1, h2, h3, h4, h5, h6, h7, h8⟩, fu, g, k⟩ := hW
  have e0 : addS P.1 b x 0 = P.1 0 := addS_o (by omega)
  have e1 : addS P.1 b x 1 = P.1 1 := addS_o (by omega)
  have e2 : addS P.1 b x 2 = P.1 2 := addS_o (by omega)
  have e3 : addS P.1 b x 3 = P.1 3 := addS_o (by omega)
  have e4 : addS P.1 b x 4 = P.1 4 := addS_o (by omega)
  have e5 : addS P.1 b x 5 = P.1 5 := addS_o (by omega)
  have e6 : addS P.1 b x 6 = P.1 6 := addS_o (by omega)
  have e7 : addS P.1 b x 7 = P.1 7 := addS_o (by omega)
  have e8 : addS P.1 b x 8 = P.1 8 := addS_o (by omega)
  have e12 : addS P.1 b x 12 = P.1 12 := addS_o (by omega)
  have e13 : addS P.1 b x 13 = P.1 13 := addS_o (by omega)
  have q0 : tn (addS P.1 b x) = tn P.1 := by show addS P.1 b x 0 0 = _; rw [e0]
  refine ⟨⟨by rw [q0]; exact h1, fun p hp => ?_, by show addS P.1 b x 5 0 ≤ 12; rw [e5]; exact h3, fun i hi => ?_, by rw [addS_n]; omega, fun s hs => ?_, by show addS P.1 b x 12 0 ≤ 3; rw [e12]; exact h7, by show addS P.1 b x 13 0 ≤ 1; rw [e13]; exact h8⟩, fun p hp => ?_, ?_, fun q hq => ?_⟩
  · rw [q0] at hp ⊢
    show addS P.1 b x 1 p ≤ 366 ∧ addS P.1 b x 2 p ≤ 366 ∧ addS P.1 b x 3 p ≤ 99 ∧ addS P.1 b x 4 p < 2 ^ tn P.1 ∧ (addS P.1 b x 4 p).testBit p = false
    rw [e1, e2, e3, e4]
    exact h2 p hp
  · have hi : i < addS P.1 b x 5 0 := hi
    rw [e5] at hi
    rw [q0]
    show addS P.1 b x 6 i < tn P.1 ∧ addS P.1 b x 7 i ≤ addS P.1 b x 8 i ∧ addS P.1 b x 8 i < 4392
    rw [e6, e7, e8]
    exact h4 i hi
  · rw [addS_n] at hs
    obtain ⟨z1, z2⟩ := addS_r P.1 b x s
    rw [z1, z2, q0]
    by_cases c : s = ts P.1
    · rw [if_pos c, if_pos c]; exact ⟨hb, hx⟩
    · rw [if_neg c, if_neg c]; exact h6 s (by omega)
  · rw [q0] at hp
    show 0 < addS P.1 b x 1 p
    rw [e1]
    exact fu p hp
  · obtain ⟨g1, g2, g3, g4, g5, g6⟩ := g
    refine ⟨fun u v hm => ?_, ?_, fun p hp => ?_, fun s hs => ?_, ?_, ?_⟩
    · rw [q0, addS_n]
      rcases List.mem_append.mp hm with q | q
      · obtain ⟨z1, z2⟩ := g1 u v q
        exact ⟨z1, by omega⟩
      · have q := List.mem_singleton.mp q
        cases q
        exact ⟨hw, Or.inr (by omega)⟩
    · refine List.pairwise_append.mpr ⟨g2, List.pairwise_singleton _ _, fun a ha b hb => ?_⟩
      rw [List.mem_singleton.mp hb]
      intro z
      obtain ⟨u, v⟩ := a
      have z : u = w := z
      rw [z] at ha
      exact lk_none hl v ha
    · rw [q0] at hp
      obtain ⟨u, hu⟩ := g3 p hp
      exact ⟨u, List.mem_append_left _ hu⟩
    · rw [addS_n] at hs
      by_cases c : s = ts P.1
      · exact ⟨w, List.mem_append_right _ (by rw [c]; exact List.mem_singleton_self _)⟩
      · obtain ⟨u, hu⟩ := g4 s (by omega)
        exact ⟨u, List.mem_append_left _ hu⟩
    · rw [List.length_append, addS_n, q0, g5]
      simp
      omega
    · refine List.pairwise_append.mpr ⟨g6, List.pairwise_singleton _ _, fun a ha b hb => ?_⟩
      rw [List.mem_singleton.mp hb]
      intro z
      obtain ⟨u, v⟩ := a
      have z : v = 12 + ts P.1 := z
      have := (g1 u v ha).2
      omega
  · rw [q0] at hq
    show pcB (addS P.1 b x 4 q) ≤ 6
    rw [e4]
    exact k q hq
theorem pcs_rows {T T2 : TW} (h0 : T2 0 = T 0) (h4 : T2 4 = T 4) : pcs T2 = pcs T := by
  unfold pcs
  have e0 : tn T2 = tn T := by show T2 0 0 = T 0 0; rw [h0]
  rw [e0]
  congr 1
  apply List.map_congr_left
  intro q _
  have : tc T2 q = tc T q := by show T2 4 q = T 4 q; rw [h4]
  rw [this]
