/-! CONSTRUCTORS: a world that grows: 'pre' is what stood, behind it the cells that the constructor has, in the order in which they are made -/
def cn_G (D : va_G) (cy : Nat → ClassId) (A : Nat → Prop) (U : State) : Prop :=
  va_K D vwCl (sd_tY cy) U ∧ (∀ w ∈ sd_nest, va_Nw w U) ∧ (va_AO RX5 U ∧ va_AO RX4 U) ∧ ∀ q, U.heap.size ≤ q → A q
def cn_P (D : va_G) (cy : Nat → ClassId) (A : Nat → Prop) (av : List Value) (ws : va_W) : Array Value → State → Prop :=
  va_Pc av (fun U => cn_G D cy A U ∧ va_P D vwCl ws U.heap ∧ va_D A ws)
def cn_Q (D : va_G) (A : Nat → Prop) (ws : (Nat → Nat) → va_W) : Array Value → State → Outcome → State → Prop :=
  va_Qv (fun (_ : Nat → Nat) => True) (fun u t => va_P D vwCl (ws u) t.heap ∧ va_D A (ws u)) A
abbrev cn_rm (n mc ms : Nat) : Room := { frames := n, cells := mc, slots := ms, locals := 40 * n }
def cn_C (own : String) (cc : ByteArray) (nL : Nat) (D : va_G) (cy : Nat → ClassId) (A : Nat → Prop) (p : Program) (s : State) (m : MethodId) (args : Array Value) (meth : Method) (c : Code) : Prop :=
  p.tables.exec = Jvm.exec ∧ c.code = cc ∧ c.maxLocals = nL ∧ s.vm.findClass own = some m.cls ∧ (∀ w ∈ sd_wl, w.before args s = true) ∧ cn_G D cy A s
def cn_H (D : va_G) (A : Nat → Prop) (s : State) (ws : va_W) (H : Heap) (locs : List Loc) : Prop := va_P D vwCl ws H ∧ va_D A ws ∧ va_S A s.heap H locs
theorem cn_Gwarm {D : va_G} {cy : Nat → ClassId} {A : Nat → Prop} {s U : State} {H : Heap} {locs : List Loc} (hG : cn_G D cy A s) (hS : va_S A s.heap H locs) (hU : U.heap = H) (hW : s.WarmedH U.vm) : cn_G D cy A U := by
  obtain ⟨h1, h2, ⟨h3, h4⟩, h5⟩ := hG
  exact ⟨va_K.moved hW.alike h1, fun w hw => sd_nestW w hw hW (h2 w hw), ⟨va_AO.moved hW.alike h3, va_AO.moved hW.alike h4⟩, fun q hq => h5 q (Nat.le_trans hS.1 (by rw [hU] at hq; exact hq))⟩
theorem cn_blind {D : va_G} {cy : Nat → ClassId} {A : Nat → Prop} {av : List Value} {ws : va_W} : FrameBlind (cn_P D cy A av ws) := fun a U g mk q => by
  obtain ⟨q0, ⟨h1, h2, ⟨h3, h4⟩, h5⟩, q2, q3⟩ := q
  exact ⟨q0, ⟨va_K.moved (u := U) (U := U.calling g mk a) (Vm.Alike.refl U.vm) h1, fun w hw => sd_nestC w hw (U := U) (U2 := U.calling g mk a) rfl (h2 w hw), ⟨va_AO.moved (u := U) (U := U.calling g mk a) (Vm.Alike.refl U.vm) h3, va_AO.moved (u := U) (U := U.calling g mk a) (Vm.Alike.refl U.vm) h4⟩, h5⟩, q2, q3⟩
theorem cn_at {pre X : va_W} {i : Nat} {x : Nat × va_E} (h : X[i]? = some x) : (pre ++ X)[pre.length + i]? = some x := by
  rw [List.getElem?_append_right (Nat.le_add_right _ _), Nat.add_sub_cancel_left]
  exact h
theorem cn_set (pre X : va_W) (i : Nat) (y : Nat × va_E) : (pre ++ X).set (pre.length + i) y = pre ++ X.set i y := by
  rw [List.set_append_right _ _ (Nat.le_add_right _ _), Nat.add_sub_cancel_left]
theorem cn_met {l : Launch} {y : MethodName} {cc : ByteArray} {nL : Nat} {n mc ms : Nat} {D : va_G} {cy : Nat → ClassId} {A : Nat → Prop} {av : List Value} {ws0 : va_W} {wsf : (Nat → Nat) → va_W} (hy : plainName y.cls = true) (hn : (lg_sl av).length ≤ nL)
    (body : ∀ (p : Program) (e : Env) (s : State) (m : MethodId) (args : Array Value) (below : List Frame) (meth : Method) (c : Code) (ls : Array Slot), cn_C y.cls cc nL D cy A p s m args meth c → meth.sig.returnType = none → meth.locks = false → meth.name = y.name → cn_H D A s ws0 s.heap [] → lv_has ls nL (lv_args 0 av) → W p l e (cn_rm n mc ms) s m args below meth c s.heap [] 0 0 (MQ below (cn_Q D A wsf) args s mc ms A) (F0 m 0 ls [])) :
    Met l y (Cond.code y cc nL none :: sd_wl) (cn_rm n mc ms) (cn_P D cy A av ws0) (cn_Q D A wsf) mc ms A := by
  refine Met.ofW (cc := cc) (maxL := nL) (ret := none) hy rfl ?_
  intro p e s m args below meth c s₁ B hml hv
  obtain ⟨rfl, hG, hP, hD⟩ := hv
  have hts := atoms_spec (ws := Cond.code y cc nL none :: sd_wl) B.pre
  have hl := lv_entry av (n := nL) hn
  rw [lg_entry_eq]
  exact body p e s m _ below meth c _ ⟨B.exec, B.bytes, hml, findClass_of_methodNamed B.named, fun w h => hts w (List.mem_cons_of_mem _ h), hG⟩ B.returns B.notSynchronized (name_of_methodNamed B.named B.method).1 ⟨hP, hD, va_S.rf⟩ hl
section CNR
variable {p : Program} {l : Launch} {e : Env} {R : Room} {s : State} {m : MethodId} {args : Array Value} {below : List Frame} {meth : Method} {c : Code} {H : Heap} {locs : List Loc} {Q : State → Prop}
variable {cc : ByteArray} {pc nL cells slots : Nat} {ls : Array Slot} {rest : List Value} {D : va_G} {cy : Nat → ClassId} {A : Nat → Prop} {own : String} {pre X : va_W} {index : Nat}
theorem cn_objInit (C : cn_C own cc nL D cy A p s m args meth c) (hls : ls.size = nL) (hlink : Cond.methodLink own index objectInit ∈ sd_wl) {a : Nat} (hR : 1 ≤ R.frames ∧ 40 ≤ R.locals) (hst : (rest.map fun v => v.category).sum ≤ 8) (hdg : decode cc pc = .ok (.invokespecial index, 3))
    (kk : W p l e R s m args below meth c H locs cells slots Q (F0 m (pc + 3) ls rest)) : W p l e R s m args below meth c H locs cells slots Q (F0 m pc ls (.ref a :: rest)) := by
  obtain ⟨hx, hb, hml, hown, hts, -⟩ := C
  have hr := lv_room (m := m) (pc := pc) (ls := ls) (rest := .ref a :: rest) hst
  exact W.objInit hx hb hown (hts _ hlink) (hts _ cn_oi1) (hts _ cn_oi2) rfl (by rw [hml]; exact hls) rfl hdg hR.1 (by have := hR.2; omega) kk
theorem cn_ca {cA cB : ClassId} {ty : FieldType} {tys : List (ClassId × FieldType)} {i : Nat} (hK : va_K D vwCl (tys ++ [(cA, ty)]) s) (hi : tys[i]? = some (cB, ty)) : cA = cB := by
  have h1 := (hK.2 tys.length (cA, ty) (by simp)).2
  have h2 := (hK.2 i (cB, ty) (by rw [List.getElem?_append_left (List.getElem?_eq_some_iff.mp hi).1]; exact hi)).2
  cases ty with
  | object C =>
    obtain ⟨_, _, -, -, -, h1⟩ := h1
    obtain ⟨_, _, -, -, -, h2⟩ := h2
    exact Option.some.inj (h1.symm.trans h2)
  | _ => exact Option.some.inj ((show s.vm.findClass _ = some cA from h1).symm.trans (show s.vm.findClass _ = some cB from h2))
theorem cn_newa (C : cn_C own cc nL D cy A p s m args meth c) (X0 : cn_H D A s (pre ++ X) H locs) {atype : ArrayType} {ty : FieldType} (harr : Cond.arrayClass (newarray.typeOf atype) ∈ sd_wl) (hty : newarray.typeOf atype = ty) {t0 : Nat} {cB : ClassId} (ht : (sd_tY cy)[t0]? = some (cB, ty))
    {n : Int32} {N : Nat} {a0 : vp_A} (ha : ∀ cA : ClassId, vp_cell cA a0 = arrV cA N (fun _ => defaultValue ty)) (hn : ¬ n < 0) (hN : n.toNatClampNeg = N) (hbytes : N * componentBytes ty ≤ 536870912) (hcells : cells + 1 ≤ R.cells) (hslots : slots + N ≤ R.slots) (hdg : decode cc pc = .ok (.newarray atype, 2))
    (kk : ∀ (q : Nat) (H1 : Heap), cn_H D A s (pre ++ (X ++ [(q, .inl (cB, a0))])) H1 locs → W p l e R s m args below meth c H1 locs (cells + 1) (slots + N) Q (F0 m (pc + 2) ls (.ref q :: rest))) : W p l e R s m args below meth c H locs cells slots Q (F0 m pc ls (.int n :: rest)) := by
  obtain ⟨hx, hb, hml, hown, hts, hG⟩ := C
  refine va_newa hx hb (hts _ harr) hty hG.1 X0.1 X0.2.1 X0.2.2 hG.2.2.2 ha hn hN hbytes hcells hslots hdg (fun q cA H1 h1 h2 h3 h4 => ?_)
  have hc := cn_ca h1 ht
  subst hc
  exact kk q H1 ⟨by rw [← List.append_assoc]; exact h2, by rw [← List.append_assoc]; exact h3, h4⟩
theorem cn_newq (C : cn_C own cc nL D cy A p s m args meth c) (X0 : cn_H D A s (pre ++ X) H locs) {CN : String} (hlink : Cond.classLink own index CN ∈ sd_wl) (hover : va_AO CN s) {t0 : Nat} {cB : ClassId} (ht : (sd_tY cy)[t0]? = some (cB, .object CN))
    {n : Int32} {N : Nat} (hn : ¬ n < 0) (hN : n.toNatClampNeg = N) (hbytes : N * 4 ≤ 536870912) (hcells : cells + 1 ≤ R.cells) (hslots : slots + N ≤ R.slots) (hdg : decode cc pc = .ok (.anewarray index, 3))
    (kk : ∀ (q : Nat) (H1 : Heap), cn_H D A s (pre ++ (X ++ [(q, .inl (cB, N, .inr (.inr (.inr (.inr (fun _ => none))))))])) H1 locs → W p l e R s m args below meth c H1 locs (cells + 1) (slots + N) Q (F0 m (pc + 3) ls (.ref q :: rest))) : W p l e R s m args below meth c H locs cells slots Q (F0 m pc ls (.int n :: rest)) := by
  obtain ⟨hx, hb, hml, hown, hts, hG⟩ := C
  refine va_newq hx hb hown (hts _ hlink) hover hG.1 X0.1 X0.2.1 X0.2.2 hG.2.2.2 hn hN hbytes hcells hslots hdg (fun q cA H1 h1 h2 h3 h4 => ?_)
  have hc := cn_ca h1 ht
  subst hc
  exact kk q H1 ⟨by rw [← List.append_assoc]; exact h2, by rw [← List.append_assoc]; exact h3, h4⟩
theorem cn_new (C : cn_C own cc nL D cy A p s m args meth c) (X0 : cn_H D A s (pre ++ X) H locs) {CN : String} {T : u_T} {N ci : Nat} (hc : vwCl[ci]? = some (CN, T, N)) (hin : ∀ w ∈ u_ws CN T N, w ∈ sd_wl) (ty : Nat → FieldType) (hty : ∀ k, k < N → parseFieldDescriptor (T k).2.2.1 = some (ty k)) (hlink : Cond.classLink own index CN ∈ sd_wl) (hinst : Cond.instantiable CN N ∈ sd_wl) (hini : Cond.initialized CN ∈ sd_wl) {fs : List Value} (hfs : ∀ j, j < N → defaultValue (ty j) = vp_V fs j) (hcells : cells + 1 ≤ R.cells) (hslots : slots + N ≤ R.slots) (hdg : decode cc pc = .ok (.new index, 3))
    (kk : ∀ (q : Nat) (H1 : Heap), cn_H D A s (pre ++ (X ++ [(q, .inr (ci, fs))])) H1 locs → W p l e R s m args below meth c H1 locs (cells + 1) (slots + N) Q (F0 m (pc + 3) ls (.ref q :: rest))) : W p l e R s m args below meth c H locs cells slots Q (F0 m pc ls rest) := by
  obtain ⟨hx, hb, hml, hown, hts, hG⟩ := C
  exact va_new hx hb hts hin ty hty hown (hts _ hlink) (hts _ hinst) (hts _ hini) hG.1 X0.1 X0.2.1 X0.2.2 hG.2.2.2 hc hfs hcells hslots hdg (fun q H1 h2 h3 h4 => kk q H1 ⟨by rw [← List.append_assoc]; exact h2, by rw [← List.append_assoc]; exact h3, h4⟩)
theorem cn_putF (C : cn_C own cc nL D cy A p s m args meth c) (hnm : meth.name = "<init>") (X0 : cn_H D A s (pre ++ X) H locs) {CN : String} {T : u_T} {N ci a i : Nat} {fs : List Value} (hc : vwCl[ci]? = some (CN, T, N)) (hin : ∀ w ∈ u_ws CN T N, w ∈ sd_wl) (ty0 : Nat → FieldType) (hty : ∀ k, k < N → parseFieldDescriptor (T k).2.2.1 = some (ty0 k)) (hnn : ∀ a, a < N → ∀ b, b < N → a ≠ b → (T a).2.1 ≠ (T b).2.1) (hX : X[i]? = some (a, .inr (ci, fs))) (j : Nat) (hj : j < N) (hfin : (T j).2.2.2 = true) (hdecl : (T j).1 = own) {v : Value} (hn : narrow (ty0 j) v = v) (hfit : fits (ty0 j) v = true) (hl : j < fs.length) (hlink : Cond.fieldLink own index (T j).1 (T j).2.1 (T j).2.2.1 ∈ sd_wl) (hdg : decode cc pc = .ok (.putfield index, 3))
    (kk : ∀ (H1 : Heap) (locs1 : List Loc), cn_H D A s (pre ++ X.set i (a, .inr (ci, fs.set j v))) H1 locs1 → W p l e R s m args below meth c H1 locs1 cells slots Q (F0 m (pc + 3) ls rest)) : W p l e R s m args below meth c H locs cells slots Q (F0 m pc ls (v :: .ref a :: rest)) := by
  obtain ⟨hx, hb, hml, hown, hts, hG⟩ := C
  exact va_putF hx hb hts hin ty0 hty hnn hown hG.1 X0.1 X0.2.1 X0.2.2 (pre.length + i) (cn_at hX) hc j hj (hts _ hlink) (fun _ h => h) hfin hnm hdecl (hty j hj) hn hfit hl hdg (fun H1 locs1 h1 h2 h3 => kk H1 locs1 ⟨by rw [← cn_set]; exact h1, by rw [← cn_set]; exact h2, h3⟩)
theorem cn_put (C : cn_C own cc nL D cy A p s m args meth c) (X0 : cn_H D A s (pre ++ X) H locs) {CN : String} {T : u_T} {N ci a i : Nat} {fs : List Value} (hc : vwCl[ci]? = some (CN, T, N)) (hin : ∀ w ∈ u_ws CN T N, w ∈ sd_wl) (ty0 : Nat → FieldType) (hty : ∀ k, k < N → parseFieldDescriptor (T k).2.2.1 = some (ty0 k)) (hnn : ∀ a, a < N → ∀ b, b < N → a ≠ b → (T a).2.1 ≠ (T b).2.1) (hX : X[i]? = some (a, .inr (ci, fs))) (j : Nat) (hj : j < N) (hfin : (T j).2.2.2 = false) {v : Value} (hn : narrow (ty0 j) v = v) (hfit : fits (ty0 j) v = true) (hl : j < fs.length) (hlink : Cond.fieldLink own index (T j).1 (T j).2.1 (T j).2.2.1 ∈ sd_wl) (hdg : decode cc pc = .ok (.putfield index, 3))
    (kk : ∀ (H1 : Heap) (locs1 : List Loc), cn_H D A s (pre ++ X.set i (a, .inr (ci, fs.set j v))) H1 locs1 → W p l e R s m args below meth c H1 locs1 cells slots Q (F0 m (pc + 3) ls rest)) : W p l e R s m args below meth c H locs cells slots Q (F0 m pc ls (v :: .ref a :: rest)) := by
  obtain ⟨hx, hb, hml, hown, hts, hG⟩ := C
  exact va_put hx hb hts hin ty0 hty hnn hown hG.1 X0.1 X0.2.1 X0.2.2 (pre.length + i) (cn_at hX) hc j hj (hts _ hlink) (fun _ h => h) hfin (hty j hj) hn hfit hl hdg (fun H1 locs1 h1 h2 h3 => kk H1 locs1 ⟨by rw [← cn_set]; exact h1, by rw [← cn_set]; exact h2, h3⟩)
theorem cn_get (C : cn_C own cc nL D cy A p s m args meth c) (X0 : cn_H D A s (pre ++ X) H locs) {CN : String} {T : u_T} {N ci a i : Nat} {fs : List Value} (hc : vwCl[ci]? = some (CN, T, N)) (hin : ∀ w ∈ u_ws CN T N, w ∈ sd_wl) (hX : X[i]? = some (a, .inr (ci, fs))) (j : Nat) (hj : j < N) {v : Value} (hv : fs[j]? = some v) (hlink : Cond.fieldLink own index (T j).1 (T j).2.1 (T j).2.2.1 ∈ sd_wl) (hdg : decode cc pc = .ok (.getfield index, 3))
    (kk : W p l e R s m args below meth c H locs cells slots Q (F0 m (pc + 3) ls (v :: rest))) : W p l e R s m args below meth c H locs cells slots Q (F0 m pc ls (.ref a :: rest)) := by
  obtain ⟨hx, hb, hml, hown, hts, hG⟩ := C
  exact va_get hx hb hts hin hown hG.1 X0.1 (pre.length + i) (cn_at hX) hc j hj (hts _ hlink) (fun _ h => h) hv hdg kk
theorem cn_last (C : cn_C own cc nL D cy A p s m args meth c) (X0 : cn_H D A s (pre ++ X) H locs) {a i n : Nat} {f : Nat → Int64} {ix : Int32} {x : Int64} (hX : X[i]? = some (a, .inl (cy 1, n, .inr (.inl f)))) (hin : vp_in ix n) (hdg : decode cc pc = .ok (.lastore, 1))
    (kk : ∀ (H1 : Heap) (locs1 : List Loc), cn_H D A s (pre ++ X.set i (a, .inl (cy 1, n, .inr (.inl (vp_updL f ix.toNatClampNeg x))))) H1 locs1 → W p l e R s m args below meth c H1 locs1 cells slots Q (F0 m (pc + 1) ls rest)) : W p l e R s m args below meth c H locs cells slots Q (F0 m pc ls (.long x :: .int ix :: .ref a :: rest)) := by
  obtain ⟨hx, hb, hml, hown, hts, hG⟩ := C
  exact va_last hx hb hG.1 X0.1 X0.2.1 X0.2.2 (pre.length + i) 1 (cn_at hX) rfl hin hdg (fun H1 locs1 h1 h2 h3 => kk H1 locs1 ⟨by rw [← cn_set]; exact h1, by rw [← cn_set]; exact h2, h3⟩)
theorem cn_aast (C : cn_C own cc nL D cy A p s m args meth c) (X0 : cn_H D A s (pre ++ X) H locs) {a i iv n v t0 ci : Nat} {cB : ClassId} {r : vw_C} {vs : List Value} {f : Nat → Option Nat} {ix : Int32} (hX : X[i]? = some (a, .inl (cB, n, .inr (.inr (.inr (.inr f)))))) (ht : (sd_tY cy)[t0]? = some (cB, .object r.1)) (hv : X[iv]? = some (v, .inr (ci, vs))) (hc : vwCl[ci]? = some r) (hin : vp_in ix n) (hdg : decode cc pc = .ok (.aastore, 1))
    (kk : ∀ (H1 : Heap) (locs1 : List Loc), cn_H D A s (pre ++ X.set i (a, .inl (cB, n, .inr (.inr (.inr (.inr (va_up f ix.toNatClampNeg (some v)))))))) H1 locs1 → W p l e R s m args below meth c H1 locs1 cells slots Q (F0 m (pc + 1) ls rest)) : W p l e R s m args below meth c H locs cells slots Q (F0 m pc ls (.ref v :: .int ix :: .ref a :: rest)) := by
  obtain ⟨hx, hb, hml, hown, hts, hG⟩ := C
  exact va_astq hx hb hG.1 X0.1 X0.2.1 X0.2.2 (pre.length + i) t0 (pre.length + iv) ci (cn_at hX) ht (cn_at hv) hc hin hdg (fun H1 locs1 h1 h2 h3 => kk H1 locs1 ⟨by rw [← cn_set]; exact h1, by rw [← cn_set]; exact h2, h3⟩)
theorem cn_vret (C : cn_C own cc nL D cy A p s m args meth c) (hr : meth.sig.returnType = none) (hlk : meth.locks = false) {ws : va_W} (X0 : cn_H D A s ws H locs) {wsf : (Nat → Nat) → va_W} (u : Nat → Nat) (hu : ws = wsf u) (hdg : decode cc pc = .ok (.return_, 1)) : W p l e R s m args below meth c H locs cells slots (MQ below (cn_Q D A wsf) args s cells slots A) (F0 m pc ls []) :=
  W.vret C.1 C.2.1 hr (fun t ht _ => ⟨⟨u, rfl, trivial, by rw [ht, ← hu]; exact X0.1, by rw [← hu]; exact X0.2.1⟩, X0.2.2.F ht⟩) X0.2.2.2.2 hdg hlk
/-! calls of constructors -/
variable {y : MethodName} {bytes : ByteArray} {maxL lv2 h0 n mc ms : Nat} {As st0 : List Value} {ws0 : va_W} {wsf : (Nat → Nat) → va_W}
theorem cn_go {a : Array Value} (X0 : cn_H D A s ws0 H locs) (hr : va_Run p l e R s m args below meth c H locs cells slots mc ms (F0 m pc ls st0) rest (cn_Q D A wsf a) A)
    (kk : ∀ (u : Nat → Nat) (H1 : Heap) (locs1 : List Loc), cn_H D A s (wsf u) H1 locs1 → W p l e R s m args below meth c H1 locs1 (cells + mc) (slots + ms) Q (F0 m (pc + 3) ls rest)) : W p l e R s m args below meth c H locs cells slots Q (F0 m pc ls st0) := by
  refine va_callv hr X0.2.2 (fun _ _ h => h) (fun _ h => h) (fun u t H1 locs1 ht _ _ hB _ _ hS => ?_)
  rw [ht] at hB
  exact kk u H1 locs1 ⟨hB.1, hB.2, hS⟩
theorem cn_runN (C : cn_C own cc nL D cy A p s m args meth c) (X0 : cn_H D A s ws0 H locs) (hls : ls.size = nL) {host : String}
    (hM : Met l y (Cond.code y bytes maxL none :: sd_wl) (cn_rm lv2 mc ms) (cn_P D cy A (.ref h0 :: As) ws0) (cn_Q D A wsf) mc ms A)
    (h1 : Cond.methodLinkNest own index y host ∈ sd_nest) (h2 : Cond.instanceMethod y ∈ sd_wl) (h4 : Cond.initialized y.cls ∈ sd_wl) (h5 : Cond.code y bytes maxL none ∈ sd_wl) (hy1 : y.name = "<init>")
    (hd : y.cls ≠ "java/lang/invoke/MethodHandle" ∧ y.cls ≠ "java/lang/invoke/VarHandle" ∧ (parseMethodDescriptor y.desc).map (fun d => d.parameters.length) = some n) (hn : As.length = n) (hR : lv2 + 1 ≤ R.frames ∧ 19 + maxL + 40 * lv2 ≤ R.locals ∧ cells + mc ≤ R.cells ∧ slots + ms ≤ R.slots)
    (hs0 : st0 = As.reverse ++ .ref h0 :: rest) (hst : (rest.map fun v => v.category).sum ≤ 8) (hdg : decode cc pc = .ok (.invokespecial index, 3)) :
    va_Run p l e R s m args below meth c H locs cells slots mc ms (F0 m pc ls st0) rest (cn_Q D A wsf (Value.ref h0 :: As).toArray) A := by
  obtain ⟨hx, hb, hml, hown, hts, hG⟩ := C
  exact va_runIN (As := As) (rest := rest) ⟨hx, hb, hml, hown, hts⟩ hM ⟨va_cnB n hts (sd_goodc h5) rfl rfl rfl (hG.2.1 _ h1) (hts _ h4) hd ⟨hR.1, by show 8 + (maxL + 11) + 40 * lv2 ≤ R.locals; omega⟩, hy1, hts _ h2⟩ ⟨cn_blind, fun U hU hW => ⟨rfl, cn_Gwarm hG X0.2.2 hU hW, by rw [hU]; exact X0.1, X0.2.1⟩⟩ rfl hn hls hs0 (lv_room hst) hdg ⟨hR.2.2.1, hR.2.2.2⟩
theorem cn_runI (C : cn_C own cc nL D cy A p s m args meth c) (X0 : cn_H D A s ws0 H locs) (hls : ls.size = nL)
    (hM : Met l y (Cond.code y bytes maxL none :: sd_wl) (cn_rm lv2 mc ms) (cn_P D cy A (.ref h0 :: As) ws0) (cn_Q D A wsf) mc ms A)
    (h1 : Cond.methodLink own index y ∈ sd_wl) (h2 : Cond.instanceMethod y ∈ sd_wl) (h4 : Cond.initialized y.cls ∈ sd_wl) (h5 : Cond.code y bytes maxL none ∈ sd_wl) (hy1 : y.name = "<init>")
    (hd : y.cls ≠ "java/lang/invoke/MethodHandle" ∧ y.cls ≠ "java/lang/invoke/VarHandle" ∧ (parseMethodDescriptor y.desc).map (fun d => d.parameters.length) = some n) (hn : As.length = n) (hR : lv2 + 1 ≤ R.frames ∧ 19 + maxL + 40 * lv2 ≤ R.locals ∧ cells + mc ≤ R.cells ∧ slots + ms ≤ R.slots)
    (hs0 : st0 = As.reverse ++ .ref h0 :: rest) (hst : (rest.map fun v => v.category).sum ≤ 8) (hdg : decode cc pc = .ok (.invokespecial index, 3)) :
    va_Run p l e R s m args below meth c H locs cells slots mc ms (F0 m pc ls st0) rest (cn_Q D A wsf (Value.ref h0 :: As).toArray) A := by
  obtain ⟨hx, hb, hml, hown, hts, hG⟩ := C
  exact va_runI (As := As) (rest := rest) ⟨hx, hb, hml, hown, hts⟩ hM (cwI n hts (sd_goodc h5) rfl rfl rfl (hts _ h4) (hts _ h1) (hts _ h2) hy1 hd ⟨hR.1, by show 8 + (maxL + 11) + 40 * lv2 ≤ R.locals; omega⟩) ⟨cn_blind, fun U hU hW => ⟨rfl, cn_Gwarm hG X0.2.2 hU hW, by rw [hU]; exact X0.1, X0.2.1⟩⟩ rfl hn hls hs0 (lv_room hst) hdg ⟨hR.2.2.1, hR.2.2.2⟩
theorem cn_runS (C : cn_C own cc nL D cy A p s m args meth c) (X0 : cn_H D A s ws0 H locs) (hls : ls.size = nL)
    (hM : Met l y (Cond.code y bytes maxL none :: sd_wl) (cn_rm lv2 mc ms) (cn_P D cy A As ws0) (cn_Q D A wsf) mc ms A)
    (h1 : Cond.methodLink own index y ∈ sd_wl) (h2 : Cond.static y ∈ sd_wl) (h4 : Cond.initialized y.cls ∈ sd_wl) (h5 : Cond.code y bytes maxL none ∈ sd_wl)
    (hd : y.cls ≠ "java/lang/invoke/MethodHandle" ∧ y.cls ≠ "java/lang/invoke/VarHandle" ∧ (parseMethodDescriptor y.desc).map (fun d => d.parameters.length) = some n) (hn : As.length = n) (hR : lv2 + 1 ≤ R.frames ∧ 19 + maxL + 40 * lv2 ≤ R.locals ∧ cells + mc ≤ R.cells ∧ slots + ms ≤ R.slots)
    (hs0 : st0 = As.reverse ++ rest) (hst : (rest.map fun v => v.category).sum ≤ 8) (hdg : decode cc pc = .ok (.invokestatic index, 3)) :
    va_Run p l e R s m args below meth c H locs cells slots mc ms (F0 m pc ls st0) rest (cn_Q D A wsf As.toArray) A := by
  obtain ⟨hx, hb, hml, hown, hts, hG⟩ := C
  exact va_runS (As := As) (rest := rest) ⟨hx, hb, hml, hown, hts⟩ hM ⟨callB_of n hts (sd_goodc h5) rfl rfl rfl (hts _ h4) (hts _ h1) hd ⟨hR.1, by show 8 + (maxL + 11) + 40 * lv2 ≤ R.locals; omega⟩, hts _ h2⟩ ⟨cn_blind, fun U hU hW => ⟨rfl, cn_Gwarm hG X0.2.2 hU hW, by rw [hU]; exact X0.1, X0.2.1⟩⟩ rfl hn hls hs0 (lv_room hst) hdg ⟨hR.2.2.1, hR.2.2.2⟩
end CNR
set_option maxHeartbeats 4000000 in
set_option maxRecDepth 100000 in
theorem cn_fill {l : Launch} {D : va_G} {cy : Nat → ClassId} {A : Nat → Prop} {ws : va_W} {q0 a n : Nat} {f : Nat → Int32} {v : Int32} (hq : ws[q0]? = some (a, .inl (cy 0, n, .inl f))) (hn31 : n < 2 ^ 31) :
    Met l yJ7_fill_53178 (Cond.code yJ7_fill_53178 cJ7_fill_53178 4 none :: sd_wl) (cn_rm 0 0 0) (cn_P D cy A [.ref a, .int v] ws) (cn_Q D A (fun _ => ws.set q0 (a, .inl (cy 0, n, .inl (fun j => if j < n then v else f j))))) 0 0 A := by
  refine cn_met (by decide) (Nat.le_of_ble_eq_true rfl) (fun p e s m args below meth c ls C hr hlk _ X0 hl => ?_)
  obtain ⟨hx, hb, hml, hown, hts, hG⟩ := id C
  replace C : cn_C RJ7 cJ7_fill_53178 4 D cy A p s m args meth c := C
  replace hl : lv_has ls 4 [(0, .ref a), (1, .int v)] := hl
  refine lv_iconst (v := (0 : Int32)) hx hb dJ7_fill_53178_0 (by decide) ?_
  refine lv_istore_n (lv' := [(2, .int (0 : Int32)), (0, .ref a), (1, .int v)]) hx hb dJ7_fill_53178_1 rfl hl (by decide) rfl (fun ls hl => ?_)
  refine lv_aload_n hx hb dJ7_fill_53178_2 rfl (lv_at hl 1 rfl) ?_
  refine va_alen hx hb hG.1 X0.1 q0 0 hq rfl rfl dJ7_fill_53178_3 ?_
  refine lv_istore_n (lv' := [(3, .int (nI n)), (2, .int (0 : Int32)), (0, .ref a), (1, .int v)]) hx hb dJ7_fill_53178_4 rfl hl (by decide) rfl (fun ls hl => ?_)
  have loop : ∀ (k i : Nat) (g : Nat → Int32) (ws1 : va_W) (H : Heap) (locs : List Loc) (ls : Array Slot), i + k = n → ws1[q0]? = some (a, .inl (cy 0, n, .inl g)) → ws1.set q0 (a, .inl (cy 0, n, .inl (fun j => if i ≤ j ∧ j < n then v else g j))) = ws.set q0 (a, .inl (cy 0, n, .inl (fun j => if j < n then v else f j))) → cn_H D A s ws1 H locs → lv_has ls 4 [(3, .int (nI n)), (2, .int (nI i)), (0, .ref a), (1, .int v)] → W p l e (cn_rm 0 0 0) s m args below meth c H locs 0 0 (MQ below (cn_Q D A (fun _ => ws.set q0 (a, .inl (cy 0, n, .inl (fun j => if j < n then v else f j))))) args s 0 0 A) (F0 m 5 ls []) := by
    intro k
    induction k with
    | zero =>
      intro i g ws1 H locs ls hi hq1 he X0 hl
      have hin : i = n := by omega
      subst hin
      refine lv_iload_n hx hb dJ7_fill_53178_5 rfl (lv_at hl 1 rfl) ?_
      refine lv_iload_n hx hb dJ7_fill_53178_6 rfl (lv_at hl 0 rfl) ?_
      refine lv_icmp_ge (tgt := 20) hx hb dJ7_fill_53178_7 (by decide) (fun _ => ?_) (fun c1 => ?_)
      · have h0 : ws1 = ws.set q0 (a, .inl (cy 0, i, .inl (fun j => if j < i then v else f j))) := by
          rw [← he]
          have hg : (fun j => if i ≤ j ∧ j < i then v else g j) = g := by
            funext j
            rw [if_neg (by omega)]
          rw [hg]
          obtain ⟨hlt, hge⟩ := List.getElem?_eq_some_iff.mp hq1
          rw [← hge, List.set_getElem_self]
        exact cn_vret C hr hlk X0 (fun _ => 0) h0 dJ7_fill_53178_20
      · exact absurd (nI_le (Nat.le_refl i) hn31) c1
    | succ k ih =>
      intro i g ws1 H locs ls hi hq1 he X0 hl
      have hin : i < n := by omega
      refine lv_iload_n hx hb dJ7_fill_53178_5 rfl (lv_at hl 1 rfl) ?_
      refine lv_iload_n hx hb dJ7_fill_53178_6 rfl (lv_at hl 0 rfl) ?_
      refine lv_icmp_ge (tgt := 20) hx hb dJ7_fill_53178_7 (by decide) (fun c1 => ?_) (fun _ => ?_)
      · exact absurd c1 (nI_ge hin hn31)
      · refine lv_aload_n hx hb dJ7_fill_53178_10 rfl (lv_at hl 2 rfl) ?_
        refine lv_iload_n hx hb dJ7_fill_53178_11 rfl (lv_at hl 1 rfl) ?_
        refine lv_iload_n hx hb dJ7_fill_53178_12 rfl (lv_at hl 3 rfl) ?_
        refine va_iast hx hb hG.1 X0.1 X0.2.1 X0.2.2 q0 0 hq1 rfl (vp_in_nI hin hn31) dJ7_fill_53178_13 (fun H locs h1 h2 h3 => ?_)
        rw [nI_clamp (by omega)] at h1 h2
        refine lv_iinc (v := nI (i + 1)) (lv' := [(2, .int (nI (i + 1))), (3, .int (nI n)), (0, .ref a), (1, .int v)]) hx hb dJ7_fill_53178_14 hl (k := 1) rfl (nI_1 i) (by decide) rfl (fun ls hl => ?_)
        refine lv_goto (tgt := 5) hx hb dJ7_fill_53178_17 (by decide) ?_
        refine ih (i + 1) (upd g i v) _ H locs ls (by omega) ?_ ?_ ⟨h1, h2, h3⟩ (lv_sub hl [1, 0, 2, 3] rfl)
        · exact List.getElem?_set_self (List.getElem?_eq_some_iff.mp hq1).1
        · rw [List.set_set, ← he]
          congr 6
          funext j
          simp only [upd]
          by_cases h1 : j = i
          · subst h1
            simp [hin]
          · by_cases h2 : i + 1 ≤ j ∧ j < n
            · rw [if_pos h2, if_pos ⟨by omega, h2.2⟩]
            · rw [if_neg h2, if_neg h1, if_neg (by omega)]
  refine loop n 0 f ws _ _ ls (by omega) hq ?_ X0 hl
  congr 6
  funext j
  simp
