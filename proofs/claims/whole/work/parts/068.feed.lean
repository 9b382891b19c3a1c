/-! feed -/
def byt (x : Int64) (k : Nat) : Nat := (x.toBitVec >>> k).toNat % 2 ^ 8
theorem hb_255 (q : Nat) (hq : q < 32) : hb 255 q = decide (q < 8) := by
  have h : ∀ q : Fin 32, hb 255 q.val = decide (q.val < 8) := by decide +kernel
  exact h ⟨q, hq⟩
theorem hb_byt (x : Int64) {k q : Nat} (hq : q < 32) : hb (nI (byt x k)) q = (decide (q < 8) && x.toBitVec.getLsbD (k + q)) := by
  rw [hb_nI hq]
  unfold byt
  rw [Nat.testBit_mod_two_pow, BitVec.testBit_toNat, BitVec.getLsbD_ushiftRight]
theorem ref_byte (x : Int64) {k : Nat} (hk : k ≤ 56) : ((x >>> ((nI k).toInt64 &&& 63)).toInt32 &&& 255) = nI (byt x k) := by
  have hs : (((nI k).toInt64 &&& 63).toBitVec.smod 64).toNat = k := by
    have h : ∀ p : Fin 57, (((nI p.val).toInt64 &&& 63).toBitVec.smod 64).toNat = p.val := by decide +kernel
    exact h ⟨k, by omega⟩
  apply hb_ext
  intro q hq
  rw [hb_and, hb_255 q hq, hb_byt x hq]
  by_cases c : q < 8
  · have : hb (x >>> ((nI k).toInt64 &&& 63)).toInt32 q = x.toBitVec.getLsbD (k + q) := by
      unfold hb
      rw [Int64.toBitVec_toInt32, BitVec.getLsbD_signExtend, Int64.toBitVec_shiftRight, BitVec.sshiftRight', hs, BitVec.getLsbD_sshiftRight]
      have h1 : q < 64 := by omega
      have h2 : k + q < 64 := by omega
      simp [hq, h1, h2]
    rw [this, Bool.and_comm]
  · simp [c]
theorem cls_byte (x : Int64) {k : Nat} (hk : k ≤ 56) : (((x.toUInt64 >>> ((nI k).toInt64.toUInt64 &&& Int64.toUInt64 63)).toInt64).toInt32 &&& 255) = nI (byt x k) := by
  have hs : (((nI k).toInt64.toUInt64 &&& Int64.toUInt64 63).toBitVec % 64).toNat = k := by
    have h : ∀ p : Fin 57, (((nI p.val).toInt64.toUInt64 &&& Int64.toUInt64 63).toBitVec % 64).toNat = p.val := by decide +kernel
    exact h ⟨k, by omega⟩
  apply hb_ext
  intro q hq
  rw [hb_and, hb_255 q hq, hb_byt x hq]
  by_cases c : q < 8
  · have : hb ((x.toUInt64 >>> ((nI k).toInt64.toUInt64 &&& Int64.toUInt64 63)).toInt64).toInt32 q = x.toBitVec.getLsbD (k + q) := by
      unfold hb
      rw [Int64.toBitVec_toInt32, BitVec.getLsbD_signExtend, UInt64.toBitVec_toInt64, UInt64.toBitVec_shiftRight, BitVec.ushiftRight_eq', hs, BitVec.getLsbD_ushiftRight]
      have h1 : q < 64 := by omega
      simp [hq, h1]
    rw [this, Bool.and_comm]
  · simp [c]
theorem byt_lt (x : Int64) (k : Nat) : byt x k < 256 := Nat.mod_lt _ (by decide)
def okD (c : Nat) : Bool := c == 10 || (decide (32 ≤ c) && decide (c ≤ 126))
def putT (tp : List Nat) (c : Nat) : List Nat := if okD c = true ∧ tp.length < 1000 then tp ++ [c] else tp
theorem TPc_put {S : sd_St} {tp : List Nat} (h : TPc S tp) (hl : tp.length ≤ 1000) {c : Nat} (hc : c < 256) : ∃ S2, f_X7_put 13 (nI c) S = some ((), S2) ∧ TPc S2 (putT tp c) ∧ frm (fun a => a = 13 ∨ a = 14) S S2 := by
  have hb23 : ∀ w, (w = 0 → f_X7_put_b23 13 (nI c) w S = some ((), S)) := fun w hw => by unfold f_X7_put_b23; rw [if_pos hw]
  have hb1 : okD c = true → ∃ S2, f_X7_put_b23 13 (nI c) 1 S = some ((), S2) ∧ TPc S2 (putT tp c) ∧ frm (fun a => a = 13 ∨ a = 14) S S2 := by
    intro hok
    have hv : c ≤ 126 := by
      unfold okD at hok
      simp at hok
      omega
    have hnar : vp_nar .byte ((nI c).toInt8.toInt32) = nI c := by
      have h : ∀ p : Fin 127, vp_nar .byte ((nI p.val).toInt8.toInt32) = nI p.val := by decide +kernel
      exact h ⟨c, by omega⟩
    unfold f_X7_put_b23 putT
    rw [if_neg (by decide), h.1]
    by_cases c1 : tp.length < 1000
    · rw [if_neg (show ¬ (1000 : Int32) ≤ nI tp.length from nI_ge (b := 1000) c1 (by decide)), hnar, sd_st_ok (by rw [show sd_al (13 + 1) = 1000 by decide]; exact c1) (sd_al_lt _), rI_cell (by decide), h.1, nI_1, sd_nm_eq, if_pos ⟨hok, c1⟩]
      refine ⟨_, rfl, ⟨by rw [rI_same, List.length_append]; rfl, fun i c' hi => ?_⟩, ⟨fun a ha => by rw [rI_cell (by omega), rI_cell (by omega)], fun _ _ => rfl⟩⟩
      rw [rI_cell (by decide)]
      show (sd_I S 14 tp.length (nI c)).1 14 i = _
      by_cases c2 : i = tp.length
      · subst c2
        rw [List.getElem?_append_right (Nat.le_refl _), Nat.sub_self] at hi
        cases hi
        rw [rI_same]
      · have hl2 := (List.getElem?_eq_some_iff.mp hi).1
        rw [List.length_append, List.length_singleton] at hl2
        rw [List.getElem?_append_left (by omega)] at hi
        rw [rI_oth c2]
        exact h.2 i c' hi
    · rw [if_pos (show (1000 : Int32) ≤ nI tp.length from nI_le (a := 1000) (by omega) (by omega)), if_neg (fun z => c1 z.2)]
      exact ⟨S, rfl, h, frm_rfl⟩
  have hb0 : okD c = false → ∃ S2, f_X7_put_b23 13 (nI c) 0 S = some ((), S2) ∧ TPc S2 (putT tp c) ∧ frm (fun a => a = 13 ∨ a = 14) S S2 := by
    intro hok
    refine ⟨S, hb23 0 rfl, ?_, frm_rfl⟩
    unfold putT
    rw [if_neg (fun z => by rw [hok] at z; cases z.1)]
    exact h
  unfold f_X7_put f_X7_put_b18 f_X7_put_b22
  by_cases d1 : c = 10
  · rw [if_pos (by rw [d1]; rfl)]
    exact hb1 (by rw [d1]; rfl)
  · rw [if_neg (show ¬ nI c = (10 : Int32) from fun z => d1 (nI_inj (b := 10) (by omega) (by decide) z))]
    by_cases d2 : c < 32
    · rw [if_pos (show nI c < (32 : Int32) from nI_lt (b := 32) d2 (by decide))]
      exact hb0 (by unfold okD; simp [d1]; omega)
    · rw [if_neg (show ¬ nI c < (32 : Int32) from (nI_nlt (by omega) (by omega) : ¬ nI c < nI 32))]
      by_cases d3 : 126 < c
      · rw [if_pos (show (126 : Int32) < nI c from nI_lt (a := 126) d3 (by omega))]
        exact hb0 (by unfold okD; simp [d1]; omega)
      · rw [if_neg (show ¬ (126 : Int32) < nI c from (nI_nlt (by omega) (by omega) : ¬ nI 126 < nI c))]
        exact hb1 (by unfold okD; simp; omega)
def putL (x : Int64) : Nat → List Nat → List Nat
  | 0, tp => putT tp (byt x 0)
  | j + 1, tp => putL x j (putT tp (byt x (8 * (j + 1))))
theorem putT_len {tp : List Nat} {c : Nat} (h : tp.length ≤ 1000) : (putT tp c).length ≤ 1000 := by
  unfold putT
  by_cases d : okD c = true ∧ tp.length < 1000
  · rw [if_pos d, List.length_append]; exact d.2
  · rw [if_neg d]; exact h
theorem putT_ok {tp : List Nat} {c : Nat} (h : ∀ c ∈ tp, okC c) : ∀ c' ∈ putT tp c, okC c' := by
  unfold putT
  by_cases d : okD c = true ∧ tp.length < 1000
  · rw [if_pos d]
    intro c' hc
    rcases List.mem_append.mp hc with hc | hc
    · exact h c' hc
    · rw [List.mem_singleton.mp hc]
      have := d.1
      unfold okD at this
      unfold okC
      simp at this
      omega
  · rw [if_neg d]; exact h
theorem putL_len {x : Int64} : ∀ {j : Nat} {tp : List Nat}, tp.length ≤ 1000 → (putL x j tp).length ≤ 1000 := by
  intro j
  induction j with
  | zero => intro tp h; exact putT_len h
  | succ j ih => intro tp h; exact ih (putT_len h)
theorem putL_ok {x : Int64} : ∀ {j : Nat} {tp : List Nat}, (∀ c ∈ tp, okC c) → ∀ c ∈ putL x j tp, okC c := by
  intro j
  induction j with
  | zero => intro tp h; exact putT_ok h
  | succ j ih => intro tp h; exact ih (putT_ok h)
theorem m8 (j : Nat) : nI (8 * (j + 1)) + (-8 : Int32) = nI (8 * j) := by
  rw [show 8 * (j + 1) = 8 * j + 8 by omega, ← nI_add, show nI 8 = (8 : Int32) from rfl, Int32.add_assoc, show (8 : Int32) + (-8) = 0 by decide, Int32.add_zero]
theorem m_put_l (x : Int64) : ∀ (j n : Nat) (S : sd_St) (tp : List Nat), j ≤ 7 → j + 1 < n → TPc S tp → tp.length ≤ 1000 → ∃ S2, f_X11_putSigns_l3 n x (nI (8 * j)) S = some ((), S2) ∧ TPc S2 (putL x j tp) ∧ frm (fun a => a = 13 ∨ a = 14) S S2 := by
  intro j
  induction j with
  | zero =>
    intro n S tp _ hn h hl
    obtain ⟨n, rfl⟩ : ∃ n', n = n' + 2 := ⟨n - 2, by omega⟩
    obtain ⟨S2, e1, e2, e3⟩ := TPc_put h hl (byt_lt x 0)
    refine ⟨S2, ?_, e2, e3⟩
    unfold f_X11_putSigns_l3
    rw [if_neg (nI_pos (by omega)), cls_byte x (by omega), sd_cl_ok e1]
    unfold f_X11_putSigns_l3
    rw [if_pos (by decide)]
  | succ j ih =>
    intro n S tp hj hn h hl
    obtain ⟨n, rfl⟩ : ∃ n', n = n' + 1 := ⟨n - 1, by omega⟩
    obtain ⟨S2, e1, e2, e3⟩ := TPc_put h hl (byt_lt x (8 * (j + 1)))
    obtain ⟨S3, y1, y2, y3⟩ := ih n S2 _ (by omega) (by omega) e2 (putT_len hl)
    refine ⟨S3, ?_, y2, frm_trans e3 y3 (fun _ h => h) (fun _ h => h)⟩
    unfold f_X11_putSigns_l3
    rw [if_neg (nI_pos (by omega)), cls_byte x (by omega), sd_cl_ok e1, m8]
    exact y1
theorem m_putS (x : Int64) {S : sd_St} {tp : List Nat} (h : TPc S tp) (hl : tp.length ≤ 1000) : ∃ S2, f_X11_putSigns x S = some ((), S2) ∧ TPc S2 (putL x 7 tp) ∧ frm (fun a => a = 13 ∨ a = 14) S S2 := m_put_l x 7 sd_FU S tp (by omega) (by decide) h hl
def TPr (S : sd_St) (tp : List Nat) : Prop := S.1 130 2 = nI tp.length ∧ ∀ i c, tp[i]? = some c → S.1 131 i = nI c
theorem n_lay_1 (x : Int64) {n k : Nat} (hk : k ≤ 56) {S : sd_St} {tp : List Nat} (h : TPr S tp) (hl : tp.length ≤ 1000) : ∃ S2, f_X12_lay_l3 (n + 1) x (nI k) S = f_X12_lay_l3 n x (nI k + -8) S2 ∧ TPr S2 (putT tp (byt x k)) ∧ frm (fun a => a = 130 ∨ a = 131) S S2 := by
  have hc := byt_lt x k
  obtain ⟨c, hcc⟩ : ∃ c, c = byt x k := ⟨_, rfl⟩
  have hb1 : okD c = true → ∃ S2, f_X12_lay_b38 (f_X12_lay_l3 n) x (nI k) (nI c) S = f_X12_lay_l3 n x (nI k + -8) S2 ∧ TPr S2 (putT tp c) ∧ frm (fun a => a = 130 ∨ a = 131) S S2 := by
    intro hok
    unfold f_X12_lay_b38 f_X12_lay_b69 putT
    rw [h.1]
    by_cases c1 : tp.length < 1000
    · rw [if_neg (show ¬ (1000 : Int32) ≤ nI tp.length from nI_ge (b := 1000) c1 (by decide)), sd_st_ok (by rw [al131]; exact c1) (sd_al_lt _), rI_cell (by decide), h.1, nI_1, sd_nm_eq, if_pos ⟨hok, c1⟩]
      refine ⟨_, rfl, ⟨by rw [rI_same, List.length_append]; rfl, fun i c' hi => ?_⟩, ⟨fun a ha => by rw [rI_cell (by omega), rI_cell (by omega)], fun _ _ => rfl⟩⟩
      rw [rI_cell (by decide)]
      by_cases c2 : i = tp.length
      · subst c2
        rw [List.getElem?_append_right (Nat.le_refl _), Nat.sub_self] at hi
        cases hi
        rw [rI_same]
      · have hl2 := (List.getElem?_eq_some_iff.mp hi).1
        rw [List.length_append, List.length_singleton] at hl2
        rw [List.getElem?_append_left (by omega)] at hi
        rw [rI_oth c2]
        exact h.2 i c' hi
    · rw [if_pos (show (1000 : Int32) ≤ nI tp.length from nI_le (a := 1000) (by omega) (by omega)), if_neg (fun z => c1 z.2)]
      exact ⟨S, rfl, h, frm_rfl⟩
  have hb0 : okD c = false → ∃ S2, f_X12_lay_b69 (f_X12_lay_l3 n) x (nI k) S = f_X12_lay_l3 n x (nI k + -8) S2 ∧ TPr S2 (putT tp c) ∧ frm (fun a => a = 130 ∨ a = 131) S S2 := by
    intro hok
    refine ⟨S, rfl, ?_, frm_rfl⟩
    unfold putT
    rw [if_neg (fun z => by rw [hok] at z; cases z.1)]
    exact h
  have hst : f_X12_lay_l3 (n + 1) x (nI k) S = (if nI c = (10 : Int32) then f_X12_lay_b38 (f_X12_lay_l3 n) x (nI k) (nI c) S else (if nI c < (32 : Int32) then f_X12_lay_b69 (f_X12_lay_l3 n) x (nI k) S else (if (126 : Int32) < nI c then f_X12_lay_b69 (f_X12_lay_l3 n) x (nI k) S else f_X12_lay_b38 (f_X12_lay_l3 n) x (nI k) (nI c) S))) := by
    conv => lhs; unfold f_X12_lay_l3
    rw [if_neg (nI_pos (by omega)), ref_byte x hk, sd_nm_eq, ← hcc]
  rw [← hcc] at hc
  rw [hst, ← hcc]
  by_cases d1 : c = 10
  · rw [if_pos (by rw [d1]; rfl)]
    exact hb1 (by rw [d1]; rfl)
  · rw [if_neg (show ¬ nI c = (10 : Int32) from fun z => d1 (nI_inj (b := 10) (by omega) (by decide) z))]
    by_cases d2 : c < 32
    · rw [if_pos (show nI c < (32 : Int32) from nI_lt (b := 32) d2 (by decide))]
      exact hb0 (by unfold okD; simp [d1]; omega)
    · rw [if_neg (show ¬ nI c < (32 : Int32) from (nI_nlt (by omega) (by omega) : ¬ nI c < nI 32))]
      by_cases d3 : 126 < c
      · rw [if_pos (show (126 : Int32) < nI c from nI_lt (a := 126) d3 (by omega))]
        exact hb0 (by unfold okD; simp [d1]; omega)
      · rw [if_neg (show ¬ (126 : Int32) < nI c from (nI_nlt (by omega) (by omega) : ¬ nI 126 < nI c))]
        exact hb1 (by unfold okD; simp; omega)
theorem n_lay_l (x : Int64) : ∀ (j n : Nat) (S : sd_St) (tp : List Nat), j ≤ 7 → j + 1 < n → TPr S tp → tp.length ≤ 1000 → ∃ S2, f_X12_lay_l3 n x (nI (8 * j)) S = some ((), S2) ∧ TPr S2 (putL x j tp) ∧ frm (fun a => a = 130 ∨ a = 131) S S2 := by
  intro j
  induction j with
  | zero =>
    intro n S tp _ hn h hl
    obtain ⟨n, rfl⟩ : ∃ n', n = n' + 2 := ⟨n - 2, by omega⟩
    obtain ⟨S2, e1, e2, e3⟩ := n_lay_1 x (n := n + 1) (k := 8 * 0) (by omega) h hl
    refine ⟨S2, ?_, e2, e3⟩
    rw [e1]
    unfold f_X12_lay_l3
    rw [if_pos (by decide)]
  | succ j ih =>
    intro n S tp hj hn h hl
    obtain ⟨n, rfl⟩ : ∃ n', n = n' + 1 := ⟨n - 1, by omega⟩
    obtain ⟨S2, e1, e2, e3⟩ := n_lay_1 x (n := n) (k := 8 * (j + 1)) (by omega) h hl
    obtain ⟨S3, y1, y2, y3⟩ := ih n S2 _ (by omega) (by omega) e2 (putT_len hl)
    refine ⟨S3, ?_, y2, frm_trans e3 y3 (fun _ h => h) (fun _ h => h)⟩
    rw [e1, m8]
    exact y1
theorem n_lay (x : Int64) {S : sd_St} {tp : List Nat} (h : TPr S tp) (hl : tp.length ≤ 1000) : ∃ S2, f_X12_lay x S = some ((), S2) ∧ TPr S2 (putL x 7 tp) ∧ frm (fun a => a = 130 ∨ a = 131) S S2 := n_lay_l x 7 sd_FU S tp (by omega) (by decide) h hl
theorem ag_feed (x1 x3 x5 : Int64) : AG (f_X11_feed x1 x3 x5) (f_X12_feed x1 x3 x5) := by
  intro σ hw
  obtain ⟨T, rp, mk, tp⟩ := σ
  obtain ⟨w1, w2, w3, w4, w5, w6⟩ := hw
  dsimp only at w1 w2 w3 w4 w5 w6
  have l1 := putL_len (x := x1) (j := 7) w5
  have l2 := putL_len (x := x3) (j := 7) l1
  have l3 := putL_len (x := x5) (j := 7) l2
  refine ⟨nI (putL x5 7 (putL x3 7 (putL x1 7 tp))).length, (T, rp, mk, putL x5 7 (putL x3 7 (putL x1 7 tp))), ⟨w1, w2, w3, w4, l3, putL_ok (putL_ok (putL_ok w6))⟩, fun S h => ?_, fun S h => ?_⟩
  · obtain ⟨i1, i2, i3, i4, i5, i6⟩ := h
    obtain ⟨S1, a1, a2, a3⟩ := m_putS x1 i4 w5
    obtain ⟨S2, b1, b2, b3⟩ := m_putS x3 a2 l1
    obtain ⟨S3, c1, c2, c3⟩ := m_putS x5 b2 l2
    have f : frm (fun a => a = 13 ∨ a = 14) S S3 := frm_trans a3 (frm_trans (e := fun a => a = 13 ∨ a = 14) b3 c3 (fun _ h => h) (fun _ h => h)) (fun _ h => h) (fun _ h => h)
    refine ⟨S3, ?_, ⟨CTX_fr i1 (fun a h1 h2 => f.1 a (by omega)), RC_fr i2 (fun a h1 h2 => f.1 a (by omega)), MKc_fr i3 (fun a h1 h2 => f.1 a (by omega)), c2, CC_fr w1 i5 (by rw [f.1 0 (by omega)]) (fun a h1 h2 => f.1 a (by omega)), fun p hp => by rw [f.1 129 (by omega)]; exact i6 p hp⟩, frm_mono f (fun a h => by unfold loC; omega)⟩
    unfold f_X11_feed
    rw [sd_cl_ok a1, sd_cl_ok b1, sd_cl_ok c1, c2.1]
  · obtain ⟨t1, t2⟩ := IR_thr h
    obtain ⟨i1, i2, i3, i4⟩ := t1
    obtain ⟨S1, a1, a2, a3⟩ := n_lay x1 i3 w5
    obtain ⟨S2, b1, b2, b3⟩ := n_lay x3 a2 l1
    obtain ⟨S3, c1, c2, c3⟩ := n_lay x5 b2 l2
    have f : frm (fun a => a = 130 ∨ a = 131) (sd_I S 130 0 0) S3 := frm_trans a3 (frm_trans (e := fun a => a = 130 ∨ a = 131) b3 c3 (fun _ h => h) (fun _ h => h)) (fun _ h => h) (fun _ h => h)
    refine ⟨S3, ?_, ⟨by rw [f.1 136 (by omega)]; exact i1, by rw [f.1 136 (by omega), f.1 154 (by omega)]; exact i2, c2, by rw [f.2 135 (by omega)]; exact i4⟩, frm_trans t2 f (fun _ h => h) (fun a h => by unfold hiC; omega)⟩
    unfold f_X12_feed
    rw [sd_nm_eq, sd_cl_ok a1, sd_cl_ok b1, sd_cl_ok c1, c2.1]
