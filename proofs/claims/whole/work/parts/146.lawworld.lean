/-! THE FIRST WORLD is the first state's -/
set_option maxHeartbeats 4000000 in
set_option maxRecDepth 100000 in
theorem ws_W {D : va_G} {cy : Nat → ClassId} {q q2 : Nat} {u u2 : Nat → Nat} {H : Heap} (h : va_P D vwCl (cn_X11_init cy q u ++ cn_X12_init cy q2 u2) H) : va_P D vwCl (sd_W cy (sd_ad0 q q2 u u2) sd_S0) H := by
  intro k x hx
  obtain ⟨hk, rfl⟩ := sd_Wat2 hx
  unfold sd_nC at hk
  match k, hk with
  | 0, _ => exact cast (congrArg (fun z => va_at D vwCl z H) s0_0) (h 0 _ rfl)
  | 1, _ => exact cast (congrArg (fun z => va_at D vwCl z H) s0_1) (h 1 _ rfl)
  | 2, _ => exact cast (congrArg (fun z => va_at D vwCl z H) s0_2) (h 2 _ rfl)
  | 3, _ => exact cast (congrArg (fun z => va_at D vwCl z H) s0_3) (h 3 _ rfl)
  | 4, _ => exact cast (congrArg (fun z => va_at D vwCl z H) s0_4) (h 4 _ rfl)
  | 5, _ => exact cast (congrArg (fun z => va_at D vwCl z H) s0_5) (h 5 _ rfl)
  | 6, _ => exact cast (congrArg (fun z => va_at D vwCl z H) s0_6) (h 6 _ rfl)
  | 7, _ => exact cast (congrArg (fun z => va_at D vwCl z H) s0_7) (h 7 _ rfl)
  | 8, _ => exact cast (congrArg (fun z => va_at D vwCl z H) s0_8) (h 8 _ rfl)
  | 9, _ => exact cast (congrArg (fun z => va_at D vwCl z H) s0_9) (h 9 _ rfl)
  | 10, _ => exact cast (congrArg (fun z => va_at D vwCl z H) s0_10) (h 10 _ rfl)
  | 11, _ => exact cast (congrArg (fun z => va_at D vwCl z H) s0_11) (h 11 _ rfl)
  | 12, _ => exact cast (congrArg (fun z => va_at D vwCl z H) s0_12) (h 12 _ rfl)
  | 13, _ => exact cast (congrArg (fun z => va_at D vwCl z H) s0_13) (h 13 _ rfl)
  | 14, _ => exact cast (congrArg (fun z => va_at D vwCl z H) s0_14) (h 14 _ rfl)
  | 15, _ => exact cast (congrArg (fun z => va_at D vwCl z H) s0_15) (h 15 _ rfl)
  | 16, _ => exact cast (congrArg (fun z => va_at D vwCl z H) s0_16) (h 16 _ rfl)
  | 17, _ => exact cast (congrArg (fun z => va_at D vwCl z H) s0_17) (h 17 _ rfl)
  | 18, _ => exact cast (congrArg (fun z => va_at D vwCl z H) s0_18) (h 18 _ rfl)
  | 19, _ => exact cast (congrArg (fun z => va_at D vwCl z H) s0_19) (h 19 _ rfl)
  | 20, _ => exact cast (congrArg (fun z => va_at D vwCl z H) s0_20) (h 20 _ rfl)
  | 21, _ => exact cast (congrArg (fun z => va_at D vwCl z H) s0_21) (h 21 _ rfl)
  | 22, _ => exact cast (congrArg (fun z => va_at D vwCl z H) s0_22) (h 22 _ rfl)
  | 23, _ => exact cast (congrArg (fun z => va_at D vwCl z H) s0_23) (h 23 _ rfl)
  | 24, _ => exact cast (congrArg (fun z => va_at D vwCl z H) s0_24) (h 24 _ rfl)
  | 25, _ => exact cast (congrArg (fun z => va_at D vwCl z H) s0_25) (h 25 _ rfl)
  | 26, _ => exact cast (congrArg (fun z => va_at D vwCl z H) s0_26) (h 26 _ rfl)
  | 27, _ => exact cast (congrArg (fun z => va_at D vwCl z H) s0_27) (h 27 _ rfl)
  | 28, _ => exact cast (congrArg (fun z => va_at D vwCl z H) s0_28) (h 28 _ rfl)
  | 29, _ => exact cast (congrArg (fun z => va_at D vwCl z H) s0_29) (h 29 _ rfl)
  | 30, _ => exact cast (congrArg (fun z => va_at D vwCl z H) s0_30) (h 30 _ rfl)
  | 31, _ => exact cast (congrArg (fun z => va_at D vwCl z H) s0_31) (h 31 _ rfl)
  | 32, _ => exact cast (congrArg (fun z => va_at D vwCl z H) s0_32) (h 32 _ rfl)
  | 33, _ =>
    have h1 := h 33 _ rfl
    rw [sd_c17 (by decide)]
    show H[_]? = some (vp_cell _ _)
    rw [ws_q (g := (va_up (va_up (va_up (va_up (fun _ => none) 0 (some (u 34))) 1 (some (u 39))) 2 (some (u 44))) 3 (some (u 49)))) (fun j hj => ?_)]
    · exact h1
    · rcases (show j = 0 ∨ j = 1 ∨ j = 2 ∨ j = 3 by have hj : j < 4 := hj; omega) with e | e | e | e <;> subst e <;> rfl
  | 34, _ => exact cast (congrArg (fun z => va_at D vwCl z H) s0_34) (h 34 _ rfl)
  | 35, _ => exact cast (congrArg (fun z => va_at D vwCl z H) s0_35) (h 35 _ rfl)
  | 36, _ => exact cast (congrArg (fun z => va_at D vwCl z H) s0_36) (h 36 _ rfl)
  | 37, _ => exact cast (congrArg (fun z => va_at D vwCl z H) s0_37) (h 37 _ rfl)
  | 38, _ => exact cast (congrArg (fun z => va_at D vwCl z H) s0_38) (h 38 _ rfl)
  | 39, _ => exact cast (congrArg (fun z => va_at D vwCl z H) s0_39) (h 39 _ rfl)
  | 40, _ => exact cast (congrArg (fun z => va_at D vwCl z H) s0_40) (h 40 _ rfl)
  | 41, _ => exact cast (congrArg (fun z => va_at D vwCl z H) s0_41) (h 41 _ rfl)
  | 42, _ => exact cast (congrArg (fun z => va_at D vwCl z H) s0_42) (h 42 _ rfl)
  | 43, _ => exact cast (congrArg (fun z => va_at D vwCl z H) s0_43) (h 43 _ rfl)
  | 44, _ => exact cast (congrArg (fun z => va_at D vwCl z H) s0_44) (h 44 _ rfl)
  | 45, _ => exact cast (congrArg (fun z => va_at D vwCl z H) s0_45) (h 45 _ rfl)
  | 46, _ => exact cast (congrArg (fun z => va_at D vwCl z H) s0_46) (h 46 _ rfl)
  | 47, _ => exact cast (congrArg (fun z => va_at D vwCl z H) s0_47) (h 47 _ rfl)
  | 48, _ => exact cast (congrArg (fun z => va_at D vwCl z H) s0_48) (h 48 _ rfl)
  | 49, _ => exact cast (congrArg (fun z => va_at D vwCl z H) s0_49) (h 49 _ rfl)
  | 50, _ => exact cast (congrArg (fun z => va_at D vwCl z H) s0_50) (h 50 _ rfl)
  | 51, _ => exact cast (congrArg (fun z => va_at D vwCl z H) s0_51) (h 51 _ rfl)
  | 52, _ => exact cast (congrArg (fun z => va_at D vwCl z H) s0_52) (h 52 _ rfl)
  | 53, _ => exact cast (congrArg (fun z => va_at D vwCl z H) s0_53) (h 53 _ rfl)
  | 54, _ => exact cast (congrArg (fun z => va_at D vwCl z H) s0_54) (h 54 _ rfl)
  | 55, _ => exact cast (congrArg (fun z => va_at D vwCl z H) s0_55) (h 55 _ rfl)
  | 56, _ => exact cast (congrArg (fun z => va_at D vwCl z H) s0_56) (h 56 _ rfl)
  | 57, _ => exact cast (congrArg (fun z => va_at D vwCl z H) s0_57) (h 57 _ rfl)
  | 58, _ => exact cast (congrArg (fun z => va_at D vwCl z H) s0_58) (h 58 _ rfl)
  | 59, _ => exact cast (congrArg (fun z => va_at D vwCl z H) s0_59) (h 59 _ rfl)
  | 60, _ => exact cast (congrArg (fun z => va_at D vwCl z H) s0_60) (h 60 _ rfl)
  | 61, _ => exact cast (congrArg (fun z => va_at D vwCl z H) s0_61) (h 61 _ rfl)
  | 62, _ => exact cast (congrArg (fun z => va_at D vwCl z H) s0_62) (h 62 _ rfl)
  | 63, _ => exact cast (congrArg (fun z => va_at D vwCl z H) s0_63) (h 63 _ rfl)
  | 64, _ => exact cast (congrArg (fun z => va_at D vwCl z H) s0_64) (h 64 _ rfl)
  | 65, _ => exact cast (congrArg (fun z => va_at D vwCl z H) s0_65) (h 65 _ rfl)
  | 66, _ => exact cast (congrArg (fun z => va_at D vwCl z H) s0_66) (h 66 _ rfl)
  | 67, _ => exact cast (congrArg (fun z => va_at D vwCl z H) s0_67) (h 67 _ rfl)
  | 68, _ => exact cast (congrArg (fun z => va_at D vwCl z H) s0_68) (h 68 _ rfl)
  | 69, _ => exact cast (congrArg (fun z => va_at D vwCl z H) s0_69) (h 69 _ rfl)
  | 70, _ => exact cast (congrArg (fun z => va_at D vwCl z H) s0_70) (h 70 _ rfl)
  | 71, _ => exact cast (congrArg (fun z => va_at D vwCl z H) s0_71) (h 71 _ rfl)
  | 72, _ => exact cast (congrArg (fun z => va_at D vwCl z H) s0_72) (h 72 _ rfl)
  | 73, _ => exact cast (congrArg (fun z => va_at D vwCl z H) s0_73) (h 73 _ rfl)
  | 74, _ => exact cast (congrArg (fun z => va_at D vwCl z H) s0_74) (h 74 _ rfl)
  | 75, _ => exact cast (congrArg (fun z => va_at D vwCl z H) s0_75) (h 75 _ rfl)
  | 76, _ => exact cast (congrArg (fun z => va_at D vwCl z H) s0_76) (h 76 _ rfl)
  | 77, _ => exact cast (congrArg (fun z => va_at D vwCl z H) s0_77) (h 77 _ rfl)
  | 78, _ => exact cast (congrArg (fun z => va_at D vwCl z H) s0_78) (h 78 _ rfl)
  | 79, _ => exact cast (congrArg (fun z => va_at D vwCl z H) s0_79) (h 79 _ rfl)
  | 80, _ =>
    have h1 := h 80 _ rfl
    rw [sd_c18 (by decide)]
    show H[_]? = some (vp_cell _ _)
    rw [ws_q (g := (va_up (va_up (va_up (va_up (fun _ => none) 0 (some (u 81))) 1 (some (u 86))) 2 (some (u 91))) 3 (some (u 96)))) (fun j hj => ?_)]
    · exact h1
    · rcases (show j = 0 ∨ j = 1 ∨ j = 2 ∨ j = 3 by have hj : j < 4 := hj; omega) with e | e | e | e <;> subst e <;> rfl
  | 81, _ => exact cast (congrArg (fun z => va_at D vwCl z H) s0_81) (h 81 _ rfl)
  | 82, _ => exact cast (congrArg (fun z => va_at D vwCl z H) s0_82) (h 82 _ rfl)
  | 83, _ => exact cast (congrArg (fun z => va_at D vwCl z H) s0_83) (h 83 _ rfl)
  | 84, _ => exact cast (congrArg (fun z => va_at D vwCl z H) s0_84) (h 84 _ rfl)
  | 85, _ => exact cast (congrArg (fun z => va_at D vwCl z H) s0_85) (h 85 _ rfl)
  | 86, _ => exact cast (congrArg (fun z => va_at D vwCl z H) s0_86) (h 86 _ rfl)
  | 87, _ => exact cast (congrArg (fun z => va_at D vwCl z H) s0_87) (h 87 _ rfl)
  | 88, _ => exact cast (congrArg (fun z => va_at D vwCl z H) s0_88) (h 88 _ rfl)
  | 89, _ => exact cast (congrArg (fun z => va_at D vwCl z H) s0_89) (h 89 _ rfl)
  | 90, _ => exact cast (congrArg (fun z => va_at D vwCl z H) s0_90) (h 90 _ rfl)
  | 91, _ => exact cast (congrArg (fun z => va_at D vwCl z H) s0_91) (h 91 _ rfl)
  | 92, _ => exact cast (congrArg (fun z => va_at D vwCl z H) s0_92) (h 92 _ rfl)
  | 93, _ => exact cast (congrArg (fun z => va_at D vwCl z H) s0_93) (h 93 _ rfl)
  | 94, _ => exact cast (congrArg (fun z => va_at D vwCl z H) s0_94) (h 94 _ rfl)
  | 95, _ => exact cast (congrArg (fun z => va_at D vwCl z H) s0_95) (h 95 _ rfl)
  | 96, _ => exact cast (congrArg (fun z => va_at D vwCl z H) s0_96) (h 96 _ rfl)
  | 97, _ => exact cast (congrArg (fun z => va_at D vwCl z H) s0_97) (h 97 _ rfl)
  | 98, _ => exact cast (congrArg (fun z => va_at D vwCl z H) s0_98) (h 98 _ rfl)
  | 99, _ => exact cast (congrArg (fun z => va_at D vwCl z H) s0_99) (h 99 _ rfl)
  | 100, _ => exact cast (congrArg (fun z => va_at D vwCl z H) s0_100) (h 100 _ rfl)
  | 101, _ => exact cast (congrArg (fun z => va_at D vwCl z H) s0_101) (h 101 _ rfl)
  | 102, _ => exact cast (congrArg (fun z => va_at D vwCl z H) s0_102) (h 102 _ rfl)
  | 103, _ => exact cast (congrArg (fun z => va_at D vwCl z H) s0_103) (h 103 _ rfl)
  | 104, _ => exact cast (congrArg (fun z => va_at D vwCl z H) s0_104) (h 104 _ rfl)
  | 105, _ => exact cast (congrArg (fun z => va_at D vwCl z H) s0_105) (h 105 _ rfl)
  | 106, _ => exact cast (congrArg (fun z => va_at D vwCl z H) s0_106) (h 106 _ rfl)
  | 107, _ => exact cast (congrArg (fun z => va_at D vwCl z H) s0_107) (h 107 _ rfl)
  | 108, _ => exact cast (congrArg (fun z => va_at D vwCl z H) s0_108) (h 108 _ rfl)
  | 109, _ => exact cast (congrArg (fun z => va_at D vwCl z H) s0_109) (h 109 _ rfl)
  | 110, _ => exact cast (congrArg (fun z => va_at D vwCl z H) s0_110) (h 110 _ rfl)
  | 111, _ => exact cast (congrArg (fun z => va_at D vwCl z H) s0_111) (h 111 _ rfl)
  | 112, _ => exact cast (congrArg (fun z => va_at D vwCl z H) s0_112) (h 112 _ rfl)
  | 113, _ => exact cast (congrArg (fun z => va_at D vwCl z H) s0_113) (h 113 _ rfl)
  | 114, _ => exact cast (congrArg (fun z => va_at D vwCl z H) s0_114) (h 114 _ rfl)
  | 115, _ => exact cast (congrArg (fun z => va_at D vwCl z H) s0_115) (h 115 _ rfl)
  | 116, _ => exact cast (congrArg (fun z => va_at D vwCl z H) s0_116) (h 116 _ rfl)
  | 117, _ => exact cast (congrArg (fun z => va_at D vwCl z H) s0_117) (h 117 _ rfl)
  | 118, _ => exact cast (congrArg (fun z => va_at D vwCl z H) s0_118) (h 118 _ rfl)
  | 119, _ => exact cast (congrArg (fun z => va_at D vwCl z H) s0_119) (h 119 _ rfl)
  | 120, _ => exact cast (congrArg (fun z => va_at D vwCl z H) s0_120) (h 120 _ rfl)
  | 121, _ => exact cast (congrArg (fun z => va_at D vwCl z H) s0_121) (h 121 _ rfl)
  | 122, _ => exact cast (congrArg (fun z => va_at D vwCl z H) s0_122) (h 122 _ rfl)
  | 123, _ => exact cast (congrArg (fun z => va_at D vwCl z H) s0_123) (h 123 _ rfl)
  | 124, _ => exact cast (congrArg (fun z => va_at D vwCl z H) s0_124) (h 124 _ rfl)
  | 125, _ => exact cast (congrArg (fun z => va_at D vwCl z H) s0_125) (h 125 _ rfl)
  | 126, _ => exact cast (congrArg (fun z => va_at D vwCl z H) s0_126) (h 126 _ rfl)
  | 127, _ => exact cast (congrArg (fun z => va_at D vwCl z H) s0_127) (h 127 _ rfl)
  | 128, _ => exact cast (congrArg (fun z => va_at D vwCl z H) s0_128) (h 128 _ rfl)
  | 129, _ => exact cast (congrArg (fun z => va_at D vwCl z H) s0_129) (h 129 _ rfl)
  | 130, _ => exact cast (congrArg (fun z => va_at D vwCl z H) s0_130) (h 130 _ rfl)
  | 131, _ => exact cast (congrArg (fun z => va_at D vwCl z H) s0_131) (h 131 _ rfl)
  | 132, _ => exact cast (congrArg (fun z => va_at D vwCl z H) s0_132) (h 132 _ rfl)
  | 133, _ => exact cast (congrArg (fun z => va_at D vwCl z H) s0_133) (h 133 _ rfl)
  | 134, _ => exact cast (congrArg (fun z => va_at D vwCl z H) s0_134) (h 134 _ rfl)
  | 135, _ => exact cast (congrArg (fun z => va_at D vwCl z H) s0_135) (h 135 _ rfl)
  | 136, _ => exact cast (congrArg (fun z => va_at D vwCl z H) s0_136) (h 136 _ rfl)
  | 137, _ => exact cast (congrArg (fun z => va_at D vwCl z H) s0_137) (h 137 _ rfl)
  | 138, _ => exact cast (congrArg (fun z => va_at D vwCl z H) s0_138) (h 138 _ rfl)
  | 139, _ => exact cast (congrArg (fun z => va_at D vwCl z H) s0_139) (h 139 _ rfl)
  | 140, _ => exact cast (congrArg (fun z => va_at D vwCl z H) s0_140) (h 140 _ rfl)
  | 141, _ => exact cast (congrArg (fun z => va_at D vwCl z H) s0_141) (h 141 _ rfl)
  | 142, _ => exact cast (congrArg (fun z => va_at D vwCl z H) s0_142) (h 142 _ rfl)
  | 143, _ => exact cast (congrArg (fun z => va_at D vwCl z H) s0_143) (h 143 _ rfl)
  | 144, _ => exact cast (congrArg (fun z => va_at D vwCl z H) s0_144) (h 144 _ rfl)
  | 145, _ => exact cast (congrArg (fun z => va_at D vwCl z H) s0_145) (h 145 _ rfl)
  | 146, _ => exact cast (congrArg (fun z => va_at D vwCl z H) s0_146) (h 146 _ rfl)
  | 147, _ => exact cast (congrArg (fun z => va_at D vwCl z H) s0_147) (h 147 _ rfl)
  | 148, _ => exact cast (congrArg (fun z => va_at D vwCl z H) s0_148) (h 148 _ rfl)
  | 149, _ => exact cast (congrArg (fun z => va_at D vwCl z H) s0_149) (h 149 _ rfl)
  | 150, _ => exact cast (congrArg (fun z => va_at D vwCl z H) s0_150) (h 150 _ rfl)
  | 151, _ => exact cast (congrArg (fun z => va_at D vwCl z H) s0_151) (h 151 _ rfl)
  | 152, _ => exact cast (congrArg (fun z => va_at D vwCl z H) s0_152) (h 152 _ rfl)
  | 153, _ => exact cast (congrArg (fun z => va_at D vwCl z H) s0_153) (h 153 _ rfl)
  | 154, _ => exact cast (congrArg (fun z => va_at D vwCl z H) s0_154) (h 154 _ rfl)
  | k + 155, hk => omega
set_option maxHeartbeats 4000000 in
set_option maxRecDepth 100000 in
theorem ws_D {A : Nat → Prop} {cy : Nat → ClassId} {q q2 : Nat} {u u2 : Nat → Nat} (h : va_D A (cn_X11_init cy q u ++ cn_X12_init cy q2 u2)) : (∀ k, k < sd_nC → A (sd_ad0 q q2 u u2 k)) ∧ ∀ i j, i < sd_nC → j < sd_nC → sd_ad0 q q2 u u2 i = sd_ad0 q q2 u u2 j → i = j := by
  have key : ∀ k, k < sd_nC → ∃ e, (cn_X11_init cy q u ++ cn_X12_init cy q2 u2)[k]? = some (sd_ad0 q q2 u u2 k, e) := by
    intro k hk
    unfold sd_nC at hk
    match k, hk with
    | 0, _ => exact ⟨_, rfl⟩
    | 1, _ => exact ⟨_, rfl⟩
    | 2, _ => exact ⟨_, rfl⟩
    | 3, _ => exact ⟨_, rfl⟩
    | 4, _ => exact ⟨_, rfl⟩
    | 5, _ => exact ⟨_, rfl⟩
    | 6, _ => exact ⟨_, rfl⟩
    | 7, _ => exact ⟨_, rfl⟩
    | 8, _ => exact ⟨_, rfl⟩
    | 9, _ => exact ⟨_, rfl⟩
    | 10, _ => exact ⟨_, rfl⟩
    | 11, _ => exact ⟨_, rfl⟩
    | 12, _ => exact ⟨_, rfl⟩
    | 13, _ => exact ⟨_, rfl⟩
    | 14, _ => exact ⟨_, rfl⟩
    | 15, _ => exact ⟨_, rfl⟩
    | 16, _ => exact ⟨_, rfl⟩
    | 17, _ => exact ⟨_, rfl⟩
    | 18, _ => exact ⟨_, rfl⟩
    | 19, _ => exact ⟨_, rfl⟩
    | 20, _ => exact ⟨_, rfl⟩
    | 21, _ => exact ⟨_, rfl⟩
    | 22, _ => exact ⟨_, rfl⟩
    | 23, _ => exact ⟨_, rfl⟩
    | 24, _ => exact ⟨_, rfl⟩
    | 25, _ => exact ⟨_, rfl⟩
    | 26, _ => exact ⟨_, rfl⟩
    | 27, _ => exact ⟨_, rfl⟩
    | 28, _ => exact ⟨_, rfl⟩
    | 29, _ => exact ⟨_, rfl⟩
    | 30, _ => exact ⟨_, rfl⟩
    | 31, _ => exact ⟨_, rfl⟩
    | 32, _ => exact ⟨_, rfl⟩
    | 33, _ => exact ⟨_, rfl⟩
    | 34, _ => exact ⟨_, rfl⟩
    | 35, _ => exact ⟨_, rfl⟩
    | 36, _ => exact ⟨_, rfl⟩
    | 37, _ => exact ⟨_, rfl⟩
    | 38, _ => exact ⟨_, rfl⟩
    | 39, _ => exact ⟨_, rfl⟩
    | 40, _ => exact ⟨_, rfl⟩
    | 41, _ => exact ⟨_, rfl⟩
    | 42, _ => exact ⟨_, rfl⟩
    | 43, _ => exact ⟨_, rfl⟩
    | 44, _ => exact ⟨_, rfl⟩
    | 45, _ => exact ⟨_, rfl⟩
    | 46, _ => exact ⟨_, rfl⟩
    | 47, _ => exact ⟨_, rfl⟩
    | 48, _ => exact ⟨_, rfl⟩
    | 49, _ => exact ⟨_, rfl⟩
    | 50, _ => exact ⟨_, rfl⟩
    | 51, _ => exact ⟨_, rfl⟩
    | 52, _ => exact ⟨_, rfl⟩
    | 53, _ => exact ⟨_, rfl⟩
    | 54, _ => exact ⟨_, rfl⟩
    | 55, _ => exact ⟨_, rfl⟩
    | 56, _ => exact ⟨_, rfl⟩
    | 57, _ => exact ⟨_, rfl⟩
    | 58, _ => exact ⟨_, rfl⟩
    | 59, _ => exact ⟨_, rfl⟩
    | 60, _ => exact ⟨_, rfl⟩
    | 61, _ => exact ⟨_, rfl⟩
    | 62, _ => exact ⟨_, rfl⟩
    | 63, _ => exact ⟨_, rfl⟩
    | 64, _ => exact ⟨_, rfl⟩
    | 65, _ => exact ⟨_, rfl⟩
    | 66, _ => exact ⟨_, rfl⟩
    | 67, _ => exact ⟨_, rfl⟩
    | 68, _ => exact ⟨_, rfl⟩
    | 69, _ => exact ⟨_, rfl⟩
    | 70, _ => exact ⟨_, rfl⟩
    | 71, _ => exact ⟨_, rfl⟩
    | 72, _ => exact ⟨_, rfl⟩
    | 73, _ => exact ⟨_, rfl⟩
    | 74, _ => exact ⟨_, rfl⟩
    | 75, _ => exact ⟨_, rfl⟩
    | 76, _ => exact ⟨_, rfl⟩
    | 77, _ => exact ⟨_, rfl⟩
    | 78, _ => exact ⟨_, rfl⟩
    | 79, _ => exact ⟨_, rfl⟩
    | 80, _ => exact ⟨_, rfl⟩
    | 81, _ => exact ⟨_, rfl⟩
    | 82, _ => exact ⟨_, rfl⟩
    | 83, _ => exact ⟨_, rfl⟩
    | 84, _ => exact ⟨_, rfl⟩
    | 85, _ => exact ⟨_, rfl⟩
    | 86, _ => exact ⟨_, rfl⟩
    | 87, _ => exact ⟨_, rfl⟩
    | 88, _ => exact ⟨_, rfl⟩
    | 89, _ => exact ⟨_, rfl⟩
    | 90, _ => exact ⟨_, rfl⟩
    | 91, _ => exact ⟨_, rfl⟩
    | 92, _ => exact ⟨_, rfl⟩
    | 93, _ => exact ⟨_, rfl⟩
    | 94, _ => exact ⟨_, rfl⟩
    | 95, _ => exact ⟨_, rfl⟩
    | 96, _ => exact ⟨_, rfl⟩
    | 97, _ => exact ⟨_, rfl⟩
    | 98, _ => exact ⟨_, rfl⟩
    | 99, _ => exact ⟨_, rfl⟩
    | 100, _ => exact ⟨_, rfl⟩
    | 101, _ => exact ⟨_, rfl⟩
    | 102, _ => exact ⟨_, rfl⟩
    | 103, _ => exact ⟨_, rfl⟩
    | 104, _ => exact ⟨_, rfl⟩
    | 105, _ => exact ⟨_, rfl⟩
    | 106, _ => exact ⟨_, rfl⟩
    | 107, _ => exact ⟨_, rfl⟩
    | 108, _ => exact ⟨_, rfl⟩
    | 109, _ => exact ⟨_, rfl⟩
    | 110, _ => exact ⟨_, rfl⟩
    | 111, _ => exact ⟨_, rfl⟩
    | 112, _ => exact ⟨_, rfl⟩
    | 113, _ => exact ⟨_, rfl⟩
    | 114, _ => exact ⟨_, rfl⟩
    | 115, _ => exact ⟨_, rfl⟩
    | 116, _ => exact ⟨_, rfl⟩
    | 117, _ => exact ⟨_, rfl⟩
    | 118, _ => exact ⟨_, rfl⟩
    | 119, _ => exact ⟨_, rfl⟩
    | 120, _ => exact ⟨_, rfl⟩
    | 121, _ => exact ⟨_, rfl⟩
    | 122, _ => exact ⟨_, rfl⟩
    | 123, _ => exact ⟨_, rfl⟩
    | 124, _ => exact ⟨_, rfl⟩
    | 125, _ => exact ⟨_, rfl⟩
    | 126, _ => exact ⟨_, rfl⟩
    | 127, _ => exact ⟨_, rfl⟩
    | 128, _ => exact ⟨_, rfl⟩
    | 129, _ => exact ⟨_, rfl⟩
    | 130, _ => exact ⟨_, rfl⟩
    | 131, _ => exact ⟨_, rfl⟩
    | 132, _ => exact ⟨_, rfl⟩
    | 133, _ => exact ⟨_, rfl⟩
    | 134, _ => exact ⟨_, rfl⟩
    | 135, _ => exact ⟨_, rfl⟩
    | 136, _ => exact ⟨_, rfl⟩
    | 137, _ => exact ⟨_, rfl⟩
    | 138, _ => exact ⟨_, rfl⟩
    | 139, _ => exact ⟨_, rfl⟩
    | 140, _ => exact ⟨_, rfl⟩
    | 141, _ => exact ⟨_, rfl⟩
    | 142, _ => exact ⟨_, rfl⟩
    | 143, _ => exact ⟨_, rfl⟩
    | 144, _ => exact ⟨_, rfl⟩
    | 145, _ => exact ⟨_, rfl⟩
    | 146, _ => exact ⟨_, rfl⟩
    | 147, _ => exact ⟨_, rfl⟩
    | 148, _ => exact ⟨_, rfl⟩
    | 149, _ => exact ⟨_, rfl⟩
    | 150, _ => exact ⟨_, rfl⟩
    | 151, _ => exact ⟨_, rfl⟩
    | 152, _ => exact ⟨_, rfl⟩
    | 153, _ => exact ⟨_, rfl⟩
    | 154, _ => exact ⟨_, rfl⟩
    | k + 155, hk => omega
  refine ⟨fun k hk => ?_, fun i j hi hj he => ?_⟩
  · obtain ⟨e, h1⟩ := key k hk
    exact h.2 k _ h1
  · obtain ⟨e, h1⟩ := key i hi
    obtain ⟨e', h2⟩ := key j hj
    exact h.1 i j _ _ h1 h2 he
