theorem dX7_put_54 : decode cX7_put 54 = .ok (.iconst 1, 1) := by decide +kernel
theorem dX7_put_55 : decode cX7_put 55 = .ok (.iadd, 1) := by decide +kernel
theorem dX7_put_56 : decode cX7_put 56 = .ok (.putfield 15, 3) := by decide +kernel
theorem dX7_put_59 : decode cX7_put 59 = .ok (.return_, 1) := by decide +kernel
theorem dX7_wipe_0 : decode cX7_wipe 0 = .ok (.aload_n 0, 1) := by decide +kernel
theorem dX7_wipe_1 : decode cX7_wipe 1 = .ok (.iconst 0, 1) := by decide +kernel
theorem dX7_wipe_2 : decode cX7_wipe 2 = .ok (.putfield 15, 3) := by decide +kernel
theorem dX7_wipe_5 : decode cX7_wipe 5 = .ok (.return_, 1) := by decide +kernel
theorem dX7_rewind_0 : decode cX7_rewind 0 = .ok (.aload_n 0, 1) := by decide +kernel
theorem dX7_rewind_1 : decode cX7_rewind 1 = .ok (.iconst 0, 1) := by decide +kernel
theorem dX7_rewind_2 : decode cX7_rewind 2 = .ok (.putfield 19, 3) := by decide +kernel
theorem dX7_rewind_5 : decode cX7_rewind 5 = .ok (.aload_n 0, 1) := by decide +kernel
theorem dX7_rewind_6 : decode cX7_rewind 6 = .ok (.invokevirtual 22, 3) := by decide +kernel
theorem dX7_rewind_9 : decode cX7_rewind 9 = .ok (.return_, 1) := by decide +kernel
theorem dX7_step_0 : decode cX7_step 0 = .ok (.aload_n 0, 1) := by decide +kernel
theorem dX7_step_1 : decode cX7_step 1 = .ok (.getfield 19, 3) := by decide +kernel
theorem dX7_step_4 : decode cX7_step 4 = .ok (.aload_n 0, 1) := by decide +kernel
theorem dX7_step_5 : decode cX7_step 5 = .ok (.getfield 15, 3) := by decide +kernel
theorem dX7_step_8 : decode cX7_step 8 = .ok (.if_icmp .ge 44, 3) := by decide +kernel
theorem dX7_step_11 : decode cX7_step 11 = .ok (.aload_n 0, 1) := by decide +kernel
theorem dX7_step_12 : decode cX7_step 12 = .ok (.getfield 9, 3) := by decide +kernel
theorem dX7_step_15 : decode cX7_step 15 = .ok (.aload_n 0, 1) := by decide +kernel
theorem dX7_step_16 : decode cX7_step 16 = .ok (.getfield 19, 3) := by decide +kernel
theorem dX7_step_19 : decode cX7_step 19 = .ok (.baload, 1) := by decide +kernel
theorem dX7_step_20 : decode cX7_step 20 = .ok (.bipush 32, 2) := by decide +kernel
theorem dX7_step_22 : decode cX7_step 22 = .ok (.if_icmp .eq 17, 3) := by decide +kernel
theorem dX7_step_25 : decode cX7_step 25 = .ok (.aload_n 0, 1) := by decide +kernel
theorem dX7_step_26 : decode cX7_step 26 = .ok (.getfield 9, 3) := by decide +kernel
theorem dX7_step_29 : decode cX7_step 29 = .ok (.aload_n 0, 1) := by decide +kernel
theorem dX7_step_30 : decode cX7_step 30 = .ok (.getfield 19, 3) := by decide +kernel
theorem dX7_step_33 : decode cX7_step 33 = .ok (.baload, 1) := by decide +kernel
theorem dX7_step_34 : decode cX7_step 34 = .ok (.bipush 10, 2) := by decide +kernel
theorem dX7_step_36 : decode cX7_step 36 = .ok (.if_icmp .ne 16, 3) := by decide +kernel
theorem dX7_step_39 : decode cX7_step 39 = .ok (.aload_n 0, 1) := by decide +kernel
theorem dX7_step_40 : decode cX7_step 40 = .ok (.dup, 1) := by decide +kernel
theorem dX7_step_41 : decode cX7_step 41 = .ok (.getfield 19, 3) := by decide +kernel
theorem dX7_step_44 : decode cX7_step 44 = .ok (.iconst 1, 1) := by decide +kernel
theorem dX7_step_45 : decode cX7_step 45 = .ok (.iadd, 1) := by decide +kernel
theorem dX7_step_46 : decode cX7_step 46 = .ok (.putfield 19, 3) := by decide +kernel
theorem dX7_step_49 : decode cX7_step 49 = .ok (.goto (-49), 3) := by decide +kernel
theorem dX7_step_52 : decode cX7_step 52 = .ok (.aload_n 0, 1) := by decide +kernel
theorem dX7_step_53 : decode cX7_step 53 = .ok (.aload_n 0, 1) := by decide +kernel
theorem dX7_step_54 : decode cX7_step 54 = .ok (.getfield 19, 3) := by decide +kernel
theorem dX7_step_57 : decode cX7_step 57 = .ok (.putfield 25, 3) := by decide +kernel
theorem dX7_step_60 : decode cX7_step 60 = .ok (.aload_n 0, 1) := by decide +kernel
theorem dX7_step_61 : decode cX7_step 61 = .ok (.getfield 19, 3) := by decide +kernel
theorem dX7_step_64 : decode cX7_step 64 = .ok (.aload_n 0, 1) := by decide +kernel
theorem dX7_step_65 : decode cX7_step 65 = .ok (.getfield 15, 3) := by decide +kernel
theorem dX7_step_68 : decode cX7_step 68 = .ok (.if_icmp .lt 11, 3) := by decide +kernel
theorem dX7_step_71 : decode cX7_step 71 = .ok (.aload_n 0, 1) := by decide +kernel
theorem dX7_step_72 : decode cX7_step 72 = .ok (.iconst 0, 1) := by decide +kernel
theorem dX7_step_73 : decode cX7_step 73 = .ok (.putfield 28, 3) := by decide +kernel
theorem dX7_step_76 : decode cX7_step 76 = .ok (.goto 80, 3) := by decide +kernel
theorem dX7_step_79 : decode cX7_step 79 = .ok (.aload_n 0, 1) := by decide +kernel
theorem dX7_step_80 : decode cX7_step 80 = .ok (.getfield 9, 3) := by decide +kernel
theorem dX7_step_83 : decode cX7_step 83 = .ok (.aload_n 0, 1) := by decide +kernel
theorem dX7_step_84 : decode cX7_step 84 = .ok (.getfield 19, 3) := by decide +kernel
theorem dX7_step_87 : decode cX7_step 87 = .ok (.baload, 1) := by decide +kernel
theorem dX7_step_88 : decode cX7_step 88 = .ok (.invokestatic 31, 3) := by decide +kernel
theorem dX7_step_91 : decode cX7_step 91 = .ok (.ifCond .eq 10, 3) := by decide +kernel
theorem dX7_step_94 : decode cX7_step 94 = .ok (.aload_n 0, 1) := by decide +kernel
theorem dX7_step_95 : decode cX7_step 95 = .ok (.invokevirtual 35, 3) := by decide +kernel
theorem dX7_step_98 : decode cX7_step 98 = .ok (.goto 58, 3) := by decide +kernel
theorem dX7_step_101 : decode cX7_step 101 = .ok (.aload_n 0, 1) := by decide +kernel
theorem dX7_step_102 : decode cX7_step 102 = .ok (.getfield 9, 3) := by decide +kernel
theorem dX7_step_105 : decode cX7_step 105 = .ok (.aload_n 0, 1) := by decide +kernel
theorem dX7_step_106 : decode cX7_step 106 = .ok (.getfield 19, 3) := by decide +kernel
theorem dX7_step_109 : decode cX7_step 109 = .ok (.baload, 1) := by decide +kernel
theorem dX7_step_110 : decode cX7_step 110 = .ok (.invokestatic 38, 3) := by decide +kernel
theorem dX7_step_113 : decode cX7_step 113 = .ok (.ifCond .eq 10, 3) := by decide +kernel
theorem dX7_step_116 : decode cX7_step 116 = .ok (.aload_n 0, 1) := by decide +kernel
theorem dX7_step_117 : decode cX7_step 117 = .ok (.invokevirtual 41, 3) := by decide +kernel
theorem dX7_step_120 : decode cX7_step 120 = .ok (.goto 36, 3) := by decide +kernel
theorem dX7_step_123 : decode cX7_step 123 = .ok (.aload_n 0, 1) := by decide +kernel
theorem dX7_step_124 : decode cX7_step 124 = .ok (.aload_n 0, 1) := by decide +kernel
theorem dX7_step_125 : decode cX7_step 125 = .ok (.getfield 9, 3) := by decide +kernel
theorem dX7_step_128 : decode cX7_step 128 = .ok (.aload_n 0, 1) := by decide +kernel
theorem dX7_step_129 : decode cX7_step 129 = .ok (.getfield 19, 3) := by decide +kernel
theorem dX7_step_132 : decode cX7_step 132 = .ok (.baload, 1) := by decide +kernel
theorem dX7_step_133 : decode cX7_step 133 = .ok (.bipush 59, 2) := by decide +kernel
theorem dX7_step_135 : decode cX7_step 135 = .ok (.if_icmp .ne 7, 3) := by decide +kernel
theorem dX7_step_138 : decode cX7_step 138 = .ok (.iconst 3, 1) := by decide +kernel
theorem dX7_step_139 : decode cX7_step 139 = .ok (.goto 4, 3) := by decide +kernel
theorem dX7_step_142 : decode cX7_step 142 = .ok (.iconst 4, 1) := by decide +kernel
theorem dX7_step_143 : decode cX7_step 143 = .ok (.putfield 28, 3) := by decide +kernel
theorem dX7_step_146 : decode cX7_step 146 = .ok (.aload_n 0, 1) := by decide +kernel
theorem dX7_step_147 : decode cX7_step 147 = .ok (.dup, 1) := by decide +kernel
theorem dX7_step_148 : decode cX7_step 148 = .ok (.getfield 19, 3) := by decide +kernel
theorem dX7_step_151 : decode cX7_step 151 = .ok (.iconst 1, 1) := by decide +kernel
theorem dX7_step_152 : decode cX7_step 152 = .ok (.iadd, 1) := by decide +kernel
theorem dX7_step_153 : decode cX7_step 153 = .ok (.putfield 19, 3) := by decide +kernel
theorem dX7_step_156 : decode cX7_step 156 = .ok (.return_, 1) := by decide +kernel
theorem dX7_isAt_0 : decode cX7_isAt 0 = .ok (.aload_n 0, 1) := by decide +kernel
theorem dX7_isAt_1 : decode cX7_isAt 1 = .ok (.getfield 28, 3) := by decide +kernel
theorem dX7_isAt_4 : decode cX7_isAt 4 = .ok (.iconst 1, 1) := by decide +kernel
theorem dX7_isAt_5 : decode cX7_isAt 5 = .ok (.if_icmp .ne 16, 3) := by decide +kernel
theorem dX7_isAt_8 : decode cX7_isAt 8 = .ok (.aload_n 0, 1) := by decide +kernel
theorem dX7_isAt_9 : decode cX7_isAt 9 = .ok (.getfield 44, 3) := by decide +kernel
theorem dX7_isAt_12 : decode cX7_isAt 12 = .ok (.lload_n 1, 1) := by decide +kernel
theorem dX7_isAt_13 : decode cX7_isAt 13 = .ok (.lcmp, 1) := by decide +kernel
theorem dX7_isAt_14 : decode cX7_isAt 14 = .ok (.ifCond .ne 7, 3) := by decide +kernel
theorem dX7_isAt_17 : decode cX7_isAt 17 = .ok (.iconst 1, 1) := by decide +kernel
theorem dX7_isAt_18 : decode cX7_isAt 18 = .ok (.goto 4, 3) := by decide +kernel
theorem dX7_isAt_21 : decode cX7_isAt 21 = .ok (.iconst 0, 1) := by decide +kernel
theorem dX7_isAt_22 : decode cX7_isAt 22 = .ok (.ireturn, 1) := by decide +kernel
theorem dX7_takeWord_0 : decode cX7_takeWord 0 = .ok (.aload_n 0, 1) := by decide +kernel
theorem dX7_takeWord_1 : decode cX7_takeWord 1 = .ok (.lconst 0, 1) := by decide +kernel
theorem dX7_takeWord_2 : decode cX7_takeWord 2 = .ok (.putfield 44, 3) := by decide +kernel
theorem dX7_takeWord_5 : decode cX7_takeWord 5 = .ok (.aload_n 0, 1) := by decide +kernel
theorem dX7_takeWord_6 : decode cX7_takeWord 6 = .ok (.getfield 19, 3) := by decide +kernel
theorem dX7_takeWord_9 : decode cX7_takeWord 9 = .ok (.aload_n 0, 1) := by decide +kernel
theorem dX7_takeWord_10 : decode cX7_takeWord 10 = .ok (.getfield 15, 3) := by decide +kernel
theorem dX7_takeWord_13 : decode cX7_takeWord 13 = .ok (.if_icmp .ge 53, 3) := by decide +kernel
theorem dX7_takeWord_16 : decode cX7_takeWord 16 = .ok (.aload_n 0, 1) := by decide +kernel
theorem dX7_takeWord_17 : decode cX7_takeWord 17 = .ok (.getfield 9, 3) := by decide +kernel
theorem dX7_takeWord_20 : decode cX7_takeWord 20 = .ok (.aload_n 0, 1) := by decide +kernel
theorem dX7_takeWord_21 : decode cX7_takeWord 21 = .ok (.getfield 19, 3) := by decide +kernel
theorem dX7_takeWord_24 : decode cX7_takeWord 24 = .ok (.baload, 1) := by decide +kernel
theorem dX7_takeWord_25 : decode cX7_takeWord 25 = .ok (.invokestatic 31, 3) := by decide +kernel
theorem dX7_takeWord_28 : decode cX7_takeWord 28 = .ok (.ifCond .eq 38, 3) := by decide +kernel
theorem dX7_takeWord_31 : decode cX7_takeWord 31 = .ok (.aload_n 0, 1) := by decide +kernel
theorem dX7_takeWord_32 : decode cX7_takeWord 32 = .ok (.aload_n 0, 1) := by decide +kernel
theorem dX7_takeWord_33 : decode cX7_takeWord 33 = .ok (.getfield 44, 3) := by decide +kernel
theorem dX7_takeWord_36 : decode cX7_takeWord 36 = .ok (.bipush 8, 2) := by decide +kernel
theorem dX7_takeWord_38 : decode cX7_takeWord 38 = .ok (.lshl, 1) := by decide +kernel
theorem dX7_takeWord_39 : decode cX7_takeWord 39 = .ok (.aload_n 0, 1) := by decide +kernel
theorem dX7_takeWord_40 : decode cX7_takeWord 40 = .ok (.getfield 9, 3) := by decide +kernel
theorem dX7_takeWord_43 : decode cX7_takeWord 43 = .ok (.aload_n 0, 1) := by decide +kernel
theorem dX7_takeWord_44 : decode cX7_takeWord 44 = .ok (.getfield 19, 3) := by decide +kernel
theorem dX7_takeWord_47 : decode cX7_takeWord 47 = .ok (.baload, 1) := by decide +kernel
theorem dX7_takeWord_48 : decode cX7_takeWord 48 = .ok (.i2l, 1) := by decide +kernel
theorem dX7_takeWord_49 : decode cX7_takeWord 49 = .ok (.lor, 1) := by decide +kernel
theorem dX7_takeWord_50 : decode cX7_takeWord 50 = .ok (.putfield 44, 3) := by decide +kernel
theorem dX7_takeWord_53 : decode cX7_takeWord 53 = .ok (.aload_n 0, 1) := by decide +kernel
theorem dX7_takeWord_54 : decode cX7_takeWord 54 = .ok (.dup, 1) := by decide +kernel
theorem dX7_takeWord_55 : decode cX7_takeWord 55 = .ok (.getfield 19, 3) := by decide +kernel
theorem dX7_takeWord_58 : decode cX7_takeWord 58 = .ok (.iconst 1, 1) := by decide +kernel
theorem dX7_takeWord_59 : decode cX7_takeWord 59 = .ok (.iadd, 1) := by decide +kernel
theorem dX7_takeWord_60 : decode cX7_takeWord 60 = .ok (.putfield 19, 3) := by decide +kernel
theorem dX7_takeWord_63 : decode cX7_takeWord 63 = .ok (.goto (-58), 3) := by decide +kernel
theorem dX7_takeWord_66 : decode cX7_takeWord 66 = .ok (.aload_n 0, 1) := by decide +kernel
theorem dX7_takeWord_67 : decode cX7_takeWord 67 = .ok (.aload_n 0, 1) := by decide +kernel
theorem dX7_takeWord_68 : decode cX7_takeWord 68 = .ok (.getfield 19, 3) := by decide +kernel
theorem dX7_takeWord_71 : decode cX7_takeWord 71 = .ok (.aload_n 0, 1) := by decide +kernel
theorem dX7_takeWord_72 : decode cX7_takeWord 72 = .ok (.getfield 25, 3) := by decide +kernel
theorem dX7_takeWord_75 : decode cX7_takeWord 75 = .ok (.isub, 1) := by decide +kernel
theorem dX7_takeWord_76 : decode cX7_takeWord 76 = .ok (.bipush 8, 2) := by decide +kernel
theorem dX7_takeWord_78 : decode cX7_takeWord 78 = .ok (.if_icmp .gt 7, 3) := by decide +kernel
theorem dX7_takeWord_81 : decode cX7_takeWord 81 = .ok (.iconst 1, 1) := by decide +kernel
theorem dX7_takeWord_82 : decode cX7_takeWord 82 = .ok (.goto 4, 3) := by decide +kernel
theorem dX7_takeWord_85 : decode cX7_takeWord 85 = .ok (.iconst 4, 1) := by decide +kernel
theorem dX7_takeWord_86 : decode cX7_takeWord 86 = .ok (.putfield 28, 3) := by decide +kernel
theorem dX7_takeWord_89 : decode cX7_takeWord 89 = .ok (.return_, 1) := by decide +kernel
theorem dX7_takeNumber_0 : decode cX7_takeNumber 0 = .ok (.aload_n 0, 1) := by decide +kernel
theorem dX7_takeNumber_1 : decode cX7_takeNumber 1 = .ok (.iconst 0, 1) := by decide +kernel
theorem dX7_takeNumber_2 : decode cX7_takeNumber 2 = .ok (.putfield 48, 3) := by decide +kernel
theorem dX7_takeNumber_5 : decode cX7_takeNumber 5 = .ok (.aload_n 0, 1) := by decide +kernel
theorem dX7_takeNumber_6 : decode cX7_takeNumber 6 = .ok (.getfield 19, 3) := by decide +kernel
theorem dX7_takeNumber_9 : decode cX7_takeNumber 9 = .ok (.aload_n 0, 1) := by decide +kernel
theorem dX7_takeNumber_10 : decode cX7_takeNumber 10 = .ok (.getfield 15, 3) := by decide +kernel
theorem dX7_takeNumber_13 : decode cX7_takeNumber 13 = .ok (.if_icmp .ge 55, 3) := by decide +kernel
theorem dX7_takeNumber_16 : decode cX7_takeNumber 16 = .ok (.aload_n 0, 1) := by decide +kernel
theorem dX7_takeNumber_17 : decode cX7_takeNumber 17 = .ok (.getfield 9, 3) := by decide +kernel
theorem dX7_takeNumber_20 : decode cX7_takeNumber 20 = .ok (.aload_n 0, 1) := by decide +kernel
theorem dX7_takeNumber_21 : decode cX7_takeNumber 21 = .ok (.getfield 19, 3) := by decide +kernel
theorem dX7_takeNumber_24 : decode cX7_takeNumber 24 = .ok (.baload, 1) := by decide +kernel
theorem dX7_takeNumber_25 : decode cX7_takeNumber 25 = .ok (.invokestatic 38, 3) := by decide +kernel
theorem dX7_takeNumber_28 : decode cX7_takeNumber 28 = .ok (.ifCond .eq 40, 3) := by decide +kernel
theorem dX7_takeNumber_31 : decode cX7_takeNumber 31 = .ok (.aload_n 0, 1) := by decide +kernel
theorem dX7_takeNumber_32 : decode cX7_takeNumber 32 = .ok (.aload_n 0, 1) := by decide +kernel
theorem dX7_takeNumber_33 : decode cX7_takeNumber 33 = .ok (.getfield 48, 3) := by decide +kernel
theorem dX7_takeNumber_36 : decode cX7_takeNumber 36 = .ok (.bipush 10, 2) := by decide +kernel
theorem dX7_takeNumber_38 : decode cX7_takeNumber 38 = .ok (.imul, 1) := by decide +kernel
theorem dX7_takeNumber_39 : decode cX7_takeNumber 39 = .ok (.aload_n 0, 1) := by decide +kernel
theorem dX7_takeNumber_40 : decode cX7_takeNumber 40 = .ok (.getfield 9, 3) := by decide +kernel
theorem dX7_takeNumber_43 : decode cX7_takeNumber 43 = .ok (.aload_n 0, 1) := by decide +kernel
theorem dX7_takeNumber_44 : decode cX7_takeNumber 44 = .ok (.getfield 19, 3) := by decide +kernel
theorem dX7_takeNumber_47 : decode cX7_takeNumber 47 = .ok (.baload, 1) := by decide +kernel
theorem dX7_takeNumber_48 : decode cX7_takeNumber 48 = .ok (.bipush 48, 2) := by decide +kernel
theorem dX7_takeNumber_50 : decode cX7_takeNumber 50 = .ok (.isub, 1) := by decide +kernel
theorem dX7_takeNumber_51 : decode cX7_takeNumber 51 = .ok (.iadd, 1) := by decide +kernel
theorem dX7_takeNumber_52 : decode cX7_takeNumber 52 = .ok (.putfield 48, 3) := by decide +kernel
theorem dX7_takeNumber_55 : decode cX7_takeNumber 55 = .ok (.aload_n 0, 1) := by decide +kernel
theorem dX7_takeNumber_56 : decode cX7_takeNumber 56 = .ok (.dup, 1) := by decide +kernel
theorem dX7_takeNumber_57 : decode cX7_takeNumber 57 = .ok (.getfield 19, 3) := by decide +kernel
theorem dX7_takeNumber_60 : decode cX7_takeNumber 60 = .ok (.iconst 1, 1) := by decide +kernel
theorem dX7_takeNumber_61 : decode cX7_takeNumber 61 = .ok (.iadd, 1) := by decide +kernel
theorem dX7_takeNumber_62 : decode cX7_takeNumber 62 = .ok (.putfield 19, 3) := by decide +kernel
theorem dX7_takeNumber_65 : decode cX7_takeNumber 65 = .ok (.goto (-60), 3) := by decide +kernel
theorem dX7_takeNumber_68 : decode cX7_takeNumber 68 = .ok (.aload_n 0, 1) := by decide +kernel
theorem dX7_takeNumber_69 : decode cX7_takeNumber 69 = .ok (.aload_n 0, 1) := by decide +kernel
theorem dX7_takeNumber_70 : decode cX7_takeNumber 70 = .ok (.getfield 19, 3) := by decide +kernel
theorem dX7_takeNumber_73 : decode cX7_takeNumber 73 = .ok (.aload_n 0, 1) := by decide +kernel
theorem dX7_takeNumber_74 : decode cX7_takeNumber 74 = .ok (.getfield 25, 3) := by decide +kernel
theorem dX7_takeNumber_77 : decode cX7_takeNumber 77 = .ok (.isub, 1) := by decide +kernel
theorem dX7_takeNumber_78 : decode cX7_takeNumber 78 = .ok (.iconst 4, 1) := by decide +kernel
theorem dX7_takeNumber_79 : decode cX7_takeNumber 79 = .ok (.if_icmp .gt 7, 3) := by decide +kernel
theorem dX7_takeNumber_82 : decode cX7_takeNumber 82 = .ok (.iconst 2, 1) := by decide +kernel
theorem dX7_takeNumber_83 : decode cX7_takeNumber 83 = .ok (.goto 4, 3) := by decide +kernel
theorem dX7_takeNumber_86 : decode cX7_takeNumber 86 = .ok (.iconst 4, 1) := by decide +kernel
theorem dX7_takeNumber_87 : decode cX7_takeNumber 87 = .ok (.putfield 28, 3) := by decide +kernel
theorem dX7_takeNumber_90 : decode cX7_takeNumber 90 = .ok (.return_, 1) := by decide +kernel
theorem dX7_isLetter_0 : decode cX7_isLetter 0 = .ok (.iload_n 0, 1) := by decide +kernel
theorem dX7_isLetter_1 : decode cX7_isLetter 1 = .ok (.bipush 97, 2) := by decide +kernel
theorem dX7_isLetter_3 : decode cX7_isLetter 3 = .ok (.if_icmp .lt 13, 3) := by decide +kernel
theorem dX7_isLetter_6 : decode cX7_isLetter 6 = .ok (.iload_n 0, 1) := by decide +kernel
theorem dX7_isLetter_7 : decode cX7_isLetter 7 = .ok (.bipush 122, 2) := by decide +kernel
theorem dX7_isLetter_9 : decode cX7_isLetter 9 = .ok (.if_icmp .gt 7, 3) := by decide +kernel
theorem dX7_isLetter_12 : decode cX7_isLetter 12 = .ok (.iconst 1, 1) := by decide +kernel
theorem dX7_isLetter_13 : decode cX7_isLetter 13 = .ok (.goto 4, 3) := by decide +kernel
theorem dX7_isLetter_16 : decode cX7_isLetter 16 = .ok (.iconst 0, 1) := by decide +kernel
theorem dX7_isLetter_17 : decode cX7_isLetter 17 = .ok (.ireturn, 1) := by decide +kernel
theorem dX7_isDigit_0 : decode cX7_isDigit 0 = .ok (.iload_n 0, 1) := by decide +kernel
theorem dX7_isDigit_1 : decode cX7_isDigit 1 = .ok (.bipush 48, 2) := by decide +kernel
theorem dX7_isDigit_3 : decode cX7_isDigit 3 = .ok (.if_icmp .lt 13, 3) := by decide +kernel
theorem dX7_isDigit_6 : decode cX7_isDigit 6 = .ok (.iload_n 0, 1) := by decide +kernel
theorem dX7_isDigit_7 : decode cX7_isDigit 7 = .ok (.bipush 57, 2) := by decide +kernel
theorem dX7_isDigit_9 : decode cX7_isDigit 9 = .ok (.if_icmp .gt 7, 3) := by decide +kernel
theorem dX7_isDigit_12 : decode cX7_isDigit 12 = .ok (.iconst 1, 1) := by decide +kernel
theorem dX7_isDigit_13 : decode cX7_isDigit 13 = .ok (.goto 4, 3) := by decide +kernel
theorem dX7_isDigit_16 : decode cX7_isDigit 16 = .ok (.iconst 0, 1) := by decide +kernel
theorem dX7_isDigit_17 : decode cX7_isDigit 17 = .ok (.ireturn, 1) := by decide +kernel
theorem dX8_init_0 : decode cX8_init 0 = .ok (.aload_n 0, 1) := by decide +kernel
theorem dX8_init_1 : decode cX8_init 1 = .ok (.invokespecial 3, 3) := by decide +kernel
theorem dX8_init_4 : decode cX8_init 4 = .ok (.aload_n 0, 1) := by decide +kernel
theorem dX8_init_5 : decode cX8_init 5 = .ok (.bipush 12, 2) := by decide +kernel
theorem dX8_init_7 : decode cX8_init 7 = .ok (.newarray .int, 2) := by decide +kernel
theorem dX8_init_9 : decode cX8_init 9 = .ok (.putfield 9, 3) := by decide +kernel
theorem dX8_init_12 : decode cX8_init 12 = .ok (.aload_n 0, 1) := by decide +kernel
theorem dX8_init_13 : decode cX8_init 13 = .ok (.bipush 12, 2) := by decide +kernel
theorem dX8_init_15 : decode cX8_init 15 = .ok (.newarray .int, 2) := by decide +kernel
theorem dX8_init_17 : decode cX8_init 17 = .ok (.putfield 15, 3) := by decide +kernel
theorem dX8_init_20 : decode cX8_init 20 = .ok (.aload_n 0, 1) := by decide +kernel
theorem dX8_init_21 : decode cX8_init 21 = .ok (.bipush 12, 2) := by decide +kernel
theorem dX8_init_23 : decode cX8_init 23 = .ok (.newarray .int, 2) := by decide +kernel
theorem dX8_init_25 : decode cX8_init 25 = .ok (.putfield 18, 3) := by decide +kernel
theorem dX8_init_28 : decode cX8_init 28 = .ok (.aload_n 0, 1) := by decide +kernel
theorem dX8_init_29 : decode cX8_init 29 = .ok (.bipush 12, 2) := by decide +kernel
theorem dX8_init_31 : decode cX8_init 31 = .ok (.newarray .int, 2) := by decide +kernel
theorem dX8_init_33 : decode cX8_init 33 = .ok (.putfield 21, 3) := by decide +kernel
theorem dX8_init_36 : decode cX8_init 36 = .ok (.aload_n 0, 1) := by decide +kernel
theorem dX8_init_37 : decode cX8_init 37 = .ok (.bipush 12, 2) := by decide +kernel
theorem dX8_init_39 : decode cX8_init 39 = .ok (.newarray .int, 2) := by decide +kernel
theorem dX8_init_41 : decode cX8_init 41 = .ok (.putfield 24, 3) := by decide +kernel
theorem dX8_init_44 : decode cX8_init 44 = .ok (.aload_n 0, 1) := by decide +kernel
theorem dX8_init_45 : decode cX8_init 45 = .ok (.bipush 12, 2) := by decide +kernel
theorem dX8_init_47 : decode cX8_init 47 = .ok (.newarray .int, 2) := by decide +kernel
theorem dX8_init_49 : decode cX8_init 49 = .ok (.putfield 27, 3) := by decide +kernel
theorem dX8_init_52 : decode cX8_init 52 = .ok (.aload_n 0, 1) := by decide +kernel
theorem dX8_init_53 : decode cX8_init 53 = .ok (.bipush 12, 2) := by decide +kernel
theorem dX8_init_55 : decode cX8_init 55 = .ok (.newarray .int, 2) := by decide +kernel
theorem dX8_init_57 : decode cX8_init 57 = .ok (.putfield 30, 3) := by decide +kernel
theorem dX8_init_60 : decode cX8_init 60 = .ok (.aload_n 0, 1) := by decide +kernel
theorem dX8_init_61 : decode cX8_init 61 = .ok (.bipush 12, 2) := by decide +kernel
theorem dX8_init_63 : decode cX8_init 63 = .ok (.newarray .int, 2) := by decide +kernel
theorem dX8_init_65 : decode cX8_init 65 = .ok (.putfield 33, 3) := by decide +kernel
theorem dX8_init_68 : decode cX8_init 68 = .ok (.aload_n 0, 1) := by decide +kernel
theorem dX8_init_69 : decode cX8_init 69 = .ok (.iconst 4, 1) := by decide +kernel
theorem dX8_init_70 : decode cX8_init 70 = .ok (.newarray .int, 2) := by decide +kernel
theorem dX8_init_72 : decode cX8_init 72 = .ok (.putfield 36, 3) := by decide +kernel
theorem dX8_init_75 : decode cX8_init 75 = .ok (.aload_n 0, 1) := by decide +kernel
theorem dX8_init_76 : decode cX8_init 76 = .ok (.iconst 4, 1) := by decide +kernel
theorem dX8_init_77 : decode cX8_init 77 = .ok (.newarray .int, 2) := by decide +kernel
theorem dX8_init_79 : decode cX8_init 79 = .ok (.putfield 39, 3) := by decide +kernel
theorem dX8_init_82 : decode cX8_init 82 = .ok (.return_, 1) := by decide +kernel
theorem dX8_empty_0 : decode cX8_empty 0 = .ok (.aload_n 0, 1) := by decide +kernel
theorem dX8_empty_1 : decode cX8_empty 1 = .ok (.iconst 0, 1) := by decide +kernel
theorem dX8_empty_2 : decode cX8_empty 2 = .ok (.putfield 42, 3) := by decide +kernel
theorem dX8_empty_5 : decode cX8_empty 5 = .ok (.aload_n 0, 1) := by decide +kernel
theorem dX8_empty_6 : decode cX8_empty 6 = .ok (.iconst 0, 1) := by decide +kernel
theorem dX8_empty_7 : decode cX8_empty 7 = .ok (.putfield 46, 3) := by decide +kernel
theorem dX8_empty_10 : decode cX8_empty 10 = .ok (.aload_n 0, 1) := by decide +kernel
theorem dX8_empty_11 : decode cX8_empty 11 = .ok (.iconst 0, 1) := by decide +kernel
theorem dX8_empty_12 : decode cX8_empty 12 = .ok (.putfield 49, 3) := by decide +kernel
theorem dX8_empty_15 : decode cX8_empty 15 = .ok (.aload_n 0, 1) := by decide +kernel
theorem dX8_empty_16 : decode cX8_empty 16 = .ok (.iconst 0, 1) := by decide +kernel
theorem dX8_empty_17 : decode cX8_empty 17 = .ok (.putfield 52, 3) := by decide +kernel
theorem dX8_empty_20 : decode cX8_empty 20 = .ok (.aload_n 0, 1) := by decide +kernel
theorem dX8_empty_21 : decode cX8_empty 21 = .ok (.iconst 0, 1) := by decide +kernel
theorem dX8_empty_22 : decode cX8_empty 22 = .ok (.putfield 55, 3) := by decide +kernel
theorem dX8_empty_25 : decode cX8_empty 25 = .ok (.aload_n 0, 1) := by decide +kernel
theorem dX8_empty_26 : decode cX8_empty 26 = .ok (.iconst 0, 1) := by decide +kernel
theorem dX8_empty_27 : decode cX8_empty 27 = .ok (.putfield 58, 3) := by decide +kernel
theorem dX8_empty_30 : decode cX8_empty 30 = .ok (.return_, 1) := by decide +kernel
theorem dX8_copyFrom_0 : decode cX8_copyFrom 0 = .ok (.aload_n 0, 1) := by decide +kernel
theorem dX8_copyFrom_1 : decode cX8_copyFrom 1 = .ok (.aload_n 1, 1) := by decide +kernel
theorem dX8_copyFrom_2 : decode cX8_copyFrom 2 = .ok (.getfield 42, 3) := by decide +kernel
theorem dX8_copyFrom_5 : decode cX8_copyFrom 5 = .ok (.putfield 42, 3) := by decide +kernel
theorem dX8_copyFrom_8 : decode cX8_copyFrom 8 = .ok (.aload_n 1, 1) := by decide +kernel
theorem dX8_copyFrom_9 : decode cX8_copyFrom 9 = .ok (.getfield 9, 3) := by decide +kernel
theorem dX8_copyFrom_12 : decode cX8_copyFrom 12 = .ok (.iconst 0, 1) := by decide +kernel
theorem dX8_copyFrom_13 : decode cX8_copyFrom 13 = .ok (.aload_n 0, 1) := by decide +kernel
theorem dX8_copyFrom_14 : decode cX8_copyFrom 14 = .ok (.getfield 9, 3) := by decide +kernel
theorem dX8_copyFrom_17 : decode cX8_copyFrom 17 = .ok (.iconst 0, 1) := by decide +kernel
theorem dX8_copyFrom_18 : decode cX8_copyFrom 18 = .ok (.bipush 12, 2) := by decide +kernel
theorem dX8_copyFrom_20 : decode cX8_copyFrom 20 = .ok (.invokestatic 62, 3) := by decide +kernel
theorem dX8_copyFrom_23 : decode cX8_copyFrom 23 = .ok (.aload_n 1, 1) := by decide +kernel
theorem dX8_copyFrom_24 : decode cX8_copyFrom 24 = .ok (.getfield 15, 3) := by decide +kernel
theorem dX8_copyFrom_27 : decode cX8_copyFrom 27 = .ok (.iconst 0, 1) := by decide +kernel
theorem dX8_copyFrom_28 : decode cX8_copyFrom 28 = .ok (.aload_n 0, 1) := by decide +kernel
theorem dX8_copyFrom_29 : decode cX8_copyFrom 29 = .ok (.getfield 15, 3) := by decide +kernel
theorem dX8_copyFrom_32 : decode cX8_copyFrom 32 = .ok (.iconst 0, 1) := by decide +kernel
theorem dX8_copyFrom_33 : decode cX8_copyFrom 33 = .ok (.bipush 12, 2) := by decide +kernel
theorem dX8_copyFrom_35 : decode cX8_copyFrom 35 = .ok (.invokestatic 62, 3) := by decide +kernel
theorem dX8_copyFrom_38 : decode cX8_copyFrom 38 = .ok (.aload_n 1, 1) := by decide +kernel
theorem dX8_copyFrom_39 : decode cX8_copyFrom 39 = .ok (.getfield 18, 3) := by decide +kernel
theorem dX8_copyFrom_42 : decode cX8_copyFrom 42 = .ok (.iconst 0, 1) := by decide +kernel
theorem dX8_copyFrom_43 : decode cX8_copyFrom 43 = .ok (.aload_n 0, 1) := by decide +kernel
theorem dX8_copyFrom_44 : decode cX8_copyFrom 44 = .ok (.getfield 18, 3) := by decide +kernel
theorem dX8_copyFrom_47 : decode cX8_copyFrom 47 = .ok (.iconst 0, 1) := by decide +kernel
theorem dX8_copyFrom_48 : decode cX8_copyFrom 48 = .ok (.bipush 12, 2) := by decide +kernel
theorem dX8_copyFrom_50 : decode cX8_copyFrom 50 = .ok (.invokestatic 62, 3) := by decide +kernel
theorem dX8_copyFrom_53 : decode cX8_copyFrom 53 = .ok (.aload_n 1, 1) := by decide +kernel
theorem dX8_copyFrom_54 : decode cX8_copyFrom 54 = .ok (.getfield 21, 3) := by decide +kernel
theorem dX8_copyFrom_57 : decode cX8_copyFrom 57 = .ok (.iconst 0, 1) := by decide +kernel
theorem dX8_copyFrom_58 : decode cX8_copyFrom 58 = .ok (.aload_n 0, 1) := by decide +kernel
theorem dX8_copyFrom_59 : decode cX8_copyFrom 59 = .ok (.getfield 21, 3) := by decide +kernel
theorem dX8_copyFrom_62 : decode cX8_copyFrom 62 = .ok (.iconst 0, 1) := by decide +kernel
theorem dX8_copyFrom_63 : decode cX8_copyFrom 63 = .ok (.bipush 12, 2) := by decide +kernel
theorem dX8_copyFrom_65 : decode cX8_copyFrom 65 = .ok (.invokestatic 62, 3) := by decide +kernel
theorem dX8_copyFrom_68 : decode cX8_copyFrom 68 = .ok (.aload_n 1, 1) := by decide +kernel
theorem dX8_copyFrom_69 : decode cX8_copyFrom 69 = .ok (.getfield 24, 3) := by decide +kernel
theorem dX8_copyFrom_72 : decode cX8_copyFrom 72 = .ok (.iconst 0, 1) := by decide +kernel
theorem dX8_copyFrom_73 : decode cX8_copyFrom 73 = .ok (.aload_n 0, 1) := by decide +kernel
theorem dX8_copyFrom_74 : decode cX8_copyFrom 74 = .ok (.getfield 24, 3) := by decide +kernel
theorem dX8_copyFrom_77 : decode cX8_copyFrom 77 = .ok (.iconst 0, 1) := by decide +kernel
theorem dX8_copyFrom_78 : decode cX8_copyFrom 78 = .ok (.bipush 12, 2) := by decide +kernel
theorem dX8_copyFrom_80 : decode cX8_copyFrom 80 = .ok (.invokestatic 62, 3) := by decide +kernel
theorem dX8_copyFrom_83 : decode cX8_copyFrom 83 = .ok (.aload_n 0, 1) := by decide +kernel
theorem dX8_copyFrom_84 : decode cX8_copyFrom 84 = .ok (.aload_n 1, 1) := by decide +kernel
theorem dX8_copyFrom_85 : decode cX8_copyFrom 85 = .ok (.getfield 46, 3) := by decide +kernel
theorem dX8_copyFrom_88 : decode cX8_copyFrom 88 = .ok (.putfield 46, 3) := by decide +kernel
theorem dX8_copyFrom_91 : decode cX8_copyFrom 91 = .ok (.aload_n 0, 1) := by decide +kernel
theorem dX8_copyFrom_92 : decode cX8_copyFrom 92 = .ok (.aload_n 1, 1) := by decide +kernel
theorem dX8_copyFrom_93 : decode cX8_copyFrom 93 = .ok (.getfield 49, 3) := by decide +kernel
theorem dX8_copyFrom_96 : decode cX8_copyFrom 96 = .ok (.putfield 49, 3) := by decide +kernel
theorem dX8_copyFrom_99 : decode cX8_copyFrom 99 = .ok (.aload_n 1, 1) := by decide +kernel
theorem dX8_copyFrom_100 : decode cX8_copyFrom 100 = .ok (.getfield 27, 3) := by decide +kernel
theorem dX8_copyFrom_103 : decode cX8_copyFrom 103 = .ok (.iconst 0, 1) := by decide +kernel
theorem dX8_copyFrom_104 : decode cX8_copyFrom 104 = .ok (.aload_n 0, 1) := by decide +kernel
theorem dX8_copyFrom_105 : decode cX8_copyFrom 105 = .ok (.getfield 27, 3) := by decide +kernel
theorem dX8_copyFrom_108 : decode cX8_copyFrom 108 = .ok (.iconst 0, 1) := by decide +kernel
theorem dX8_copyFrom_109 : decode cX8_copyFrom 109 = .ok (.bipush 12, 2) := by decide +kernel
theorem dX8_copyFrom_111 : decode cX8_copyFrom 111 = .ok (.invokestatic 62, 3) := by decide +kernel
theorem dX8_copyFrom_114 : decode cX8_copyFrom 114 = .ok (.aload_n 1, 1) := by decide +kernel
theorem dX8_copyFrom_115 : decode cX8_copyFrom 115 = .ok (.getfield 30, 3) := by decide +kernel
theorem dX8_copyFrom_118 : decode cX8_copyFrom 118 = .ok (.iconst 0, 1) := by decide +kernel
theorem dX8_copyFrom_119 : decode cX8_copyFrom 119 = .ok (.aload_n 0, 1) := by decide +kernel
theorem dX8_copyFrom_120 : decode cX8_copyFrom 120 = .ok (.getfield 30, 3) := by decide +kernel
theorem dX8_copyFrom_123 : decode cX8_copyFrom 123 = .ok (.iconst 0, 1) := by decide +kernel
theorem dX8_copyFrom_124 : decode cX8_copyFrom 124 = .ok (.bipush 12, 2) := by decide +kernel
theorem dX8_copyFrom_126 : decode cX8_copyFrom 126 = .ok (.invokestatic 62, 3) := by decide +kernel
theorem dX8_copyFrom_129 : decode cX8_copyFrom 129 = .ok (.aload_n 1, 1) := by decide +kernel
theorem dX8_copyFrom_130 : decode cX8_copyFrom 130 = .ok (.getfield 33, 3) := by decide +kernel
theorem dX8_copyFrom_133 : decode cX8_copyFrom 133 = .ok (.iconst 0, 1) := by decide +kernel
theorem dX8_copyFrom_134 : decode cX8_copyFrom 134 = .ok (.aload_n 0, 1) := by decide +kernel
theorem dX8_copyFrom_135 : decode cX8_copyFrom 135 = .ok (.getfield 33, 3) := by decide +kernel
theorem dX8_copyFrom_138 : decode cX8_copyFrom 138 = .ok (.iconst 0, 1) := by decide +kernel
theorem dX8_copyFrom_139 : decode cX8_copyFrom 139 = .ok (.bipush 12, 2) := by decide +kernel
theorem dX8_copyFrom_141 : decode cX8_copyFrom 141 = .ok (.invokestatic 62, 3) := by decide +kernel
theorem dX8_copyFrom_144 : decode cX8_copyFrom 144 = .ok (.aload_n 0, 1) := by decide +kernel
theorem dX8_copyFrom_145 : decode cX8_copyFrom 145 = .ok (.aload_n 1, 1) := by decide +kernel
theorem dX8_copyFrom_146 : decode cX8_copyFrom 146 = .ok (.getfield 52, 3) := by decide +kernel
theorem dX8_copyFrom_149 : decode cX8_copyFrom 149 = .ok (.putfield 52, 3) := by decide +kernel
theorem dX8_copyFrom_152 : decode cX8_copyFrom 152 = .ok (.aload_n 1, 1) := by decide +kernel
theorem dX8_copyFrom_153 : decode cX8_copyFrom 153 = .ok (.getfield 36, 3) := by decide +kernel
theorem dX8_copyFrom_156 : decode cX8_copyFrom 156 = .ok (.iconst 0, 1) := by decide +kernel
theorem dX8_copyFrom_157 : decode cX8_copyFrom 157 = .ok (.aload_n 0, 1) := by decide +kernel
theorem dX8_copyFrom_158 : decode cX8_copyFrom 158 = .ok (.getfield 36, 3) := by decide +kernel
theorem dX8_copyFrom_161 : decode cX8_copyFrom 161 = .ok (.iconst 0, 1) := by decide +kernel
theorem dX8_copyFrom_162 : decode cX8_copyFrom 162 = .ok (.iconst 4, 1) := by decide +kernel
theorem dX8_copyFrom_163 : decode cX8_copyFrom 163 = .ok (.invokestatic 62, 3) := by decide +kernel
theorem dX8_copyFrom_166 : decode cX8_copyFrom 166 = .ok (.aload_n 1, 1) := by decide +kernel
theorem dX8_copyFrom_167 : decode cX8_copyFrom 167 = .ok (.getfield 39, 3) := by decide +kernel
theorem dX8_copyFrom_170 : decode cX8_copyFrom 170 = .ok (.iconst 0, 1) := by decide +kernel
theorem dX8_copyFrom_171 : decode cX8_copyFrom 171 = .ok (.aload_n 0, 1) := by decide +kernel
theorem dX8_copyFrom_172 : decode cX8_copyFrom 172 = .ok (.getfield 39, 3) := by decide +kernel
theorem dX8_copyFrom_175 : decode cX8_copyFrom 175 = .ok (.iconst 0, 1) := by decide +kernel
theorem dX8_copyFrom_176 : decode cX8_copyFrom 176 = .ok (.iconst 4, 1) := by decide +kernel
theorem dX8_copyFrom_177 : decode cX8_copyFrom 177 = .ok (.invokestatic 62, 3) := by decide +kernel
theorem dX8_copyFrom_180 : decode cX8_copyFrom 180 = .ok (.aload_n 0, 1) := by decide +kernel
theorem dX8_copyFrom_181 : decode cX8_copyFrom 181 = .ok (.aload_n 1, 1) := by decide +kernel
theorem dX8_copyFrom_182 : decode cX8_copyFrom 182 = .ok (.getfield 55, 3) := by decide +kernel
theorem dX8_copyFrom_185 : decode cX8_copyFrom 185 = .ok (.putfield 55, 3) := by decide +kernel
theorem dX8_copyFrom_188 : decode cX8_copyFrom 188 = .ok (.aload_n 0, 1) := by decide +kernel
theorem dX8_copyFrom_189 : decode cX8_copyFrom 189 = .ok (.aload_n 1, 1) := by decide +kernel
theorem dX8_copyFrom_190 : decode cX8_copyFrom 190 = .ok (.getfield 58, 3) := by decide +kernel
theorem dX8_copyFrom_193 : decode cX8_copyFrom 193 = .ok (.putfield 58, 3) := by decide +kernel
theorem dX8_copyFrom_196 : decode cX8_copyFrom 196 = .ok (.return_, 1) := by decide +kernel
theorem dX8_addPerson_0 : decode cX8_addPerson 0 = .ok (.aload_n 0, 1) := by decide +kernel
theorem dX8_addPerson_1 : decode cX8_addPerson 1 = .ok (.getfield 42, 3) := by decide +kernel
theorem dX8_addPerson_4 : decode cX8_addPerson 4 = .ok (.bipush 12, 2) := by decide +kernel
theorem dX8_addPerson_6 : decode cX8_addPerson 6 = .ok (.if_icmp .ge 63, 3) := by decide +kernel
theorem dX8_addPerson_9 : decode cX8_addPerson 9 = .ok (.aload_n 0, 1) := by decide +kernel
theorem dX8_addPerson_10 : decode cX8_addPerson 10 = .ok (.getfield 9, 3) := by decide +kernel
theorem dX8_addPerson_13 : decode cX8_addPerson 13 = .ok (.aload_n 0, 1) := by decide +kernel
theorem dX8_addPerson_14 : decode cX8_addPerson 14 = .ok (.getfield 42, 3) := by decide +kernel
theorem dX8_addPerson_17 : decode cX8_addPerson 17 = .ok (.iload_n 1, 1) := by decide +kernel
theorem dX8_addPerson_18 : decode cX8_addPerson 18 = .ok (.iastore, 1) := by decide +kernel
theorem dX8_addPerson_19 : decode cX8_addPerson 19 = .ok (.aload_n 0, 1) := by decide +kernel
theorem dX8_addPerson_20 : decode cX8_addPerson 20 = .ok (.getfield 15, 3) := by decide +kernel
theorem dX8_addPerson_23 : decode cX8_addPerson 23 = .ok (.aload_n 0, 1) := by decide +kernel
theorem dX8_addPerson_24 : decode cX8_addPerson 24 = .ok (.getfield 42, 3) := by decide +kernel
theorem dX8_addPerson_27 : decode cX8_addPerson 27 = .ok (.iconst (-1), 1) := by decide +kernel
theorem dX8_addPerson_28 : decode cX8_addPerson 28 = .ok (.iastore, 1) := by decide +kernel
theorem dX8_addPerson_29 : decode cX8_addPerson 29 = .ok (.aload_n 0, 1) := by decide +kernel
theorem dX8_addPerson_30 : decode cX8_addPerson 30 = .ok (.getfield 18, 3) := by decide +kernel
theorem dX8_addPerson_33 : decode cX8_addPerson 33 = .ok (.aload_n 0, 1) := by decide +kernel
theorem dX8_addPerson_34 : decode cX8_addPerson 34 = .ok (.getfield 42, 3) := by decide +kernel
theorem dX8_addPerson_37 : decode cX8_addPerson 37 = .ok (.iconst 0, 1) := by decide +kernel
theorem dX8_addPerson_38 : decode cX8_addPerson 38 = .ok (.iastore, 1) := by decide +kernel
theorem dX8_addPerson_39 : decode cX8_addPerson 39 = .ok (.aload_n 0, 1) := by decide +kernel
theorem dX8_addPerson_40 : decode cX8_addPerson 40 = .ok (.getfield 21, 3) := by decide +kernel
theorem dX8_addPerson_43 : decode cX8_addPerson 43 = .ok (.aload_n 0, 1) := by decide +kernel
theorem dX8_addPerson_44 : decode cX8_addPerson 44 = .ok (.getfield 42, 3) := by decide +kernel
theorem dX8_addPerson_47 : decode cX8_addPerson 47 = .ok (.iconst 0, 1) := by decide +kernel
theorem dX8_addPerson_48 : decode cX8_addPerson 48 = .ok (.iastore, 1) := by decide +kernel
theorem dX8_addPerson_49 : decode cX8_addPerson 49 = .ok (.aload_n 0, 1) := by decide +kernel
theorem dX8_addPerson_50 : decode cX8_addPerson 50 = .ok (.getfield 24, 3) := by decide +kernel
theorem dX8_addPerson_53 : decode cX8_addPerson 53 = .ok (.aload_n 0, 1) := by decide +kernel
theorem dX8_addPerson_54 : decode cX8_addPerson 54 = .ok (.getfield 42, 3) := by decide +kernel
theorem dX8_addPerson_57 : decode cX8_addPerson 57 = .ok (.iconst 0, 1) := by decide +kernel
theorem dX8_addPerson_58 : decode cX8_addPerson 58 = .ok (.iastore, 1) := by decide +kernel
theorem dX8_addPerson_59 : decode cX8_addPerson 59 = .ok (.aload_n 0, 1) := by decide +kernel
theorem dX8_addPerson_60 : decode cX8_addPerson 60 = .ok (.dup, 1) := by decide +kernel
theorem dX8_addPerson_61 : decode cX8_addPerson 61 = .ok (.getfield 42, 3) := by decide +kernel
theorem dX8_addPerson_64 : decode cX8_addPerson 64 = .ok (.iconst 1, 1) := by decide +kernel
theorem dX8_addPerson_65 : decode cX8_addPerson 65 = .ok (.iadd, 1) := by decide +kernel
theorem dX8_addPerson_66 : decode cX8_addPerson 66 = .ok (.putfield 42, 3) := by decide +kernel
theorem dX8_addPerson_69 : decode cX8_addPerson 69 = .ok (.return_, 1) := by decide +kernel
theorem dX8_addCall_0 : decode cX8_addCall 0 = .ok (.aload_n 0, 1) := by decide +kernel
theorem dX8_addCall_1 : decode cX8_addCall 1 = .ok (.getfield 21, 3) := by decide +kernel
theorem dX8_addCall_4 : decode cX8_addCall 4 = .ok (.iload_n 2, 1) := by decide +kernel
theorem dX8_addCall_5 : decode cX8_addCall 5 = .ok (.dup2, 1) := by decide +kernel
theorem dX8_addCall_6 : decode cX8_addCall 6 = .ok (.iaload, 1) := by decide +kernel
theorem dX8_addCall_7 : decode cX8_addCall 7 = .ok (.iconst 1, 1) := by decide +kernel
theorem dX8_addCall_8 : decode cX8_addCall 8 = .ok (.iload_n 1, 1) := by decide +kernel
theorem dX8_addCall_9 : decode cX8_addCall 9 = .ok (.ishl, 1) := by decide +kernel
theorem dX8_addCall_10 : decode cX8_addCall 10 = .ok (.ior, 1) := by decide +kernel
theorem dX8_addCall_11 : decode cX8_addCall 11 = .ok (.iastore, 1) := by decide +kernel
theorem dX8_addCall_12 : decode cX8_addCall 12 = .ok (.aload_n 0, 1) := by decide +kernel
theorem dX8_addCall_13 : decode cX8_addCall 13 = .ok (.getfield 24, 3) := by decide +kernel
theorem dX8_addCall_16 : decode cX8_addCall 16 = .ok (.iload_n 1, 1) := by decide +kernel
theorem dX8_addCall_17 : decode cX8_addCall 17 = .ok (.dup2, 1) := by decide +kernel
theorem dX8_addCall_18 : decode cX8_addCall 18 = .ok (.iaload, 1) := by decide +kernel
theorem dX8_addCall_19 : decode cX8_addCall 19 = .ok (.iconst 1, 1) := by decide +kernel
theorem dX8_addCall_20 : decode cX8_addCall 20 = .ok (.iload_n 2, 1) := by decide +kernel
theorem dX8_addCall_21 : decode cX8_addCall 21 = .ok (.ishl, 1) := by decide +kernel
theorem dX8_addCall_22 : decode cX8_addCall 22 = .ok (.ior, 1) := by decide +kernel
theorem dX8_addCall_23 : decode cX8_addCall 23 = .ok (.iastore, 1) := by decide +kernel
theorem dX8_addCall_24 : decode cX8_addCall 24 = .ok (.aload_n 0, 1) := by decide +kernel
theorem dX8_addCall_25 : decode cX8_addCall 25 = .ok (.dup, 1) := by decide +kernel
theorem dX8_addCall_26 : decode cX8_addCall 26 = .ok (.getfield 46, 3) := by decide +kernel
theorem dX8_addCall_29 : decode cX8_addCall 29 = .ok (.iconst 1, 1) := by decide +kernel
theorem dX8_addCall_30 : decode cX8_addCall 30 = .ok (.iadd, 1) := by decide +kernel
theorem dX8_addCall_31 : decode cX8_addCall 31 = .ok (.putfield 46, 3) := by decide +kernel
theorem dX8_addCall_34 : decode cX8_addCall 34 = .ok (.return_, 1) := by decide +kernel
theorem dX8_addAway_0 : decode cX8_addAway 0 = .ok (.aload_n 0, 1) := by decide +kernel
theorem dX8_addAway_1 : decode cX8_addAway 1 = .ok (.getfield 49, 3) := by decide +kernel
theorem dX8_addAway_4 : decode cX8_addAway 4 = .ok (.bipush 12, 2) := by decide +kernel
theorem dX8_addAway_6 : decode cX8_addAway 6 = .ok (.if_icmp .ge 43, 3) := by decide +kernel
theorem dX8_addAway_9 : decode cX8_addAway 9 = .ok (.aload_n 0, 1) := by decide +kernel
theorem dX8_addAway_10 : decode cX8_addAway 10 = .ok (.getfield 27, 3) := by decide +kernel
theorem dX8_addAway_13 : decode cX8_addAway 13 = .ok (.aload_n 0, 1) := by decide +kernel
theorem dX8_addAway_14 : decode cX8_addAway 14 = .ok (.getfield 49, 3) := by decide +kernel
theorem dX8_addAway_17 : decode cX8_addAway 17 = .ok (.iload_n 1, 1) := by decide +kernel
theorem dX8_addAway_18 : decode cX8_addAway 18 = .ok (.iastore, 1) := by decide +kernel
theorem dX8_addAway_19 : decode cX8_addAway 19 = .ok (.aload_n 0, 1) := by decide +kernel
theorem dX8_addAway_20 : decode cX8_addAway 20 = .ok (.getfield 30, 3) := by decide +kernel
theorem dX8_addAway_23 : decode cX8_addAway 23 = .ok (.aload_n 0, 1) := by decide +kernel
theorem dX8_addAway_24 : decode cX8_addAway 24 = .ok (.getfield 49, 3) := by decide +kernel
theorem dX8_addAway_27 : decode cX8_addAway 27 = .ok (.iload_n 2, 1) := by decide +kernel
theorem dX8_addAway_28 : decode cX8_addAway 28 = .ok (.iastore, 1) := by decide +kernel
theorem dX8_addAway_29 : decode cX8_addAway 29 = .ok (.aload_n 0, 1) := by decide +kernel
theorem dX8_addAway_30 : decode cX8_addAway 30 = .ok (.getfield 33, 3) := by decide +kernel
theorem dX8_addAway_33 : decode cX8_addAway 33 = .ok (.aload_n 0, 1) := by decide +kernel
theorem dX8_addAway_34 : decode cX8_addAway 34 = .ok (.getfield 49, 3) := by decide +kernel
theorem dX8_addAway_37 : decode cX8_addAway 37 = .ok (.iload_n 3, 1) := by decide +kernel
theorem dX8_addAway_38 : decode cX8_addAway 38 = .ok (.iastore, 1) := by decide +kernel
theorem dX8_addAway_39 : decode cX8_addAway 39 = .ok (.aload_n 0, 1) := by decide +kernel
theorem dX8_addAway_40 : decode cX8_addAway 40 = .ok (.dup, 1) := by decide +kernel
theorem dX8_addAway_41 : decode cX8_addAway 41 = .ok (.getfield 49, 3) := by decide +kernel
theorem dX8_addAway_44 : decode cX8_addAway 44 = .ok (.iconst 1, 1) := by decide +kernel
theorem dX8_addAway_45 : decode cX8_addAway 45 = .ok (.iadd, 1) := by decide +kernel
theorem dX8_addAway_46 : decode cX8_addAway 46 = .ok (.putfield 49, 3) := by decide +kernel
theorem dX8_addAway_49 : decode cX8_addAway 49 = .ok (.return_, 1) := by decide +kernel
theorem dX8_addSecret_0 : decode cX8_addSecret 0 = .ok (.aload_n 0, 1) := by decide +kernel
theorem dX8_addSecret_1 : decode cX8_addSecret 1 = .ok (.getfield 52, 3) := by decide +kernel
theorem dX8_addSecret_4 : decode cX8_addSecret 4 = .ok (.iconst 4, 1) := by decide +kernel
theorem dX8_addSecret_5 : decode cX8_addSecret 5 = .ok (.if_icmp .ge 33, 3) := by decide +kernel
theorem dX8_addSecret_8 : decode cX8_addSecret 8 = .ok (.aload_n 0, 1) := by decide +kernel
theorem dX8_addSecret_9 : decode cX8_addSecret 9 = .ok (.getfield 36, 3) := by decide +kernel
theorem dX8_addSecret_12 : decode cX8_addSecret 12 = .ok (.aload_n 0, 1) := by decide +kernel
theorem dX8_addSecret_13 : decode cX8_addSecret 13 = .ok (.getfield 52, 3) := by decide +kernel
theorem dX8_addSecret_16 : decode cX8_addSecret 16 = .ok (.iload_n 1, 1) := by decide +kernel
theorem dX8_addSecret_17 : decode cX8_addSecret 17 = .ok (.iastore, 1) := by decide +kernel
theorem dX8_addSecret_18 : decode cX8_addSecret 18 = .ok (.aload_n 0, 1) := by decide +kernel
theorem dX8_addSecret_19 : decode cX8_addSecret 19 = .ok (.getfield 39, 3) := by decide +kernel
theorem dX8_addSecret_22 : decode cX8_addSecret 22 = .ok (.aload_n 0, 1) := by decide +kernel
theorem dX8_addSecret_23 : decode cX8_addSecret 23 = .ok (.getfield 52, 3) := by decide +kernel
theorem dX8_addSecret_26 : decode cX8_addSecret 26 = .ok (.iload_n 2, 1) := by decide +kernel
theorem dX8_addSecret_27 : decode cX8_addSecret 27 = .ok (.iastore, 1) := by decide +kernel
theorem dX8_addSecret_28 : decode cX8_addSecret 28 = .ok (.aload_n 0, 1) := by decide +kernel
theorem dX8_addSecret_29 : decode cX8_addSecret 29 = .ok (.dup, 1) := by decide +kernel
theorem dX8_addSecret_30 : decode cX8_addSecret 30 = .ok (.getfield 52, 3) := by decide +kernel
theorem dX8_addSecret_33 : decode cX8_addSecret 33 = .ok (.iconst 1, 1) := by decide +kernel
theorem dX8_addSecret_34 : decode cX8_addSecret 34 = .ok (.iadd, 1) := by decide +kernel
theorem dX8_addSecret_35 : decode cX8_addSecret 35 = .ok (.putfield 52, 3) := by decide +kernel
theorem dX8_addSecret_38 : decode cX8_addSecret 38 = .ok (.return_, 1) := by decide +kernel
theorem dX8_everyone_0 : decode cX8_everyone 0 = .ok (.iconst 1, 1) := by decide +kernel
theorem dX8_everyone_1 : decode cX8_everyone 1 = .ok (.aload_n 0, 1) := by decide +kernel
theorem dX8_everyone_2 : decode cX8_everyone 2 = .ok (.getfield 42, 3) := by decide +kernel
theorem dX8_everyone_5 : decode cX8_everyone 5 = .ok (.ishl, 1) := by decide +kernel
theorem dX8_everyone_6 : decode cX8_everyone 6 = .ok (.iconst 1, 1) := by decide +kernel
theorem dX8_everyone_7 : decode cX8_everyone 7 = .ok (.isub, 1) := by decide +kernel
theorem dX8_everyone_8 : decode cX8_everyone 8 = .ok (.ireturn, 1) := by decide +kernel
theorem dX8_hasDay_0 : decode cX8_hasDay 0 = .ok (.iload_n 2, 1) := by decide +kernel
theorem dX8_hasDay_1 : decode cX8_hasDay 1 = .ok (.bipush 59, 2) := by decide +kernel
theorem dX8_hasDay_3 : decode cX8_hasDay 3 = .ok (.if_icmp .ne 13, 3) := by decide +kernel
theorem dX8_hasDay_6 : decode cX8_hasDay 6 = .ok (.iload_n 1, 1) := by decide +kernel
theorem dX8_hasDay_7 : decode cX8_hasDay 7 = .ok (.iconst 4, 1) := by decide +kernel
theorem dX8_hasDay_8 : decode cX8_hasDay 8 = .ok (.irem, 1) := by decide +kernel
theorem dX8_hasDay_9 : decode cX8_hasDay 9 = .ok (.aload_n 0, 1) := by decide +kernel
theorem dX8_hasDay_10 : decode cX8_hasDay 10 = .ok (.getfield 55, 3) := by decide +kernel
theorem dX8_hasDay_13 : decode cX8_hasDay 13 = .ok (.if_icmp .ne 7, 3) := by decide +kernel
theorem dX8_hasDay_16 : decode cX8_hasDay 16 = .ok (.iconst 1, 1) := by decide +kernel
theorem dX8_hasDay_17 : decode cX8_hasDay 17 = .ok (.goto 4, 3) := by decide +kernel
theorem dX8_hasDay_20 : decode cX8_hasDay 20 = .ok (.iconst 0, 1) := by decide +kernel
theorem dX8_hasDay_21 : decode cX8_hasDay 21 = .ok (.ireturn, 1) := by decide +kernel
theorem dX8_isFeast_0 : decode cX8_isFeast 0 = .ok (.aload_n 0, 1) := by decide +kernel
theorem dX8_isFeast_1 : decode cX8_isFeast 1 = .ok (.getfield 9, 3) := by decide +kernel
theorem dX8_isFeast_4 : decode cX8_isFeast 4 = .ok (.iload_n 1, 1) := by decide +kernel
theorem dX8_isFeast_5 : decode cX8_isFeast 5 = .ok (.iaload, 1) := by decide +kernel
theorem dX8_isFeast_6 : decode cX8_isFeast 6 = .ok (.iload_n 2, 1) := by decide +kernel
theorem dX8_isFeast_7 : decode cX8_isFeast 7 = .ok (.if_icmp .eq 20, 3) := by decide +kernel
theorem dX8_isFeast_10 : decode cX8_isFeast 10 = .ok (.aload_n 0, 1) := by decide +kernel
theorem dX8_isFeast_11 : decode cX8_isFeast 11 = .ok (.getfield 58, 3) := by decide +kernel
theorem dX8_isFeast_14 : decode cX8_isFeast 14 = .ok (.ifCond .eq 17, 3) := by decide +kernel
theorem dX8_isFeast_17 : decode cX8_isFeast 17 = .ok (.aload_n 0, 1) := by decide +kernel
theorem dX8_isFeast_18 : decode cX8_isFeast 18 = .ok (.getfield 15, 3) := by decide +kernel
theorem dX8_isFeast_21 : decode cX8_isFeast 21 = .ok (.iload_n 1, 1) := by decide +kernel
theorem dX8_isFeast_22 : decode cX8_isFeast 22 = .ok (.iaload, 1) := by decide +kernel
theorem dX8_isFeast_23 : decode cX8_isFeast 23 = .ok (.iload_n 2, 1) := by decide +kernel
theorem dX8_isFeast_24 : decode cX8_isFeast 24 = .ok (.if_icmp .ne 7, 3) := by decide +kernel
theorem dX8_isFeast_27 : decode cX8_isFeast 27 = .ok (.iconst 1, 1) := by decide +kernel
theorem dX8_isFeast_28 : decode cX8_isFeast 28 = .ok (.goto 4, 3) := by decide +kernel
theorem dX8_isFeast_31 : decode cX8_isFeast 31 = .ok (.iconst 0, 1) := by decide +kernel
theorem dX8_isFeast_32 : decode cX8_isFeast 32 = .ok (.ireturn, 1) := by decide +kernel
theorem dX8_awayOn_0 : decode cX8_awayOn 0 = .ok (.iconst 0, 1) := by decide +kernel
theorem dX8_awayOn_1 : decode cX8_awayOn 1 = .ok (.istore_n 2, 1) := by decide +kernel
theorem dX8_awayOn_2 : decode cX8_awayOn 2 = .ok (.iconst 0, 1) := by decide +kernel
theorem dX8_awayOn_3 : decode cX8_awayOn 3 = .ok (.istore_n 3, 1) := by decide +kernel
theorem dX8_awayOn_4 : decode cX8_awayOn 4 = .ok (.iload_n 3, 1) := by decide +kernel
theorem dX8_awayOn_5 : decode cX8_awayOn 5 = .ok (.aload_n 0, 1) := by decide +kernel
theorem dX8_awayOn_6 : decode cX8_awayOn 6 = .ok (.getfield 49, 3) := by decide +kernel
theorem dX8_awayOn_9 : decode cX8_awayOn 9 = .ok (.if_icmp .ge 40, 3) := by decide +kernel
theorem dX8_awayOn_12 : decode cX8_awayOn 12 = .ok (.aload_n 0, 1) := by decide +kernel
theorem dX8_awayOn_13 : decode cX8_awayOn 13 = .ok (.getfield 30, 3) := by decide +kernel
theorem dX8_awayOn_16 : decode cX8_awayOn 16 = .ok (.iload_n 3, 1) := by decide +kernel
theorem dX8_awayOn_17 : decode cX8_awayOn 17 = .ok (.iaload, 1) := by decide +kernel
theorem dX8_awayOn_18 : decode cX8_awayOn 18 = .ok (.iload_n 1, 1) := by decide +kernel
theorem dX8_awayOn_19 : decode cX8_awayOn 19 = .ok (.if_icmp .gt 24, 3) := by decide +kernel
theorem dX8_awayOn_22 : decode cX8_awayOn 22 = .ok (.iload_n 1, 1) := by decide +kernel
theorem dX8_awayOn_23 : decode cX8_awayOn 23 = .ok (.aload_n 0, 1) := by decide +kernel
theorem dX8_awayOn_24 : decode cX8_awayOn 24 = .ok (.getfield 33, 3) := by decide +kernel
theorem dX8_awayOn_27 : decode cX8_awayOn 27 = .ok (.iload_n 3, 1) := by decide +kernel
theorem dX8_awayOn_28 : decode cX8_awayOn 28 = .ok (.iaload, 1) := by decide +kernel
theorem dX8_awayOn_29 : decode cX8_awayOn 29 = .ok (.if_icmp .gt 14, 3) := by decide +kernel
theorem dX8_awayOn_32 : decode cX8_awayOn 32 = .ok (.iload_n 2, 1) := by decide +kernel
theorem dX8_awayOn_33 : decode cX8_awayOn 33 = .ok (.iconst 1, 1) := by decide +kernel
theorem dX8_awayOn_34 : decode cX8_awayOn 34 = .ok (.aload_n 0, 1) := by decide +kernel
theorem dX8_awayOn_35 : decode cX8_awayOn 35 = .ok (.getfield 27, 3) := by decide +kernel
theorem dX8_awayOn_38 : decode cX8_awayOn 38 = .ok (.iload_n 3, 1) := by decide +kernel
theorem dX8_awayOn_39 : decode cX8_awayOn 39 = .ok (.iaload, 1) := by decide +kernel
theorem dX8_awayOn_40 : decode cX8_awayOn 40 = .ok (.ishl, 1) := by decide +kernel
theorem dX8_awayOn_41 : decode cX8_awayOn 41 = .ok (.ior, 1) := by decide +kernel
theorem dX8_awayOn_42 : decode cX8_awayOn 42 = .ok (.istore_n 2, 1) := by decide +kernel
theorem dX8_awayOn_43 : decode cX8_awayOn 43 = .ok (.iinc 3 1, 3) := by decide +kernel
theorem dX8_awayOn_46 : decode cX8_awayOn 46 = .ok (.goto (-42), 3) := by decide +kernel
theorem dX8_awayOn_49 : decode cX8_awayOn 49 = .ok (.iload_n 2, 1) := by decide +kernel
theorem dX8_awayOn_50 : decode cX8_awayOn 50 = .ok (.ireturn, 1) := by decide +kernel
theorem dX9_init_0 : decode cX9_init 0 = .ok (.aload_n 0, 1) := by decide +kernel
theorem dX9_init_1 : decode cX9_init 1 = .ok (.invokespecial 3, 3) := by decide +kernel
theorem dX9_init_4 : decode cX9_init 4 = .ok (.aload_n 0, 1) := by decide +kernel
theorem dX9_init_5 : decode cX9_init 5 = .ok (.new 9, 3) := by decide +kernel
theorem dX9_init_8 : decode cX9_init 8 = .ok (.dup, 1) := by decide +kernel
theorem dX9_init_9 : decode cX9_init 9 = .ok (.invokespecial 11, 3) := by decide +kernel
theorem dX9_init_12 : decode cX9_init 12 = .ok (.putfield 12, 3) := by decide +kernel
theorem dX9_init_15 : decode cX9_init 15 = .ok (.aload_n 0, 1) := by decide +kernel
theorem dX9_init_16 : decode cX9_init 16 = .ok (.new 18, 3) := by decide +kernel
theorem dX9_init_19 : decode cX9_init 19 = .ok (.dup, 1) := by decide +kernel
theorem dX9_init_20 : decode cX9_init 20 = .ok (.invokespecial 20, 3) := by decide +kernel
theorem dX9_init_23 : decode cX9_init 23 = .ok (.putfield 21, 3) := by decide +kernel
theorem dX9_init_26 : decode cX9_init 26 = .ok (.aload_n 0, 1) := by decide +kernel
theorem dX9_init_27 : decode cX9_init 27 = .ok (.bipush 12, 2) := by decide +kernel
theorem dX9_init_29 : decode cX9_init 29 = .ok (.newarray .long, 2) := by decide +kernel
theorem dX9_init_31 : decode cX9_init 31 = .ok (.putfield 25, 3) := by decide +kernel
theorem dX9_init_34 : decode cX9_init 34 = .ok (.aload_n 0, 1) := by decide +kernel
theorem dX9_init_35 : decode cX9_init 35 = .ok (.iconst 4, 1) := by decide +kernel
theorem dX9_init_36 : decode cX9_init 36 = .ok (.newarray .long, 2) := by decide +kernel
theorem dX9_init_38 : decode cX9_init 38 = .ok (.putfield 29, 3) := by decide +kernel
theorem dX9_init_41 : decode cX9_init 41 = .ok (.return_, 1) := by decide +kernel
theorem dX9_readTape_0 : decode cX9_readTape 0 = .ok (.aload_n 0, 1) := by decide +kernel
theorem dX9_readTape_1 : decode cX9_readTape 1 = .ok (.getfield 12, 3) := by decide +kernel
theorem dX9_readTape_4 : decode cX9_readTape 4 = .ok (.invokevirtual 32, 3) := by decide +kernel
theorem dX9_readTape_7 : decode cX9_readTape 7 = .ok (.aload_n 0, 1) := by decide +kernel
theorem dX9_readTape_8 : decode cX9_readTape 8 = .ok (.iconst 0, 1) := by decide +kernel
theorem dX9_readTape_9 : decode cX9_readTape 9 = .ok (.putfield 35, 3) := by decide +kernel
theorem dX9_readTape_12 : decode cX9_readTape 12 = .ok (.aload_n 0, 1) := by decide +kernel
theorem dX9_readTape_13 : decode cX9_readTape 13 = .ok (.iconst 0, 1) := by decide +kernel
theorem dX9_readTape_14 : decode cX9_readTape 14 = .ok (.putfield 39, 3) := by decide +kernel
theorem dX9_readTape_17 : decode cX9_readTape 17 = .ok (.aload_n 0, 1) := by decide +kernel
theorem dX9_readTape_18 : decode cX9_readTape 18 = .ok (.getfield 21, 3) := by decide +kernel
theorem dX9_readTape_21 : decode cX9_readTape 21 = .ok (.invokevirtual 43, 3) := by decide +kernel
theorem dX9_readTape_24 : decode cX9_readTape 24 = .ok (.iconst 0, 1) := by decide +kernel
theorem dX9_readTape_25 : decode cX9_readTape 25 = .ok (.istore_n 1, 1) := by decide +kernel
theorem dX9_readTape_26 : decode cX9_readTape 26 = .ok (.iload_n 1, 1) := by decide +kernel
theorem dX9_readTape_27 : decode cX9_readTape 27 = .ok (.sipush 1000, 3) := by decide +kernel
theorem dX9_readTape_30 : decode cX9_readTape 30 = .ok (.if_icmp .ge 180, 3) := by decide +kernel
theorem dX9_readTape_33 : decode cX9_readTape 33 = .ok (.aload_n 0, 1) := by decide +kernel
theorem dX9_readTape_34 : decode cX9_readTape 34 = .ok (.getfield 39, 3) := by decide +kernel
theorem dX9_readTape_37 : decode cX9_readTape 37 = .ok (.ifCond .ne 173, 3) := by decide +kernel
theorem dX9_readTape_40 : decode cX9_readTape 40 = .ok (.aload_n 0, 1) := by decide +kernel
theorem dX9_readTape_41 : decode cX9_readTape 41 = .ok (.getfield 21, 3) := by decide +kernel
theorem dX9_readTape_44 : decode cX9_readTape 44 = .ok (.getfield 46, 3) := by decide +kernel
theorem dX9_readTape_47 : decode cX9_readTape 47 = .ok (.ifCond .eq 163, 3) := by decide +kernel
theorem dX9_readTape_50 : decode cX9_readTape 50 = .ok (.aload_n 0, 1) := by decide +kernel
theorem dX9_readTape_51 : decode cX9_readTape 51 = .ok (.getfield 21, 3) := by decide +kernel
theorem dX9_readTape_54 : decode cX9_readTape 54 = .ok (.ldc2_w 49, 3) := by decide +kernel
theorem dX9_readTape_57 : decode cX9_readTape 57 = .ok (.invokevirtual 51, 3) := by decide +kernel
theorem dX9_readTape_60 : decode cX9_readTape 60 = .ok (.ifCond .eq 10, 3) := by decide +kernel
theorem dX9_readTape_63 : decode cX9_readTape 63 = .ok (.aload_n 0, 1) := by decide +kernel
theorem dX9_readTape_64 : decode cX9_readTape 64 = .ok (.invokevirtual 55, 3) := by decide +kernel
theorem dX9_readTape_67 : decode cX9_readTape 67 = .ok (.goto 109, 3) := by decide +kernel
theorem dX9_readTape_70 : decode cX9_readTape 70 = .ok (.aload_n 0, 1) := by decide +kernel
theorem dX9_readTape_71 : decode cX9_readTape 71 = .ok (.getfield 21, 3) := by decide +kernel
theorem dX9_readTape_74 : decode cX9_readTape 74 = .ok (.ldc2_w 58, 3) := by decide +kernel
theorem dX9_readTape_77 : decode cX9_readTape 77 = .ok (.invokevirtual 51, 3) := by decide +kernel
theorem dX9_readTape_80 : decode cX9_readTape 80 = .ok (.ifCond .eq 10, 3) := by decide +kernel
theorem dX9_readTape_83 : decode cX9_readTape 83 = .ok (.aload_n 0, 1) := by decide +kernel
theorem dX9_readTape_84 : decode cX9_readTape 84 = .ok (.invokevirtual 60, 3) := by decide +kernel
theorem dX9_readTape_87 : decode cX9_readTape 87 = .ok (.goto 89, 3) := by decide +kernel
theorem dX9_readTape_90 : decode cX9_readTape 90 = .ok (.aload_n 0, 1) := by decide +kernel
theorem dX9_readTape_91 : decode cX9_readTape 91 = .ok (.getfield 21, 3) := by decide +kernel
theorem dX9_readTape_94 : decode cX9_readTape 94 = .ok (.ldc2_w 63, 3) := by decide +kernel
theorem dX9_readTape_97 : decode cX9_readTape 97 = .ok (.invokevirtual 51, 3) := by decide +kernel
theorem dX9_readTape_100 : decode cX9_readTape 100 = .ok (.ifCond .eq 10, 3) := by decide +kernel
theorem dX9_readTape_103 : decode cX9_readTape 103 = .ok (.aload_n 0, 1) := by decide +kernel
theorem dX9_readTape_104 : decode cX9_readTape 104 = .ok (.invokevirtual 65, 3) := by decide +kernel
theorem dX9_readTape_107 : decode cX9_readTape 107 = .ok (.goto 69, 3) := by decide +kernel
theorem dX9_readTape_110 : decode cX9_readTape 110 = .ok (.aload_n 0, 1) := by decide +kernel
theorem dX9_readTape_111 : decode cX9_readTape 111 = .ok (.getfield 21, 3) := by decide +kernel
theorem dX9_readTape_114 : decode cX9_readTape 114 = .ok (.ldc2_w 68, 3) := by decide +kernel
theorem dX9_readTape_117 : decode cX9_readTape 117 = .ok (.invokevirtual 51, 3) := by decide +kernel
theorem dX9_readTape_120 : decode cX9_readTape 120 = .ok (.ifCond .eq 10, 3) := by decide +kernel
theorem dX9_readTape_123 : decode cX9_readTape 123 = .ok (.aload_n 0, 1) := by decide +kernel
theorem dX9_readTape_124 : decode cX9_readTape 124 = .ok (.invokevirtual 70, 3) := by decide +kernel
theorem dX9_readTape_127 : decode cX9_readTape 127 = .ok (.goto 49, 3) := by decide +kernel
theorem dX9_readTape_130 : decode cX9_readTape 130 = .ok (.aload_n 0, 1) := by decide +kernel
theorem dX9_readTape_131 : decode cX9_readTape 131 = .ok (.getfield 21, 3) := by decide +kernel
theorem dX9_readTape_134 : decode cX9_readTape 134 = .ok (.ldc2_w 73, 3) := by decide +kernel
theorem dX9_readTape_137 : decode cX9_readTape 137 = .ok (.invokevirtual 51, 3) := by decide +kernel
theorem dX9_readTape_140 : decode cX9_readTape 140 = .ok (.ifCond .eq 10, 3) := by decide +kernel
theorem dX9_readTape_143 : decode cX9_readTape 143 = .ok (.aload_n 0, 1) := by decide +kernel
theorem dX9_readTape_144 : decode cX9_readTape 144 = .ok (.invokevirtual 75, 3) := by decide +kernel
theorem dX9_readTape_147 : decode cX9_readTape 147 = .ok (.goto 29, 3) := by decide +kernel
theorem dX9_readTape_150 : decode cX9_readTape 150 = .ok (.aload_n 0, 1) := by decide +kernel
theorem dX9_readTape_151 : decode cX9_readTape 151 = .ok (.getfield 21, 3) := by decide +kernel
theorem dX9_readTape_154 : decode cX9_readTape 154 = .ok (.ldc2_w 78, 3) := by decide +kernel
theorem dX9_readTape_157 : decode cX9_readTape 157 = .ok (.invokevirtual 51, 3) := by decide +kernel
theorem dX9_readTape_160 : decode cX9_readTape 160 = .ok (.ifCond .eq 10, 3) := by decide +kernel
theorem dX9_readTape_163 : decode cX9_readTape 163 = .ok (.aload_n 0, 1) := by decide +kernel
theorem dX9_readTape_164 : decode cX9_readTape 164 = .ok (.invokevirtual 80, 3) := by decide +kernel
theorem dX9_readTape_167 : decode cX9_readTape 167 = .ok (.goto 9, 3) := by decide +kernel
theorem dX9_readTape_170 : decode cX9_readTape 170 = .ok (.aload_n 0, 1) := by decide +kernel
theorem dX9_readTape_171 : decode cX9_readTape 171 = .ok (.iconst 1, 1) := by decide +kernel
theorem dX9_readTape_172 : decode cX9_readTape 172 = .ok (.iconst 1, 1) := by decide +kernel
theorem dX9_readTape_173 : decode cX9_readTape 173 = .ok (.invokevirtual 83, 3) := by decide +kernel
theorem dX9_readTape_176 : decode cX9_readTape 176 = .ok (.aload_n 0, 1) := by decide +kernel
theorem dX9_readTape_177 : decode cX9_readTape 177 = .ok (.aload_n 0, 1) := by decide +kernel
theorem dX9_readTape_178 : decode cX9_readTape 178 = .ok (.getfield 21, 3) := by decide +kernel
theorem dX9_readTape_181 : decode cX9_readTape 181 = .ok (.getfield 46, 3) := by decide +kernel
theorem dX9_readTape_184 : decode cX9_readTape 184 = .ok (.iconst 3, 1) := by decide +kernel
theorem dX9_readTape_185 : decode cX9_readTape 185 = .ok (.if_icmp .eq 7, 3) := by decide +kernel
theorem dX9_readTape_188 : decode cX9_readTape 188 = .ok (.iconst 1, 1) := by decide +kernel
theorem dX9_readTape_189 : decode cX9_readTape 189 = .ok (.goto 4, 3) := by decide +kernel
theorem dX9_readTape_192 : decode cX9_readTape 192 = .ok (.iconst 0, 1) := by decide +kernel
theorem dX9_readTape_193 : decode cX9_readTape 193 = .ok (.iconst 1, 1) := by decide +kernel
theorem dX9_readTape_194 : decode cX9_readTape 194 = .ok (.invokevirtual 83, 3) := by decide +kernel
theorem dX9_readTape_197 : decode cX9_readTape 197 = .ok (.aload_n 0, 1) := by decide +kernel
theorem dX9_readTape_198 : decode cX9_readTape 198 = .ok (.getfield 21, 3) := by decide +kernel
theorem dX9_readTape_201 : decode cX9_readTape 201 = .ok (.invokevirtual 87, 3) := by decide +kernel
theorem dX9_readTape_204 : decode cX9_readTape 204 = .ok (.iinc 1 1, 3) := by decide +kernel
theorem dX9_readTape_207 : decode cX9_readTape 207 = .ok (.goto (-181), 3) := by decide +kernel
theorem dX9_readTape_210 : decode cX9_readTape 210 = .ok (.aload_n 0, 1) := by decide +kernel
theorem dX9_readTape_211 : decode cX9_readTape 211 = .ok (.getfield 21, 3) := by decide +kernel
theorem dX9_readTape_214 : decode cX9_readTape 214 = .ok (.invokevirtual 90, 3) := by decide +kernel
theorem dX9_readTape_217 : decode cX9_readTape 217 = .ok (.aload_n 0, 1) := by decide +kernel
theorem dX9_readTape_218 : decode cX9_readTape 218 = .ok (.getfield 39, 3) := by decide +kernel
theorem dX9_readTape_221 : decode cX9_readTape 221 = .ok (.ireturn, 1) := by decide +kernel
theorem dX9_readLeap_0 : decode cX9_readLeap 0 = .ok (.aload_n 0, 1) := by decide +kernel
theorem dX9_readLeap_1 : decode cX9_readLeap 1 = .ok (.aload_n 0, 1) := by decide +kernel
theorem dX9_readLeap_2 : decode cX9_readLeap 2 = .ok (.getfield 35, 3) := by decide +kernel
theorem dX9_readLeap_5 : decode cX9_readLeap 5 = .ok (.iconst 3, 1) := by decide +kernel
theorem dX9_readLeap_6 : decode cX9_readLeap 6 = .ok (.invokevirtual 83, 3) := by decide +kernel
theorem dX9_readLeap_9 : decode cX9_readLeap 9 = .ok (.aload_n 0, 1) := by decide +kernel
theorem dX9_readLeap_10 : decode cX9_readLeap 10 = .ok (.iconst 1, 1) := by decide +kernel
theorem dX9_readLeap_11 : decode cX9_readLeap 11 = .ok (.putfield 35, 3) := by decide +kernel
theorem dX9_readLeap_14 : decode cX9_readLeap 14 = .ok (.aload_n 0, 1) := by decide +kernel
theorem dX9_readLeap_15 : decode cX9_readLeap 15 = .ok (.getfield 21, 3) := by decide +kernel
theorem dX9_readLeap_18 : decode cX9_readLeap 18 = .ok (.invokevirtual 87, 3) := by decide +kernel
theorem dX9_readLeap_21 : decode cX9_readLeap 21 = .ok (.aload_n 0, 1) := by decide +kernel
theorem dX9_readLeap_22 : decode cX9_readLeap 22 = .ok (.getfield 12, 3) := by decide +kernel
theorem dX9_readLeap_25 : decode cX9_readLeap 25 = .ok (.aload_n 0, 1) := by decide +kernel
theorem dX9_readLeap_26 : decode cX9_readLeap 26 = .ok (.iconst 3, 1) := by decide +kernel
theorem dX9_readLeap_27 : decode cX9_readLeap 27 = .ok (.invokevirtual 93, 3) := by decide +kernel
theorem dX9_readLeap_30 : decode cX9_readLeap 30 = .ok (.putfield 97, 3) := by decide +kernel
theorem dX9_readLeap_33 : decode cX9_readLeap 33 = .ok (.return_, 1) := by decide +kernel
theorem dX9_readPerson_0 : decode cX9_readPerson 0 = .ok (.aload_n 0, 1) := by decide +kernel
theorem dX9_readPerson_1 : decode cX9_readPerson 1 = .ok (.aload_n 0, 1) := by decide +kernel
theorem dX9_readPerson_2 : decode cX9_readPerson 2 = .ok (.getfield 12, 3) := by decide +kernel
theorem dX9_readPerson_5 : decode cX9_readPerson 5 = .ok (.getfield 100, 3) := by decide +kernel
theorem dX9_readPerson_8 : decode cX9_readPerson 8 = .ok (.bipush 12, 2) := by decide +kernel
theorem dX9_readPerson_10 : decode cX9_readPerson 10 = .ok (.if_icmp .ne 7, 3) := by decide +kernel
theorem dX9_readPerson_13 : decode cX9_readPerson 13 = .ok (.iconst 1, 1) := by decide +kernel
theorem dX9_readPerson_14 : decode cX9_readPerson 14 = .ok (.goto 4, 3) := by decide +kernel
theorem dX9_readPerson_17 : decode cX9_readPerson 17 = .ok (.iconst 0, 1) := by decide +kernel
theorem dX9_readPerson_18 : decode cX9_readPerson 18 = .ok (.iconst 5, 1) := by decide +kernel
theorem dX9_readPerson_19 : decode cX9_readPerson 19 = .ok (.invokevirtual 83, 3) := by decide +kernel
theorem dX9_readPerson_22 : decode cX9_readPerson 22 = .ok (.aload_n 0, 1) := by decide +kernel
theorem dX9_readPerson_23 : decode cX9_readPerson 23 = .ok (.getfield 21, 3) := by decide +kernel
theorem dX9_readPerson_26 : decode cX9_readPerson 26 = .ok (.invokevirtual 87, 3) := by decide +kernel
theorem dX9_readPerson_29 : decode cX9_readPerson 29 = .ok (.aload_n 0, 1) := by decide +kernel
theorem dX9_readPerson_30 : decode cX9_readPerson 30 = .ok (.invokevirtual 103, 3) := by decide +kernel
theorem dX9_readPerson_33 : decode cX9_readPerson 33 = .ok (.lstore_n 1, 1) := by decide +kernel
theorem dX9_readPerson_34 : decode cX9_readPerson 34 = .ok (.aload_n 0, 1) := by decide +kernel
theorem dX9_readPerson_35 : decode cX9_readPerson 35 = .ok (.ldc2_w 107, 3) := by decide +kernel
theorem dX9_readPerson_38 : decode cX9_readPerson 38 = .ok (.invokevirtual 109, 3) := by decide +kernel
theorem dX9_readPerson_41 : decode cX9_readPerson 41 = .ok (.aload_n 0, 1) := by decide +kernel
theorem dX9_readPerson_42 : decode cX9_readPerson 42 = .ok (.sipush 365, 3) := by decide +kernel
theorem dX9_readPerson_45 : decode cX9_readPerson 45 = .ok (.invokevirtual 93, 3) := by decide +kernel
theorem dX9_readPerson_48 : decode cX9_readPerson 48 = .ok (.istore_n 3, 1) := by decide +kernel
theorem dX9_readPerson_49 : decode cX9_readPerson 49 = .ok (.aload_n 0, 1) := by decide +kernel
theorem dX9_readPerson_50 : decode cX9_readPerson 50 = .ok (.getfield 39, 3) := by decide +kernel
theorem dX9_readPerson_53 : decode cX9_readPerson 53 = .ok (.ifCond .ne 37, 3) := by decide +kernel
theorem dX9_readPerson_56 : decode cX9_readPerson 56 = .ok (.aload_n 0, 1) := by decide +kernel
theorem dX9_readPerson_57 : decode cX9_readPerson 57 = .ok (.getfield 25, 3) := by decide +kernel
theorem dX9_readPerson_60 : decode cX9_readPerson 60 = .ok (.aload_n 0, 1) := by decide +kernel
theorem dX9_readPerson_61 : decode cX9_readPerson 61 = .ok (.getfield 12, 3) := by decide +kernel
theorem dX9_readPerson_64 : decode cX9_readPerson 64 = .ok (.getfield 100, 3) := by decide +kernel
theorem dX9_readPerson_67 : decode cX9_readPerson 67 = .ok (.lload_n 1, 1) := by decide +kernel
theorem dX9_readPerson_68 : decode cX9_readPerson 68 = .ok (.lastore, 1) := by decide +kernel
theorem dX9_readPerson_69 : decode cX9_readPerson 69 = .ok (.aload_n 0, 1) := by decide +kernel
theorem dX9_readPerson_70 : decode cX9_readPerson 70 = .ok (.getfield 12, 3) := by decide +kernel
theorem dX9_readPerson_73 : decode cX9_readPerson 73 = .ok (.iload_n 3, 1) := by decide +kernel
theorem dX9_readPerson_74 : decode cX9_readPerson 74 = .ok (.invokevirtual 113, 3) := by decide +kernel
theorem dX9_readPerson_77 : decode cX9_readPerson 77 = .ok (.aload_n 0, 1) := by decide +kernel
theorem dX9_readPerson_78 : decode cX9_readPerson 78 = .ok (.aload_n 0, 1) := by decide +kernel
theorem dX9_readPerson_79 : decode cX9_readPerson 79 = .ok (.getfield 12, 3) := by decide +kernel
theorem dX9_readPerson_82 : decode cX9_readPerson 82 = .ok (.getfield 100, 3) := by decide +kernel
theorem dX9_readPerson_85 : decode cX9_readPerson 85 = .ok (.iconst 1, 1) := by decide +kernel
theorem dX9_readPerson_86 : decode cX9_readPerson 86 = .ok (.isub, 1) := by decide +kernel
theorem dX9_readPerson_87 : decode cX9_readPerson 87 = .ok (.invokevirtual 117, 3) := by decide +kernel
theorem dX9_readPerson_90 : decode cX9_readPerson 90 = .ok (.return_, 1) := by decide +kernel
theorem dX9_readExtras_0 : decode cX9_readExtras 0 = .ok (.iconst 0, 1) := by decide +kernel
theorem dX9_readExtras_1 : decode cX9_readExtras 1 = .ok (.istore_n 2, 1) := by decide +kernel
theorem dX9_readExtras_2 : decode cX9_readExtras 2 = .ok (.iconst 0, 1) := by decide +kernel
theorem dX9_readExtras_3 : decode cX9_readExtras 3 = .ok (.istore_n 3, 1) := by decide +kernel
theorem dX9_readExtras_4 : decode cX9_readExtras 4 = .ok (.iconst 0, 1) := by decide +kernel
theorem dX9_readExtras_5 : decode cX9_readExtras 5 = .ok (.istore 4, 2) := by decide +kernel
theorem dX9_readExtras_7 : decode cX9_readExtras 7 = .ok (.iload 4, 2) := by decide +kernel
theorem dX9_readExtras_9 : decode cX9_readExtras 9 = .ok (.iconst 3, 1) := by decide +kernel
theorem dX9_readExtras_10 : decode cX9_readExtras 10 = .ok (.if_icmp .ge 106, 3) := by decide +kernel
theorem dX9_readExtras_13 : decode cX9_readExtras 13 = .ok (.aload_n 0, 1) := by decide +kernel
theorem dX9_readExtras_14 : decode cX9_readExtras 14 = .ok (.getfield 39, 3) := by decide +kernel
theorem dX9_readExtras_17 : decode cX9_readExtras 17 = .ok (.ifCond .ne 99, 3) := by decide +kernel
theorem dX9_readExtras_20 : decode cX9_readExtras 20 = .ok (.aload_n 0, 1) := by decide +kernel
theorem dX9_readExtras_21 : decode cX9_readExtras 21 = .ok (.getfield 21, 3) := by decide +kernel
theorem dX9_readExtras_24 : decode cX9_readExtras 24 = .ok (.ldc2_w 120, 3) := by decide +kernel
theorem dX9_readExtras_27 : decode cX9_readExtras 27 = .ok (.invokevirtual 51, 3) := by decide +kernel
theorem dX9_readExtras_30 : decode cX9_readExtras 30 = .ok (.ifCond .eq 37, 3) := by decide +kernel
theorem dX9_readExtras_33 : decode cX9_readExtras 33 = .ok (.aload_n 0, 1) := by decide +kernel
theorem dX9_readExtras_34 : decode cX9_readExtras 34 = .ok (.iload_n 2, 1) := by decide +kernel
theorem dX9_readExtras_35 : decode cX9_readExtras 35 = .ok (.iconst 3, 1) := by decide +kernel
theorem dX9_readExtras_36 : decode cX9_readExtras 36 = .ok (.invokevirtual 83, 3) := by decide +kernel
theorem dX9_readExtras_39 : decode cX9_readExtras 39 = .ok (.iconst 1, 1) := by decide +kernel
theorem dX9_readExtras_40 : decode cX9_readExtras 40 = .ok (.istore_n 2, 1) := by decide +kernel
theorem dX9_readExtras_41 : decode cX9_readExtras 41 = .ok (.aload_n 0, 1) := by decide +kernel
theorem dX9_readExtras_42 : decode cX9_readExtras 42 = .ok (.getfield 21, 3) := by decide +kernel
theorem dX9_readExtras_45 : decode cX9_readExtras 45 = .ok (.invokevirtual 87, 3) := by decide +kernel
theorem dX9_readExtras_48 : decode cX9_readExtras 48 = .ok (.aload_n 0, 1) := by decide +kernel
theorem dX9_readExtras_49 : decode cX9_readExtras 49 = .ok (.getfield 12, 3) := by decide +kernel
theorem dX9_readExtras_52 : decode cX9_readExtras 52 = .ok (.getfield 122, 3) := by decide +kernel
theorem dX9_readExtras_55 : decode cX9_readExtras 55 = .ok (.iload_n 1, 1) := by decide +kernel
theorem dX9_readExtras_56 : decode cX9_readExtras 56 = .ok (.aload_n 0, 1) := by decide +kernel
theorem dX9_readExtras_57 : decode cX9_readExtras 57 = .ok (.sipush 365, 3) := by decide +kernel
theorem dX9_readExtras_60 : decode cX9_readExtras 60 = .ok (.invokevirtual 93, 3) := by decide +kernel
theorem dX9_readExtras_63 : decode cX9_readExtras 63 = .ok (.iastore, 1) := by decide +kernel
theorem dX9_readExtras_64 : decode cX9_readExtras 64 = .ok (.goto 46, 3) := by decide +kernel
theorem dX9_readExtras_67 : decode cX9_readExtras 67 = .ok (.aload_n 0, 1) := by decide +kernel
theorem dX9_readExtras_68 : decode cX9_readExtras 68 = .ok (.getfield 21, 3) := by decide +kernel
theorem dX9_readExtras_71 : decode cX9_readExtras 71 = .ok (.ldc2_w 126, 3) := by decide +kernel
theorem dX9_readExtras_74 : decode cX9_readExtras 74 = .ok (.invokevirtual 51, 3) := by decide +kernel
theorem dX9_readExtras_77 : decode cX9_readExtras 77 = .ok (.ifCond .eq 33, 3) := by decide +kernel
theorem dX9_readExtras_80 : decode cX9_readExtras 80 = .ok (.aload_n 0, 1) := by decide +kernel
theorem dX9_readExtras_81 : decode cX9_readExtras 81 = .ok (.iload_n 3, 1) := by decide +kernel
theorem dX9_readExtras_82 : decode cX9_readExtras 82 = .ok (.iconst 3, 1) := by decide +kernel
theorem dX9_readExtras_83 : decode cX9_readExtras 83 = .ok (.invokevirtual 83, 3) := by decide +kernel
theorem dX9_readExtras_86 : decode cX9_readExtras 86 = .ok (.iconst 1, 1) := by decide +kernel
theorem dX9_readExtras_87 : decode cX9_readExtras 87 = .ok (.istore_n 3, 1) := by decide +kernel
theorem dX9_readExtras_88 : decode cX9_readExtras 88 = .ok (.aload_n 0, 1) := by decide +kernel
theorem dX9_readExtras_89 : decode cX9_readExtras 89 = .ok (.getfield 21, 3) := by decide +kernel
theorem dX9_readExtras_92 : decode cX9_readExtras 92 = .ok (.invokevirtual 87, 3) := by decide +kernel
theorem dX9_readExtras_95 : decode cX9_readExtras 95 = .ok (.aload_n 0, 1) := by decide +kernel
theorem dX9_readExtras_96 : decode cX9_readExtras 96 = .ok (.getfield 12, 3) := by decide +kernel
theorem dX9_readExtras_99 : decode cX9_readExtras 99 = .ok (.getfield 128, 3) := by decide +kernel
theorem dX9_readExtras_102 : decode cX9_readExtras 102 = .ok (.iload_n 1, 1) := by decide +kernel
theorem dX9_readExtras_103 : decode cX9_readExtras 103 = .ok (.aload_n 0, 1) := by decide +kernel
theorem dX9_readExtras_104 : decode cX9_readExtras 104 = .ok (.bipush 99, 2) := by decide +kernel
theorem dX9_readExtras_106 : decode cX9_readExtras 106 = .ok (.invokevirtual 93, 3) := by decide +kernel
theorem dX9_readExtras_109 : decode cX9_readExtras 109 = .ok (.iastore, 1) := by decide +kernel
theorem dX9_readExtras_110 : decode cX9_readExtras 110 = .ok (.iinc 4 1, 3) := by decide +kernel
theorem dX9_readExtras_113 : decode cX9_readExtras 113 = .ok (.goto (-106), 3) := by decide +kernel
theorem dX9_readExtras_116 : decode cX9_readExtras 116 = .ok (.return_, 1) := by decide +kernel
theorem dX9_readCalls_0 : decode cX9_readCalls 0 = .ok (.aload_n 0, 1) := by decide +kernel
theorem dX9_readCalls_1 : decode cX9_readCalls 1 = .ok (.getfield 21, 3) := by decide +kernel
theorem dX9_readCalls_4 : decode cX9_readCalls 4 = .ok (.invokevirtual 87, 3) := by decide +kernel
theorem dX9_readCalls_7 : decode cX9_readCalls 7 = .ok (.aload_n 0, 1) := by decide +kernel
theorem dX9_readCalls_8 : decode cX9_readCalls 8 = .ok (.invokevirtual 131, 3) := by decide +kernel
theorem dX9_readCalls_11 : decode cX9_readCalls 11 = .ok (.istore_n 1, 1) := by decide +kernel
theorem dX9_readCalls_12 : decode cX9_readCalls 12 = .ok (.aload_n 0, 1) := by decide +kernel
theorem dX9_readCalls_13 : decode cX9_readCalls 13 = .ok (.ldc2_w 135, 3) := by decide +kernel
theorem dX9_readCalls_16 : decode cX9_readCalls 16 = .ok (.invokevirtual 109, 3) := by decide +kernel
theorem dX9_readCalls_19 : decode cX9_readCalls 19 = .ok (.iconst 1, 1) := by decide +kernel
theorem dX9_readCalls_20 : decode cX9_readCalls 20 = .ok (.istore_n 2, 1) := by decide +kernel
theorem dX9_readCalls_21 : decode cX9_readCalls 21 = .ok (.iconst 0, 1) := by decide +kernel
theorem dX9_readCalls_22 : decode cX9_readCalls 22 = .ok (.istore_n 3, 1) := by decide +kernel
theorem dX9_readCalls_23 : decode cX9_readCalls 23 = .ok (.iload_n 3, 1) := by decide +kernel
theorem dX9_readCalls_24 : decode cX9_readCalls 24 = .ok (.bipush 12, 2) := by decide +kernel
theorem dX9_readCalls_26 : decode cX9_readCalls 26 = .ok (.if_icmp .ge 42, 3) := by decide +kernel
theorem dX9_readCalls_29 : decode cX9_readCalls 29 = .ok (.aload_n 0, 1) := by decide +kernel
theorem dX9_readCalls_30 : decode cX9_readCalls 30 = .ok (.getfield 39, 3) := by decide +kernel
theorem dX9_readCalls_33 : decode cX9_readCalls 33 = .ok (.ifCond .ne 35, 3) := by decide +kernel
theorem dX9_readCalls_36 : decode cX9_readCalls 36 = .ok (.iload_n 2, 1) := by decide +kernel
theorem dX9_readCalls_37 : decode cX9_readCalls 37 = .ok (.ifCond .eq 31, 3) := by decide +kernel
theorem dX9_readCalls_40 : decode cX9_readCalls 40 = .ok (.aload_n 0, 1) := by decide +kernel
theorem dX9_readCalls_41 : decode cX9_readCalls 41 = .ok (.iload_n 1, 1) := by decide +kernel
theorem dX9_readCalls_42 : decode cX9_readCalls 42 = .ok (.invokevirtual 137, 3) := by decide +kernel
theorem dX9_readCalls_45 : decode cX9_readCalls 45 = .ok (.aload_n 0, 1) := by decide +kernel
theorem dX9_readCalls_46 : decode cX9_readCalls 46 = .ok (.getfield 21, 3) := by decide +kernel
theorem dX9_readCalls_49 : decode cX9_readCalls 49 = .ok (.getfield 46, 3) := by decide +kernel
theorem dX9_readCalls_52 : decode cX9_readCalls 52 = .ok (.iconst 3, 1) := by decide +kernel
theorem dX9_readCalls_53 : decode cX9_readCalls 53 = .ok (.if_icmp .eq 7, 3) := by decide +kernel
theorem dX9_readCalls_56 : decode cX9_readCalls 56 = .ok (.iconst 1, 1) := by decide +kernel
theorem dX9_readCalls_57 : decode cX9_readCalls 57 = .ok (.goto 4, 3) := by decide +kernel
theorem dX9_readCalls_60 : decode cX9_readCalls 60 = .ok (.iconst 0, 1) := by decide +kernel
theorem dX9_readCalls_61 : decode cX9_readCalls 61 = .ok (.istore_n 2, 1) := by decide +kernel
theorem dX9_readCalls_62 : decode cX9_readCalls 62 = .ok (.iinc 3 1, 3) := by decide +kernel
theorem dX9_readCalls_65 : decode cX9_readCalls 65 = .ok (.goto (-42), 3) := by decide +kernel
theorem dX9_readCalls_68 : decode cX9_readCalls 68 = .ok (.return_, 1) := by decide +kernel
theorem dX9_readHost_0 : decode cX9_readHost 0 = .ok (.aload_n 0, 1) := by decide +kernel
theorem dX9_readHost_1 : decode cX9_readHost 1 = .ok (.invokevirtual 140, 3) := by decide +kernel
theorem dX9_readHost_4 : decode cX9_readHost 4 = .ok (.istore_n 2, 1) := by decide +kernel
theorem dX9_readHost_5 : decode cX9_readHost 5 = .ok (.aload_n 0, 1) := by decide +kernel
theorem dX9_readHost_6 : decode cX9_readHost 6 = .ok (.getfield 39, 3) := by decide +kernel
theorem dX9_readHost_9 : decode cX9_readHost 9 = .ok (.ifCond .eq 4, 3) := by decide +kernel
theorem dX9_readHost_12 : decode cX9_readHost 12 = .ok (.return_, 1) := by decide +kernel
theorem dX9_readHost_13 : decode cX9_readHost 13 = .ok (.aload_n 0, 1) := by decide +kernel
theorem dX9_readHost_14 : decode cX9_readHost 14 = .ok (.iload_n 2, 1) := by decide +kernel
theorem dX9_readHost_15 : decode cX9_readHost 15 = .ok (.iload_n 1, 1) := by decide +kernel
theorem dX9_readHost_16 : decode cX9_readHost 16 = .ok (.if_icmp .eq 19, 3) := by decide +kernel
theorem dX9_readHost_19 : decode cX9_readHost 19 = .ok (.aload_n 0, 1) := by decide +kernel
theorem dX9_readHost_20 : decode cX9_readHost 20 = .ok (.getfield 12, 3) := by decide +kernel
theorem dX9_readHost_23 : decode cX9_readHost 23 = .ok (.getfield 143, 3) := by decide +kernel
theorem dX9_readHost_26 : decode cX9_readHost 26 = .ok (.iload_n 1, 1) := by decide +kernel
theorem dX9_readHost_27 : decode cX9_readHost 27 = .ok (.iaload, 1) := by decide +kernel
theorem dX9_readHost_28 : decode cX9_readHost 28 = .ok (.iload_n 2, 1) := by decide +kernel
theorem dX9_readHost_29 : decode cX9_readHost 29 = .ok (.invokestatic 146, 3) := by decide +kernel
theorem dX9_readHost_32 : decode cX9_readHost 32 = .ok (.ifCond .eq 7, 3) := by decide +kernel
theorem dX9_readHost_35 : decode cX9_readHost 35 = .ok (.iconst 1, 1) := by decide +kernel
theorem dX9_readHost_36 : decode cX9_readHost 36 = .ok (.goto 4, 3) := by decide +kernel
theorem dX9_readHost_39 : decode cX9_readHost 39 = .ok (.iconst 0, 1) := by decide +kernel
theorem dX9_readHost_40 : decode cX9_readHost 40 = .ok (.iconst 3, 1) := by decide +kernel
theorem dX9_readHost_41 : decode cX9_readHost 41 = .ok (.invokevirtual 83, 3) := by decide +kernel
theorem dX9_readHost_44 : decode cX9_readHost 44 = .ok (.aload_n 0, 1) := by decide +kernel
theorem dX9_readHost_45 : decode cX9_readHost 45 = .ok (.aload_n 0, 1) := by decide +kernel
theorem dX9_readHost_46 : decode cX9_readHost 46 = .ok (.getfield 12, 3) := by decide +kernel
theorem dX9_readHost_49 : decode cX9_readHost 49 = .ok (.getfield 150, 3) := by decide +kernel
theorem dX9_readHost_52 : decode cX9_readHost 52 = .ok (.iload_n 2, 1) := by decide +kernel
theorem dX9_readHost_53 : decode cX9_readHost 53 = .ok (.iaload, 1) := by decide +kernel
theorem dX9_readHost_54 : decode cX9_readHost 54 = .ok (.invokestatic 153, 3) := by decide +kernel
theorem dX9_readHost_57 : decode cX9_readHost 57 = .ok (.bipush 6, 2) := by decide +kernel
theorem dX9_readHost_59 : decode cX9_readHost 59 = .ok (.if_icmp .lt 7, 3) := by decide +kernel
theorem dX9_readHost_62 : decode cX9_readHost 62 = .ok (.iconst 1, 1) := by decide +kernel
theorem dX9_readHost_63 : decode cX9_readHost 63 = .ok (.goto 4, 3) := by decide +kernel
theorem dX9_readHost_66 : decode cX9_readHost 66 = .ok (.iconst 0, 1) := by decide +kernel
theorem dX9_readHost_67 : decode cX9_readHost 67 = .ok (.iconst 5, 1) := by decide +kernel
theorem dX9_readHost_68 : decode cX9_readHost 68 = .ok (.invokevirtual 83, 3) := by decide +kernel
theorem dX9_readHost_71 : decode cX9_readHost 71 = .ok (.aload_n 0, 1) := by decide +kernel
theorem dX9_readHost_72 : decode cX9_readHost 72 = .ok (.getfield 39, 3) := by decide +kernel
theorem dX9_readHost_75 : decode cX9_readHost 75 = .ok (.ifCond .ne 19, 3) := by decide +kernel
theorem dX9_readHost_78 : decode cX9_readHost 78 = .ok (.aload_n 0, 1) := by decide +kernel
theorem dX9_readHost_79 : decode cX9_readHost 79 = .ok (.getfield 12, 3) := by decide +kernel
theorem dX9_readHost_82 : decode cX9_readHost 82 = .ok (.iload_n 1, 1) := by decide +kernel
theorem dX9_readHost_83 : decode cX9_readHost 83 = .ok (.iload_n 2, 1) := by decide +kernel
theorem dX9_readHost_84 : decode cX9_readHost 84 = .ok (.invokevirtual 158, 3) := by decide +kernel
theorem dX9_readHost_87 : decode cX9_readHost 87 = .ok (.aload_n 0, 1) := by decide +kernel
theorem dX9_readHost_88 : decode cX9_readHost 88 = .ok (.getfield 21, 3) := by decide +kernel
theorem dX9_readHost_91 : decode cX9_readHost 91 = .ok (.invokevirtual 87, 3) := by decide +kernel
theorem dX9_readHost_94 : decode cX9_readHost 94 = .ok (.return_, 1) := by decide +kernel
theorem dX9_readAway_0 : decode cX9_readAway 0 = .ok (.aload_n 0, 1) := by decide +kernel
theorem dX9_readAway_1 : decode cX9_readAway 1 = .ok (.aload_n 0, 1) := by decide +kernel
theorem dX9_readAway_2 : decode cX9_readAway 2 = .ok (.getfield 12, 3) := by decide +kernel
theorem dX9_readAway_5 : decode cX9_readAway 5 = .ok (.getfield 162, 3) := by decide +kernel
theorem dX9_readAway_8 : decode cX9_readAway 8 = .ok (.bipush 12, 2) := by decide +kernel
theorem dX9_readAway_10 : decode cX9_readAway 10 = .ok (.if_icmp .ne 7, 3) := by decide +kernel
theorem dX9_readAway_13 : decode cX9_readAway 13 = .ok (.iconst 1, 1) := by decide +kernel
theorem dX9_readAway_14 : decode cX9_readAway 14 = .ok (.goto 4, 3) := by decide +kernel
theorem dX9_readAway_17 : decode cX9_readAway 17 = .ok (.iconst 0, 1) := by decide +kernel
theorem dX9_readAway_18 : decode cX9_readAway 18 = .ok (.iconst 5, 1) := by decide +kernel
theorem dX9_readAway_19 : decode cX9_readAway 19 = .ok (.invokevirtual 83, 3) := by decide +kernel
theorem dX9_readAway_22 : decode cX9_readAway 22 = .ok (.aload_n 0, 1) := by decide +kernel
theorem dX9_readAway_23 : decode cX9_readAway 23 = .ok (.getfield 21, 3) := by decide +kernel
theorem dX9_readAway_26 : decode cX9_readAway 26 = .ok (.invokevirtual 87, 3) := by decide +kernel
theorem dX9_readAway_29 : decode cX9_readAway 29 = .ok (.aload_n 0, 1) := by decide +kernel
theorem dX9_readAway_30 : decode cX9_readAway 30 = .ok (.invokevirtual 131, 3) := by decide +kernel
theorem dX9_readAway_33 : decode cX9_readAway 33 = .ok (.istore_n 1, 1) := by decide +kernel
theorem dX9_readAway_34 : decode cX9_readAway 34 = .ok (.aload_n 0, 1) := by decide +kernel
theorem dX9_readAway_35 : decode cX9_readAway 35 = .ok (.ldc2_w 165, 3) := by decide +kernel
theorem dX9_readAway_38 : decode cX9_readAway 38 = .ok (.invokevirtual 109, 3) := by decide +kernel
theorem dX9_readAway_41 : decode cX9_readAway 41 = .ok (.aload_n 0, 1) := by decide +kernel
theorem dX9_readAway_42 : decode cX9_readAway 42 = .ok (.iconst 0, 1) := by decide +kernel
theorem dX9_readAway_43 : decode cX9_readAway 43 = .ok (.invokevirtual 167, 3) := by decide +kernel
theorem dX9_readAway_46 : decode cX9_readAway 46 = .ok (.istore_n 2, 1) := by decide +kernel
theorem dX9_readAway_47 : decode cX9_readAway 47 = .ok (.aload_n 0, 1) := by decide +kernel
theorem dX9_readAway_48 : decode cX9_readAway 48 = .ok (.ldc2_w 170, 3) := by decide +kernel
theorem dX9_readAway_51 : decode cX9_readAway 51 = .ok (.invokevirtual 109, 3) := by decide +kernel
theorem dX9_readAway_54 : decode cX9_readAway 54 = .ok (.aload_n 0, 1) := by decide +kernel
theorem dX9_readAway_55 : decode cX9_readAway 55 = .ok (.iload_n 2, 1) := by decide +kernel
theorem dX9_readAway_56 : decode cX9_readAway 56 = .ok (.invokevirtual 167, 3) := by decide +kernel
theorem dX9_readAway_59 : decode cX9_readAway 59 = .ok (.istore_n 3, 1) := by decide +kernel
theorem dX9_readAway_60 : decode cX9_readAway 60 = .ok (.aload_n 0, 1) := by decide +kernel
theorem dX9_readAway_61 : decode cX9_readAway 61 = .ok (.getfield 39, 3) := by decide +kernel
theorem dX9_readAway_64 : decode cX9_readAway 64 = .ok (.ifCond .ne 13, 3) := by decide +kernel
theorem dX9_readAway_67 : decode cX9_readAway 67 = .ok (.aload_n 0, 1) := by decide +kernel
theorem dX9_readAway_68 : decode cX9_readAway 68 = .ok (.getfield 12, 3) := by decide +kernel
theorem dX9_readAway_71 : decode cX9_readAway 71 = .ok (.iload_n 1, 1) := by decide +kernel
theorem dX9_readAway_72 : decode cX9_readAway 72 = .ok (.iload_n 2, 1) := by decide +kernel
theorem dX9_readAway_73 : decode cX9_readAway 73 = .ok (.iload_n 3, 1) := by decide +kernel
theorem dX9_readAway_74 : decode cX9_readAway 74 = .ok (.invokevirtual 172, 3) := by decide +kernel
theorem dX9_readAway_77 : decode cX9_readAway 77 = .ok (.return_, 1) := by decide +kernel
theorem dX9_readSecret_0 : decode cX9_readSecret 0 = .ok (.aload_n 0, 1) := by decide +kernel
theorem dX9_readSecret_1 : decode cX9_readSecret 1 = .ok (.aload_n 0, 1) := by decide +kernel
theorem dX9_readSecret_2 : decode cX9_readSecret 2 = .ok (.getfield 12, 3) := by decide +kernel
theorem dX9_readSecret_5 : decode cX9_readSecret 5 = .ok (.getfield 176, 3) := by decide +kernel
theorem dX9_readSecret_8 : decode cX9_readSecret 8 = .ok (.iconst 4, 1) := by decide +kernel
theorem dX9_readSecret_9 : decode cX9_readSecret 9 = .ok (.if_icmp .ne 7, 3) := by decide +kernel
theorem dX9_readSecret_12 : decode cX9_readSecret 12 = .ok (.iconst 1, 1) := by decide +kernel
theorem dX9_readSecret_13 : decode cX9_readSecret 13 = .ok (.goto 4, 3) := by decide +kernel
theorem dX9_readSecret_16 : decode cX9_readSecret 16 = .ok (.iconst 0, 1) := by decide +kernel
theorem dX9_readSecret_17 : decode cX9_readSecret 17 = .ok (.iconst 5, 1) := by decide +kernel
theorem dX9_readSecret_18 : decode cX9_readSecret 18 = .ok (.invokevirtual 83, 3) := by decide +kernel
theorem dX9_readSecret_21 : decode cX9_readSecret 21 = .ok (.aload_n 0, 1) := by decide +kernel
theorem dX9_readSecret_22 : decode cX9_readSecret 22 = .ok (.getfield 21, 3) := by decide +kernel
theorem dX9_readSecret_25 : decode cX9_readSecret 25 = .ok (.invokevirtual 87, 3) := by decide +kernel
theorem dX9_readSecret_28 : decode cX9_readSecret 28 = .ok (.aload_n 0, 1) := by decide +kernel
theorem dX9_readSecret_29 : decode cX9_readSecret 29 = .ok (.invokevirtual 103, 3) := by decide +kernel
theorem dX9_readSecret_32 : decode cX9_readSecret 32 = .ok (.lstore_n 1, 1) := by decide +kernel
theorem dX9_readSecret_33 : decode cX9_readSecret 33 = .ok (.aload_n 0, 1) := by decide +kernel
theorem dX9_readSecret_34 : decode cX9_readSecret 34 = .ok (.ldc2_w 179, 3) := by decide +kernel
theorem dX9_readSecret_37 : decode cX9_readSecret 37 = .ok (.invokevirtual 109, 3) := by decide +kernel
theorem dX9_readSecret_40 : decode cX9_readSecret 40 = .ok (.aload_n 0, 1) := by decide +kernel
theorem dX9_readSecret_41 : decode cX9_readSecret 41 = .ok (.invokevirtual 131, 3) := by decide +kernel
theorem dX9_readSecret_44 : decode cX9_readSecret 44 = .ok (.istore_n 3, 1) := by decide +kernel
theorem dX9_readSecret_45 : decode cX9_readSecret 45 = .ok (.aload_n 0, 1) := by decide +kernel
theorem dX9_readSecret_46 : decode cX9_readSecret 46 = .ok (.ldc2_w 165, 3) := by decide +kernel
theorem dX9_readSecret_49 : decode cX9_readSecret 49 = .ok (.invokevirtual 109, 3) := by decide +kernel
theorem dX9_readSecret_52 : decode cX9_readSecret 52 = .ok (.aload_n 0, 1) := by decide +kernel
theorem dX9_readSecret_53 : decode cX9_readSecret 53 = .ok (.iconst 0, 1) := by decide +kernel
theorem dX9_readSecret_54 : decode cX9_readSecret 54 = .ok (.invokevirtual 167, 3) := by decide +kernel
theorem dX9_readSecret_57 : decode cX9_readSecret 57 = .ok (.istore 4, 2) := by decide +kernel
theorem dX9_readSecret_59 : decode cX9_readSecret 59 = .ok (.aload_n 0, 1) := by decide +kernel
theorem dX9_readSecret_60 : decode cX9_readSecret 60 = .ok (.getfield 39, 3) := by decide +kernel
theorem dX9_readSecret_63 : decode cX9_readSecret 63 = .ok (.ifCond .ne 26, 3) := by decide +kernel
theorem dX9_readSecret_66 : decode cX9_readSecret 66 = .ok (.aload_n 0, 1) := by decide +kernel
theorem dX9_readSecret_67 : decode cX9_readSecret 67 = .ok (.getfield 29, 3) := by decide +kernel
theorem dX9_readSecret_70 : decode cX9_readSecret 70 = .ok (.aload_n 0, 1) := by decide +kernel
theorem dX9_readSecret_71 : decode cX9_readSecret 71 = .ok (.getfield 12, 3) := by decide +kernel
theorem dX9_readSecret_74 : decode cX9_readSecret 74 = .ok (.getfield 176, 3) := by decide +kernel
theorem dX9_readSecret_77 : decode cX9_readSecret 77 = .ok (.lload_n 1, 1) := by decide +kernel
theorem dX9_readSecret_78 : decode cX9_readSecret 78 = .ok (.lastore, 1) := by decide +kernel
theorem dX9_readSecret_79 : decode cX9_readSecret 79 = .ok (.aload_n 0, 1) := by decide +kernel
theorem dX9_readSecret_80 : decode cX9_readSecret 80 = .ok (.getfield 12, 3) := by decide +kernel
theorem dX9_readSecret_83 : decode cX9_readSecret 83 = .ok (.iload_n 3, 1) := by decide +kernel
theorem dX9_readSecret_84 : decode cX9_readSecret 84 = .ok (.iload 4, 2) := by decide +kernel
theorem dX9_readSecret_86 : decode cX9_readSecret 86 = .ok (.invokevirtual 181, 3) := by decide +kernel
theorem dX9_readSecret_89 : decode cX9_readSecret 89 = .ok (.return_, 1) := by decide +kernel
theorem dX9_readLaw_0 : decode cX9_readLaw 0 = .ok (.aload_n 0, 1) := by decide +kernel
theorem dX9_readLaw_1 : decode cX9_readLaw 1 = .ok (.aload_n 0, 1) := by decide +kernel
theorem dX9_readLaw_2 : decode cX9_readLaw 2 = .ok (.getfield 12, 3) := by decide +kernel
theorem dX9_readLaw_5 : decode cX9_readLaw 5 = .ok (.getfield 184, 3) := by decide +kernel
theorem dX9_readLaw_8 : decode cX9_readLaw 8 = .ok (.iconst 3, 1) := by decide +kernel
theorem dX9_readLaw_9 : decode cX9_readLaw 9 = .ok (.invokevirtual 83, 3) := by decide +kernel
theorem dX9_readLaw_12 : decode cX9_readLaw 12 = .ok (.aload_n 0, 1) := by decide +kernel
theorem dX9_readLaw_13 : decode cX9_readLaw 13 = .ok (.getfield 12, 3) := by decide +kernel
theorem dX9_readLaw_16 : decode cX9_readLaw 16 = .ok (.iconst 1, 1) := by decide +kernel
theorem dX9_readLaw_17 : decode cX9_readLaw 17 = .ok (.putfield 184, 3) := by decide +kernel
theorem dX9_readLaw_20 : decode cX9_readLaw 20 = .ok (.aload_n 0, 1) := by decide +kernel
theorem dX9_readLaw_21 : decode cX9_readLaw 21 = .ok (.getfield 21, 3) := by decide +kernel
theorem dX9_readLaw_24 : decode cX9_readLaw 24 = .ok (.invokevirtual 87, 3) := by decide +kernel
theorem dX9_readLaw_27 : decode cX9_readLaw 27 = .ok (.aload_n 0, 1) := by decide +kernel
theorem dX9_readLaw_28 : decode cX9_readLaw 28 = .ok (.ldc2_w 187, 3) := by decide +kernel
theorem dX9_readLaw_31 : decode cX9_readLaw 31 = .ok (.invokevirtual 109, 3) := by decide +kernel
theorem dX9_readLaw_34 : decode cX9_readLaw 34 = .ok (.return_, 1) := by decide +kernel
theorem dX9_takeWord_0 : decode cX9_takeWord 0 = .ok (.aload_n 0, 1) := by decide +kernel
theorem dX9_takeWord_1 : decode cX9_takeWord 1 = .ok (.aload_n 0, 1) := by decide +kernel
theorem dX9_takeWord_2 : decode cX9_takeWord 2 = .ok (.getfield 21, 3) := by decide +kernel
theorem dX9_takeWord_5 : decode cX9_takeWord 5 = .ok (.lload_n 1, 1) := by decide +kernel
theorem dX9_takeWord_6 : decode cX9_takeWord 6 = .ok (.invokevirtual 51, 3) := by decide +kernel
theorem dX9_takeWord_9 : decode cX9_takeWord 9 = .ok (.ifCond .ne 7, 3) := by decide +kernel
theorem dX9_takeWord_12 : decode cX9_takeWord 12 = .ok (.iconst 1, 1) := by decide +kernel
theorem dX9_takeWord_13 : decode cX9_takeWord 13 = .ok (.goto 4, 3) := by decide +kernel
theorem dX9_takeWord_16 : decode cX9_takeWord 16 = .ok (.iconst 0, 1) := by decide +kernel
theorem dX9_takeWord_17 : decode cX9_takeWord 17 = .ok (.iconst 1, 1) := by decide +kernel
theorem dX9_takeWord_18 : decode cX9_takeWord 18 = .ok (.invokevirtual 83, 3) := by decide +kernel
theorem dX9_takeWord_21 : decode cX9_takeWord 21 = .ok (.aload_n 0, 1) := by decide +kernel
theorem dX9_takeWord_22 : decode cX9_takeWord 22 = .ok (.getfield 21, 3) := by decide +kernel
theorem dX9_takeWord_25 : decode cX9_takeWord 25 = .ok (.invokevirtual 87, 3) := by decide +kernel
theorem dX9_takeWord_28 : decode cX9_takeWord 28 = .ok (.return_, 1) := by decide +kernel
theorem dX9_takeNumber_0 : decode cX9_takeNumber 0 = .ok (.aload_n 0, 1) := by decide +kernel
theorem dX9_takeNumber_1 : decode cX9_takeNumber 1 = .ok (.aload_n 0, 1) := by decide +kernel
theorem dX9_takeNumber_2 : decode cX9_takeNumber 2 = .ok (.getfield 21, 3) := by decide +kernel
theorem dX9_takeNumber_5 : decode cX9_takeNumber 5 = .ok (.getfield 46, 3) := by decide +kernel
theorem dX9_takeNumber_8 : decode cX9_takeNumber 8 = .ok (.iconst 2, 1) := by decide +kernel
theorem dX9_takeNumber_9 : decode cX9_takeNumber 9 = .ok (.if_icmp .eq 7, 3) := by decide +kernel
theorem dX9_takeNumber_12 : decode cX9_takeNumber 12 = .ok (.iconst 1, 1) := by decide +kernel
theorem dX9_takeNumber_13 : decode cX9_takeNumber 13 = .ok (.goto 4, 3) := by decide +kernel
theorem dX9_takeNumber_16 : decode cX9_takeNumber 16 = .ok (.iconst 0, 1) := by decide +kernel
theorem dX9_takeNumber_17 : decode cX9_takeNumber 17 = .ok (.iconst 1, 1) := by decide +kernel
theorem dX9_takeNumber_18 : decode cX9_takeNumber 18 = .ok (.invokevirtual 83, 3) := by decide +kernel
theorem dX9_takeNumber_21 : decode cX9_takeNumber 21 = .ok (.aload_n 0, 1) := by decide +kernel
theorem dX9_takeNumber_22 : decode cX9_takeNumber 22 = .ok (.aload_n 0, 1) := by decide +kernel
theorem dX9_takeNumber_23 : decode cX9_takeNumber 23 = .ok (.getfield 21, 3) := by decide +kernel
theorem dX9_takeNumber_26 : decode cX9_takeNumber 26 = .ok (.getfield 189, 3) := by decide +kernel
theorem dX9_takeNumber_29 : decode cX9_takeNumber 29 = .ok (.iload_n 1, 1) := by decide +kernel
theorem dX9_takeNumber_30 : decode cX9_takeNumber 30 = .ok (.if_icmp .le 7, 3) := by decide +kernel
theorem dX9_takeNumber_33 : decode cX9_takeNumber 33 = .ok (.iconst 1, 1) := by decide +kernel
theorem dX9_takeNumber_34 : decode cX9_takeNumber 34 = .ok (.goto 4, 3) := by decide +kernel
theorem dX9_takeNumber_37 : decode cX9_takeNumber 37 = .ok (.iconst 0, 1) := by decide +kernel
theorem dX9_takeNumber_38 : decode cX9_takeNumber 38 = .ok (.iconst 4, 1) := by decide +kernel
theorem dX9_takeNumber_39 : decode cX9_takeNumber 39 = .ok (.invokevirtual 83, 3) := by decide +kernel
theorem dX9_takeNumber_42 : decode cX9_takeNumber 42 = .ok (.aload_n 0, 1) := by decide +kernel
theorem dX9_takeNumber_43 : decode cX9_takeNumber 43 = .ok (.getfield 21, 3) := by decide +kernel
theorem dX9_takeNumber_46 : decode cX9_takeNumber 46 = .ok (.getfield 189, 3) := by decide +kernel
theorem dX9_takeNumber_49 : decode cX9_takeNumber 49 = .ok (.istore_n 2, 1) := by decide +kernel
theorem dX9_takeNumber_50 : decode cX9_takeNumber 50 = .ok (.aload_n 0, 1) := by decide +kernel
theorem dX9_takeNumber_51 : decode cX9_takeNumber 51 = .ok (.getfield 21, 3) := by decide +kernel
theorem dX9_takeNumber_54 : decode cX9_takeNumber 54 = .ok (.invokevirtual 87, 3) := by decide +kernel
theorem dX9_takeNumber_57 : decode cX9_takeNumber 57 = .ok (.iload_n 2, 1) := by decide +kernel
theorem dX9_takeNumber_58 : decode cX9_takeNumber 58 = .ok (.ireturn, 1) := by decide +kernel
theorem dX9_takeDate_0 : decode cX9_takeDate 0 = .ok (.aload_n 0, 1) := by decide +kernel
theorem dX9_takeDate_1 : decode cX9_takeDate 1 = .ok (.bipush 11, 2) := by decide +kernel
theorem dX9_takeDate_3 : decode cX9_takeDate 3 = .ok (.invokevirtual 93, 3) := by decide +kernel
theorem dX9_takeDate_6 : decode cX9_takeDate 6 = .ok (.sipush 366, 3) := by decide +kernel
theorem dX9_takeDate_9 : decode cX9_takeDate 9 = .ok (.imul, 1) := by decide +kernel
theorem dX9_takeDate_10 : decode cX9_takeDate 10 = .ok (.istore_n 2, 1) := by decide +kernel
theorem dX9_takeDate_11 : decode cX9_takeDate 11 = .ok (.aload_n 0, 1) := by decide +kernel
theorem dX9_takeDate_12 : decode cX9_takeDate 12 = .ok (.getfield 21, 3) := by decide +kernel
theorem dX9_takeDate_15 : decode cX9_takeDate 15 = .ok (.getfield 46, 3) := by decide +kernel
theorem dX9_takeDate_18 : decode cX9_takeDate 18 = .ok (.iconst 2, 1) := by decide +kernel
theorem dX9_takeDate_19 : decode cX9_takeDate 19 = .ok (.if_icmp .ne 20, 3) := by decide +kernel
theorem dX9_takeDate_22 : decode cX9_takeDate 22 = .ok (.iload_n 2, 1) := by decide +kernel
theorem dX9_takeDate_23 : decode cX9_takeDate 23 = .ok (.aload_n 0, 1) := by decide +kernel
theorem dX9_takeDate_24 : decode cX9_takeDate 24 = .ok (.getfield 21, 3) := by decide +kernel
theorem dX9_takeDate_27 : decode cX9_takeDate 27 = .ok (.getfield 189, 3) := by decide +kernel
theorem dX9_takeDate_30 : decode cX9_takeDate 30 = .ok (.iadd, 1) := by decide +kernel
theorem dX9_takeDate_31 : decode cX9_takeDate 31 = .ok (.iload_n 1, 1) := by decide +kernel
theorem dX9_takeDate_32 : decode cX9_takeDate 32 = .ok (.if_icmp .ge 7, 3) := by decide +kernel
theorem dX9_takeDate_35 : decode cX9_takeDate 35 = .ok (.iconst 1, 1) := by decide +kernel
theorem dX9_takeDate_36 : decode cX9_takeDate 36 = .ok (.goto 4, 3) := by decide +kernel
theorem dX9_takeDate_39 : decode cX9_takeDate 39 = .ok (.iconst 0, 1) := by decide +kernel
theorem dX9_takeDate_40 : decode cX9_takeDate 40 = .ok (.istore_n 3, 1) := by decide +kernel
theorem dX9_takeDate_41 : decode cX9_takeDate 41 = .ok (.aload_n 0, 1) := by decide +kernel
theorem dX9_takeDate_42 : decode cX9_takeDate 42 = .ok (.iload_n 3, 1) := by decide +kernel
theorem dX9_takeDate_43 : decode cX9_takeDate 43 = .ok (.iconst 4, 1) := by decide +kernel
theorem dX9_takeDate_44 : decode cX9_takeDate 44 = .ok (.invokevirtual 83, 3) := by decide +kernel
theorem dX9_takeDate_47 : decode cX9_takeDate 47 = .ok (.iload_n 2, 1) := by decide +kernel
theorem dX9_takeDate_48 : decode cX9_takeDate 48 = .ok (.aload_n 0, 1) := by decide +kernel
theorem dX9_takeDate_49 : decode cX9_takeDate 49 = .ok (.sipush 365, 3) := by decide +kernel
theorem dX9_takeDate_52 : decode cX9_takeDate 52 = .ok (.invokevirtual 93, 3) := by decide +kernel
theorem dX9_takeDate_55 : decode cX9_takeDate 55 = .ok (.iadd, 1) := by decide +kernel
theorem dX9_takeDate_56 : decode cX9_takeDate 56 = .ok (.ireturn, 1) := by decide +kernel
theorem dX9_takePerson_0 : decode cX9_takePerson 0 = .ok (.aload_n 0, 1) := by decide +kernel
theorem dX9_takePerson_1 : decode cX9_takePerson 1 = .ok (.invokevirtual 140, 3) := by decide +kernel
theorem dX9_takePerson_4 : decode cX9_takePerson 4 = .ok (.istore_n 1, 1) := by decide +kernel
theorem dX9_takePerson_5 : decode cX9_takePerson 5 = .ok (.aload_n 0, 1) := by decide +kernel
theorem dX9_takePerson_6 : decode cX9_takePerson 6 = .ok (.getfield 21, 3) := by decide +kernel
theorem dX9_takePerson_9 : decode cX9_takePerson 9 = .ok (.invokevirtual 87, 3) := by decide +kernel
theorem dX9_takePerson_12 : decode cX9_takePerson 12 = .ok (.iload_n 1, 1) := by decide +kernel
theorem dX9_takePerson_13 : decode cX9_takePerson 13 = .ok (.ireturn, 1) := by decide +kernel
theorem dX9_findPerson_0 : decode cX9_findPerson 0 = .ok (.aload_n 0, 1) := by decide +kernel
theorem dX9_findPerson_1 : decode cX9_findPerson 1 = .ok (.aload_n 0, 1) := by decide +kernel
theorem dX9_findPerson_2 : decode cX9_findPerson 2 = .ok (.invokevirtual 192, 3) := by decide +kernel
theorem dX9_findPerson_5 : decode cX9_findPerson 5 = .ok (.ifCond .ne 7, 3) := by decide +kernel
theorem dX9_findPerson_8 : decode cX9_findPerson 8 = .ok (.iconst 1, 1) := by decide +kernel
theorem dX9_findPerson_9 : decode cX9_findPerson 9 = .ok (.goto 4, 3) := by decide +kernel
theorem dX9_findPerson_12 : decode cX9_findPerson 12 = .ok (.iconst 0, 1) := by decide +kernel
theorem dX9_findPerson_13 : decode cX9_findPerson 13 = .ok (.iconst 1, 1) := by decide +kernel
theorem dX9_findPerson_14 : decode cX9_findPerson 14 = .ok (.invokevirtual 83, 3) := by decide +kernel
theorem dX9_findPerson_17 : decode cX9_findPerson 17 = .ok (.aload_n 0, 1) := by decide +kernel
theorem dX9_findPerson_18 : decode cX9_findPerson 18 = .ok (.getfield 21, 3) := by decide +kernel
theorem dX9_findPerson_21 : decode cX9_findPerson 21 = .ok (.getfield 196, 3) := by decide +kernel
theorem dX9_findPerson_24 : decode cX9_findPerson 24 = .ok (.aload_n 0, 1) := by decide +kernel
theorem dX9_findPerson_25 : decode cX9_findPerson 25 = .ok (.getfield 25, 3) := by decide +kernel
theorem dX9_findPerson_28 : decode cX9_findPerson 28 = .ok (.aload_n 0, 1) := by decide +kernel
theorem dX9_findPerson_29 : decode cX9_findPerson 29 = .ok (.getfield 12, 3) := by decide +kernel
theorem dX9_findPerson_32 : decode cX9_findPerson 32 = .ok (.getfield 100, 3) := by decide +kernel
theorem dX9_findPerson_35 : decode cX9_findPerson 35 = .ok (.invokestatic 200, 3) := by decide +kernel
theorem dX9_findPerson_38 : decode cX9_findPerson 38 = .ok (.istore_n 1, 1) := by decide +kernel
theorem dX9_findPerson_39 : decode cX9_findPerson 39 = .ok (.aload_n 0, 1) := by decide +kernel
theorem dX9_findPerson_40 : decode cX9_findPerson 40 = .ok (.iload_n 1, 1) := by decide +kernel
theorem dX9_findPerson_41 : decode cX9_findPerson 41 = .ok (.iconst (-1), 1) := by decide +kernel
theorem dX9_findPerson_42 : decode cX9_findPerson 42 = .ok (.if_icmp .ne 7, 3) := by decide +kernel
theorem dX9_findPerson_45 : decode cX9_findPerson 45 = .ok (.iconst 1, 1) := by decide +kernel
theorem dX9_findPerson_46 : decode cX9_findPerson 46 = .ok (.goto 4, 3) := by decide +kernel
theorem dX9_findPerson_49 : decode cX9_findPerson 49 = .ok (.iconst 0, 1) := by decide +kernel
theorem dX9_findPerson_50 : decode cX9_findPerson 50 = .ok (.iconst 2, 1) := by decide +kernel
theorem dX9_findPerson_51 : decode cX9_findPerson 51 = .ok (.invokevirtual 83, 3) := by decide +kernel
theorem dX9_findPerson_54 : decode cX9_findPerson 54 = .ok (.iload_n 1, 1) := by decide +kernel
theorem dX9_findPerson_55 : decode cX9_findPerson 55 = .ok (.ireturn, 1) := by decide +kernel
theorem dX9_takeNewName_0 : decode cX9_takeNewName 0 = .ok (.aload_n 0, 1) := by decide +kernel
theorem dX9_takeNewName_1 : decode cX9_takeNewName 1 = .ok (.aload_n 0, 1) := by decide +kernel
theorem dX9_takeNewName_2 : decode cX9_takeNewName 2 = .ok (.invokevirtual 192, 3) := by decide +kernel
theorem dX9_takeNewName_5 : decode cX9_takeNewName 5 = .ok (.ifCond .ne 7, 3) := by decide +kernel
theorem dX9_takeNewName_8 : decode cX9_takeNewName 8 = .ok (.iconst 1, 1) := by decide +kernel
theorem dX9_takeNewName_9 : decode cX9_takeNewName 9 = .ok (.goto 4, 3) := by decide +kernel
theorem dX9_takeNewName_12 : decode cX9_takeNewName 12 = .ok (.iconst 0, 1) := by decide +kernel
theorem dX9_takeNewName_13 : decode cX9_takeNewName 13 = .ok (.iconst 1, 1) := by decide +kernel
theorem dX9_takeNewName_14 : decode cX9_takeNewName 14 = .ok (.invokevirtual 83, 3) := by decide +kernel
theorem dX9_takeNewName_17 : decode cX9_takeNewName 17 = .ok (.aload_n 0, 1) := by decide +kernel
theorem dX9_takeNewName_18 : decode cX9_takeNewName 18 = .ok (.getfield 21, 3) := by decide +kernel
theorem dX9_takeNewName_21 : decode cX9_takeNewName 21 = .ok (.getfield 196, 3) := by decide +kernel
theorem dX9_takeNewName_24 : decode cX9_takeNewName 24 = .ok (.lstore_n 1, 1) := by decide +kernel
theorem dX9_takeNewName_25 : decode cX9_takeNewName 25 = .ok (.lload_n 1, 1) := by decide +kernel
theorem dX9_takeNewName_26 : decode cX9_takeNewName 26 = .ok (.aload_n 0, 1) := by decide +kernel
theorem dX9_takeNewName_27 : decode cX9_takeNewName 27 = .ok (.getfield 25, 3) := by decide +kernel
theorem dX9_takeNewName_30 : decode cX9_takeNewName 30 = .ok (.aload_n 0, 1) := by decide +kernel
theorem dX9_takeNewName_31 : decode cX9_takeNewName 31 = .ok (.getfield 12, 3) := by decide +kernel
theorem dX9_takeNewName_34 : decode cX9_takeNewName 34 = .ok (.getfield 100, 3) := by decide +kernel
theorem dX9_takeNewName_37 : decode cX9_takeNewName 37 = .ok (.invokestatic 200, 3) := by decide +kernel
theorem dX9_takeNewName_40 : decode cX9_takeNewName 40 = .ok (.iconst (-1), 1) := by decide +kernel
theorem dX9_takeNewName_41 : decode cX9_takeNewName 41 = .ok (.if_icmp .eq 7, 3) := by decide +kernel
theorem dX9_takeNewName_44 : decode cX9_takeNewName 44 = .ok (.iconst 1, 1) := by decide +kernel
theorem dX9_takeNewName_45 : decode cX9_takeNewName 45 = .ok (.goto 4, 3) := by decide +kernel
theorem dX9_takeNewName_48 : decode cX9_takeNewName 48 = .ok (.iconst 0, 1) := by decide +kernel
theorem dX9_takeNewName_49 : decode cX9_takeNewName 49 = .ok (.istore_n 3, 1) := by decide +kernel
theorem dX9_takeNewName_50 : decode cX9_takeNewName 50 = .ok (.lload_n 1, 1) := by decide +kernel
theorem dX9_takeNewName_51 : decode cX9_takeNewName 51 = .ok (.aload_n 0, 1) := by decide +kernel
theorem dX9_takeNewName_52 : decode cX9_takeNewName 52 = .ok (.getfield 29, 3) := by decide +kernel
theorem dX9_takeNewName_55 : decode cX9_takeNewName 55 = .ok (.aload_n 0, 1) := by decide +kernel
theorem dX9_takeNewName_56 : decode cX9_takeNewName 56 = .ok (.getfield 12, 3) := by decide +kernel
theorem dX9_takeNewName_59 : decode cX9_takeNewName 59 = .ok (.getfield 176, 3) := by decide +kernel
theorem dX9_takeNewName_62 : decode cX9_takeNewName 62 = .ok (.invokestatic 200, 3) := by decide +kernel
theorem dX9_takeNewName_65 : decode cX9_takeNewName 65 = .ok (.iconst (-1), 1) := by decide +kernel
theorem dX9_takeNewName_66 : decode cX9_takeNewName 66 = .ok (.if_icmp .eq 7, 3) := by decide +kernel
theorem dX9_takeNewName_69 : decode cX9_takeNewName 69 = .ok (.iconst 1, 1) := by decide +kernel
theorem dX9_takeNewName_70 : decode cX9_takeNewName 70 = .ok (.goto 4, 3) := by decide +kernel
theorem dX9_takeNewName_73 : decode cX9_takeNewName 73 = .ok (.iconst 0, 1) := by decide +kernel
theorem dX9_takeNewName_74 : decode cX9_takeNewName 74 = .ok (.istore 4, 2) := by decide +kernel
theorem dX9_takeNewName_76 : decode cX9_takeNewName 76 = .ok (.aload_n 0, 1) := by decide +kernel
theorem dX9_takeNewName_77 : decode cX9_takeNewName 77 = .ok (.iload_n 3, 1) := by decide +kernel
theorem dX9_takeNewName_78 : decode cX9_takeNewName 78 = .ok (.ifCond .ne 8, 3) := by decide +kernel
theorem dX9_takeNewName_81 : decode cX9_takeNewName 81 = .ok (.iload 4, 2) := by decide +kernel
theorem dX9_takeNewName_83 : decode cX9_takeNewName 83 = .ok (.ifCond .eq 7, 3) := by decide +kernel
theorem dX9_takeNewName_86 : decode cX9_takeNewName 86 = .ok (.iconst 1, 1) := by decide +kernel
theorem dX9_takeNewName_87 : decode cX9_takeNewName 87 = .ok (.goto 4, 3) := by decide +kernel
theorem dX9_takeNewName_90 : decode cX9_takeNewName 90 = .ok (.iconst 0, 1) := by decide +kernel
theorem dX9_takeNewName_91 : decode cX9_takeNewName 91 = .ok (.iconst 3, 1) := by decide +kernel
theorem dX9_takeNewName_92 : decode cX9_takeNewName 92 = .ok (.invokevirtual 83, 3) := by decide +kernel
theorem dX9_takeNewName_95 : decode cX9_takeNewName 95 = .ok (.aload_n 0, 1) := by decide +kernel
theorem dX9_takeNewName_96 : decode cX9_takeNewName 96 = .ok (.getfield 21, 3) := by decide +kernel
theorem dX9_takeNewName_99 : decode cX9_takeNewName 99 = .ok (.invokevirtual 87, 3) := by decide +kernel
theorem dX9_takeNewName_102 : decode cX9_takeNewName 102 = .ok (.lload_n 1, 1) := by decide +kernel
theorem dX9_takeNewName_103 : decode cX9_takeNewName 103 = .ok (.lreturn, 1) := by decide +kernel
theorem dX9_isAtName_0 : decode cX9_isAtName 0 = .ok (.aload_n 0, 1) := by decide +kernel
theorem dX9_isAtName_1 : decode cX9_isAtName 1 = .ok (.getfield 21, 3) := by decide +kernel
theorem dX9_isAtName_4 : decode cX9_isAtName 4 = .ok (.getfield 46, 3) := by decide +kernel
theorem dX9_isAtName_7 : decode cX9_isAtName 7 = .ok (.iconst 1, 1) := by decide +kernel
theorem dX9_isAtName_8 : decode cX9_isAtName 8 = .ok (.if_icmp .ne 28, 3) := by decide +kernel
theorem dX9_isAtName_11 : decode cX9_isAtName 11 = .ok (.aload_n 0, 1) := by decide +kernel
theorem dX9_isAtName_12 : decode cX9_isAtName 12 = .ok (.getfield 21, 3) := by decide +kernel
theorem dX9_isAtName_15 : decode cX9_isAtName 15 = .ok (.getfield 196, 3) := by decide +kernel
theorem dX9_isAtName_18 : decode cX9_isAtName 18 = .ok (.getstatic 204, 3) := by decide +kernel
theorem dX9_isAtName_21 : decode cX9_isAtName 21 = .ok (.getstatic 204, 3) := by decide +kernel
theorem dX9_isAtName_24 : decode cX9_isAtName 24 = .ok (.arraylength, 1) := by decide +kernel
theorem dX9_isAtName_25 : decode cX9_isAtName 25 = .ok (.invokestatic 200, 3) := by decide +kernel
theorem dX9_isAtName_28 : decode cX9_isAtName 28 = .ok (.iconst (-1), 1) := by decide +kernel
theorem dX9_isAtName_29 : decode cX9_isAtName 29 = .ok (.if_icmp .ne 7, 3) := by decide +kernel
theorem dX9_isAtName_32 : decode cX9_isAtName 32 = .ok (.iconst 1, 1) := by decide +kernel
theorem dX9_isAtName_33 : decode cX9_isAtName 33 = .ok (.goto 4, 3) := by decide +kernel
theorem dX9_isAtName_36 : decode cX9_isAtName 36 = .ok (.iconst 0, 1) := by decide +kernel
theorem dX9_isAtName_37 : decode cX9_isAtName 37 = .ok (.ireturn, 1) := by decide +kernel
theorem dX9_placeOf_0 : decode cX9_placeOf 0 = .ok (.iconst 0, 1) := by decide +kernel
theorem dX9_placeOf_1 : decode cX9_placeOf 1 = .ok (.istore 4, 2) := by decide +kernel
theorem dX9_placeOf_3 : decode cX9_placeOf 3 = .ok (.iload 4, 2) := by decide +kernel
theorem dX9_placeOf_5 : decode cX9_placeOf 5 = .ok (.iload_n 3, 1) := by decide +kernel
theorem dX9_placeOf_6 : decode cX9_placeOf 6 = .ok (.if_icmp .ge 28, 3) := by decide +kernel
theorem dX9_placeOf_9 : decode cX9_placeOf 9 = .ok (.iload 4, 2) := by decide +kernel
theorem dX9_placeOf_11 : decode cX9_placeOf 11 = .ok (.aload_n 2, 1) := by decide +kernel
theorem dX9_placeOf_12 : decode cX9_placeOf 12 = .ok (.arraylength, 1) := by decide +kernel
theorem dX9_placeOf_13 : decode cX9_placeOf 13 = .ok (.if_icmp .ge 21, 3) := by decide +kernel
theorem dX9_placeOf_16 : decode cX9_placeOf 16 = .ok (.aload_n 2, 1) := by decide +kernel
theorem dX9_placeOf_17 : decode cX9_placeOf 17 = .ok (.iload 4, 2) := by decide +kernel
theorem dX9_placeOf_19 : decode cX9_placeOf 19 = .ok (.laload, 1) := by decide +kernel
theorem dX9_placeOf_20 : decode cX9_placeOf 20 = .ok (.lload_n 0, 1) := by decide +kernel
theorem dX9_placeOf_21 : decode cX9_placeOf 21 = .ok (.lcmp, 1) := by decide +kernel
theorem dX9_placeOf_22 : decode cX9_placeOf 22 = .ok (.ifCond .ne 6, 3) := by decide +kernel
theorem dX9_placeOf_25 : decode cX9_placeOf 25 = .ok (.iload 4, 2) := by decide +kernel
theorem dX9_placeOf_27 : decode cX9_placeOf 27 = .ok (.ireturn, 1) := by decide +kernel
theorem dX9_placeOf_28 : decode cX9_placeOf 28 = .ok (.iinc 4 1, 3) := by decide +kernel
theorem dX9_placeOf_31 : decode cX9_placeOf 31 = .ok (.goto (-28), 3) := by decide +kernel
theorem dX9_placeOf_34 : decode cX9_placeOf 34 = .ok (.iconst (-1), 1) := by decide +kernel
theorem dX9_placeOf_35 : decode cX9_placeOf 35 = .ok (.ireturn, 1) := by decide +kernel
theorem dX9_failIf_0 : decode cX9_failIf 0 = .ok (.iload_n 1, 1) := by decide +kernel
theorem dX9_failIf_1 : decode cX9_failIf 1 = .ok (.ifCond .eq 26, 3) := by decide +kernel
theorem dX9_failIf_4 : decode cX9_failIf 4 = .ok (.aload_n 0, 1) := by decide +kernel
theorem dX9_failIf_5 : decode cX9_failIf 5 = .ok (.getfield 39, 3) := by decide +kernel
theorem dX9_failIf_8 : decode cX9_failIf 8 = .ok (.ifCond .ne 19, 3) := by decide +kernel
theorem dX9_failIf_11 : decode cX9_failIf 11 = .ok (.aload_n 0, 1) := by decide +kernel
theorem dX9_failIf_12 : decode cX9_failIf 12 = .ok (.iload_n 2, 1) := by decide +kernel
theorem dX9_failIf_13 : decode cX9_failIf 13 = .ok (.bipush 16, 2) := by decide +kernel
theorem dX9_failIf_15 : decode cX9_failIf 15 = .ok (.aload_n 0, 1) := by decide +kernel
theorem dX9_failIf_16 : decode cX9_failIf 16 = .ok (.getfield 21, 3) := by decide +kernel
theorem dX9_failIf_19 : decode cX9_failIf 19 = .ok (.getfield 207, 3) := by decide +kernel
theorem dX9_failIf_22 : decode cX9_failIf 22 = .ok (.imul, 1) := by decide +kernel
theorem dX9_failIf_23 : decode cX9_failIf 23 = .ok (.iadd, 1) := by decide +kernel
theorem dX9_failIf_24 : decode cX9_failIf 24 = .ok (.putfield 39, 3) := by decide +kernel
theorem dX9_failIf_27 : decode cX9_failIf 27 = .ok (.return_, 1) := by decide +kernel
theorem dX10_init_0 : decode cX10_init 0 = .ok (.aload_n 0, 1) := by decide +kernel
theorem dX10_init_1 : decode cX10_init 1 = .ok (.invokespecial 3, 3) := by decide +kernel
theorem dX10_init_4 : decode cX10_init 4 = .ok (.aload_n 0, 1) := by decide +kernel
theorem dX10_init_5 : decode cX10_init 5 = .ok (.new 9, 3) := by decide +kernel
theorem dX10_init_8 : decode cX10_init 8 = .ok (.dup, 1) := by decide +kernel
theorem dX10_init_9 : decode cX10_init 9 = .ok (.invokespecial 11, 3) := by decide +kernel
theorem dX10_init_12 : decode cX10_init 12 = .ok (.putfield 12, 3) := by decide +kernel
theorem dX10_init_15 : decode cX10_init 15 = .ok (.aload_n 0, 1) := by decide +kernel
theorem dX10_init_16 : decode cX10_init 16 = .ok (.new 18, 3) := by decide +kernel
theorem dX10_init_19 : decode cX10_init 19 = .ok (.dup, 1) := by decide +kernel
theorem dX10_init_20 : decode cX10_init 20 = .ok (.bipush 24, 2) := by decide +kernel
theorem dX10_init_22 : decode cX10_init 22 = .ok (.invokespecial 20, 3) := by decide +kernel
theorem dX10_init_25 : decode cX10_init 25 = .ok (.putfield 23, 3) := by decide +kernel
theorem dX10_init_28 : decode cX10_init 28 = .ok (.aload_n 0, 1) := by decide +kernel
theorem dX10_init_29 : decode cX10_init 29 = .ok (.new 18, 3) := by decide +kernel
theorem dX10_init_32 : decode cX10_init 32 = .ok (.dup, 1) := by decide +kernel
theorem dX10_init_33 : decode cX10_init 33 = .ok (.iconst 1, 1) := by decide +kernel
theorem dX10_init_34 : decode cX10_init 34 = .ok (.invokespecial 20, 3) := by decide +kernel
theorem dX10_init_37 : decode cX10_init 37 = .ok (.putfield 27, 3) := by decide +kernel
theorem dX10_init_40 : decode cX10_init 40 = .ok (.aload_n 0, 1) := by decide +kernel
theorem dX10_init_41 : decode cX10_init 41 = .ok (.new 30, 3) := by decide +kernel
theorem dX10_init_44 : decode cX10_init 44 = .ok (.dup, 1) := by decide +kernel
theorem dX10_init_45 : decode cX10_init 45 = .ok (.invokespecial 32, 3) := by decide +kernel
theorem dX10_init_48 : decode cX10_init 48 = .ok (.putfield 33, 3) := by decide +kernel
theorem dX10_init_51 : decode cX10_init 51 = .ok (.aload_n 0, 1) := by decide +kernel
theorem dX10_init_52 : decode cX10_init 52 = .ok (.sipush 366, 3) := by decide +kernel
theorem dX10_init_55 : decode cX10_init 55 = .ok (.newarray .boolean, 2) := by decide +kernel
theorem dX10_init_57 : decode cX10_init 57 = .ok (.putfield 37, 3) := by decide +kernel
theorem dX10_init_60 : decode cX10_init 60 = .ok (.aload_n 0, 1) := by decide +kernel
theorem dX10_init_61 : decode cX10_init 61 = .ok (.bipush 12, 2) := by decide +kernel
theorem dX10_init_63 : decode cX10_init 63 = .ok (.newarray .int, 2) := by decide +kernel
theorem dX10_init_65 : decode cX10_init 65 = .ok (.putfield 41, 3) := by decide +kernel
theorem dX10_init_68 : decode cX10_init 68 = .ok (.aload_n 0, 1) := by decide +kernel
theorem dX10_init_69 : decode cX10_init 69 = .ok (.getfield 41, 3) := by decide +kernel
theorem dX10_init_72 : decode cX10_init 72 = .ok (.bipush (-2), 2) := by decide +kernel
theorem dX10_init_74 : decode cX10_init 74 = .ok (.invokestatic 45, 3) := by decide +kernel
theorem dX10_init_77 : decode cX10_init 77 = .ok (.return_, 1) := by decide +kernel
theorem dX10_forget_0 : decode cX10_forget 0 = .ok (.aload_n 0, 1) := by decide +kernel
theorem dX10_forget_1 : decode cX10_forget 1 = .ok (.getfield 41, 3) := by decide +kernel
theorem dX10_forget_4 : decode cX10_forget 4 = .ok (.bipush (-2), 2) := by decide +kernel
theorem dX10_forget_6 : decode cX10_forget 6 = .ok (.invokestatic 45, 3) := by decide +kernel
theorem dX10_forget_9 : decode cX10_forget 9 = .ok (.return_, 1) := by decide +kernel
theorem dX10_tryNewcomer_0 : decode cX10_tryNewcomer 0 = .ok (.aload_n 0, 1) := by decide +kernel
theorem dX10_tryNewcomer_1 : decode cX10_tryNewcomer 1 = .ok (.getfield 12, 3) := by decide +kernel
theorem dX10_tryNewcomer_4 : decode cX10_tryNewcomer 4 = .ok (.aload_n 1, 1) := by decide +kernel
theorem dX10_tryNewcomer_5 : decode cX10_tryNewcomer 5 = .ok (.invokevirtual 51, 3) := by decide +kernel
theorem dX10_tryNewcomer_8 : decode cX10_tryNewcomer 8 = .ok (.aload_n 0, 1) := by decide +kernel
theorem dX10_tryNewcomer_9 : decode cX10_tryNewcomer 9 = .ok (.aload_n 1, 1) := by decide +kernel
theorem dX10_tryNewcomer_10 : decode cX10_tryNewcomer 10 = .ok (.invokevirtual 55, 3) := by decide +kernel
theorem dX10_tryNewcomer_13 : decode cX10_tryNewcomer 13 = .ok (.aload_n 0, 1) := by decide +kernel
theorem dX10_tryNewcomer_14 : decode cX10_tryNewcomer 14 = .ok (.getfield 12, 3) := by decide +kernel
theorem dX10_tryNewcomer_17 : decode cX10_tryNewcomer 17 = .ok (.getfield 58, 3) := by decide +kernel
theorem dX10_tryNewcomer_20 : decode cX10_tryNewcomer 20 = .ok (.istore 6, 2) := by decide +kernel
theorem dX10_tryNewcomer_22 : decode cX10_tryNewcomer 22 = .ok (.aload_n 0, 1) := by decide +kernel
theorem dX10_tryNewcomer_23 : decode cX10_tryNewcomer 23 = .ok (.getfield 12, 3) := by decide +kernel
theorem dX10_tryNewcomer_26 : decode cX10_tryNewcomer 26 = .ok (.iconst (-1), 1) := by decide +kernel
theorem dX10_tryNewcomer_27 : decode cX10_tryNewcomer 27 = .ok (.invokevirtual 62, 3) := by decide +kernel
theorem dX10_tryNewcomer_30 : decode cX10_tryNewcomer 30 = .ok (.iconst 0, 1) := by decide +kernel
theorem dX10_tryNewcomer_31 : decode cX10_tryNewcomer 31 = .ok (.istore 7, 2) := by decide +kernel
theorem dX10_tryNewcomer_33 : decode cX10_tryNewcomer 33 = .ok (.iload 7, 2) := by decide +kernel
theorem dX10_tryNewcomer_35 : decode cX10_tryNewcomer 35 = .ok (.iload 6, 2) := by decide +kernel
theorem dX10_tryNewcomer_37 : decode cX10_tryNewcomer 37 = .ok (.if_icmp .ge 49, 3) := by decide +kernel
theorem dX10_tryNewcomer_40 : decode cX10_tryNewcomer 40 = .ok (.iload_n 2, 1) := by decide +kernel
theorem dX10_tryNewcomer_41 : decode cX10_tryNewcomer 41 = .ok (.iload 7, 2) := by decide +kernel
theorem dX10_tryNewcomer_43 : decode cX10_tryNewcomer 43 = .ok (.invokestatic 65, 3) := by decide +kernel
theorem dX10_tryNewcomer_46 : decode cX10_tryNewcomer 46 = .ok (.ifCond .eq 14, 3) := by decide +kernel
theorem dX10_tryNewcomer_49 : decode cX10_tryNewcomer 49 = .ok (.aload_n 0, 1) := by decide +kernel
theorem dX10_tryNewcomer_50 : decode cX10_tryNewcomer 50 = .ok (.getfield 12, 3) := by decide +kernel
theorem dX10_tryNewcomer_53 : decode cX10_tryNewcomer 53 = .ok (.iload 6, 2) := by decide +kernel
theorem dX10_tryNewcomer_55 : decode cX10_tryNewcomer 55 = .ok (.iload 7, 2) := by decide +kernel
theorem dX10_tryNewcomer_57 : decode cX10_tryNewcomer 57 = .ok (.invokevirtual 69, 3) := by decide +kernel
theorem dX10_tryNewcomer_60 : decode cX10_tryNewcomer 60 = .ok (.iload_n 3, 1) := by decide +kernel
theorem dX10_tryNewcomer_61 : decode cX10_tryNewcomer 61 = .ok (.iload 7, 2) := by decide +kernel
theorem dX10_tryNewcomer_63 : decode cX10_tryNewcomer 63 = .ok (.invokestatic 65, 3) := by decide +kernel
theorem dX10_tryNewcomer_66 : decode cX10_tryNewcomer 66 = .ok (.ifCond .eq 14, 3) := by decide +kernel
theorem dX10_tryNewcomer_69 : decode cX10_tryNewcomer 69 = .ok (.aload_n 0, 1) := by decide +kernel
theorem dX10_tryNewcomer_70 : decode cX10_tryNewcomer 70 = .ok (.getfield 12, 3) := by decide +kernel
theorem dX10_tryNewcomer_73 : decode cX10_tryNewcomer 73 = .ok (.iload 7, 2) := by decide +kernel
theorem dX10_tryNewcomer_75 : decode cX10_tryNewcomer 75 = .ok (.iload 6, 2) := by decide +kernel
theorem dX10_tryNewcomer_77 : decode cX10_tryNewcomer 77 = .ok (.invokevirtual 69, 3) := by decide +kernel
theorem dX10_tryNewcomer_80 : decode cX10_tryNewcomer 80 = .ok (.iinc 7 1, 3) := by decide +kernel
theorem dX10_tryNewcomer_83 : decode cX10_tryNewcomer 83 = .ok (.goto (-50), 3) := by decide +kernel
theorem dX10_tryNewcomer_86 : decode cX10_tryNewcomer 86 = .ok (.aload_n 0, 1) := by decide +kernel
theorem dX10_tryNewcomer_87 : decode cX10_tryNewcomer 87 = .ok (.getfield 23, 3) := by decide +kernel
theorem dX10_tryNewcomer_90 : decode cX10_tryNewcomer 90 = .ok (.aload_n 0, 1) := by decide +kernel
theorem dX10_tryNewcomer_91 : decode cX10_tryNewcomer 91 = .ok (.getfield 12, 3) := by decide +kernel
theorem dX10_tryNewcomer_94 : decode cX10_tryNewcomer 94 = .ok (.invokevirtual 73, 3) := by decide +kernel
theorem dX10_tryNewcomer_97 : decode cX10_tryNewcomer 97 = .ok (.aload_n 0, 1) := by decide +kernel
theorem dX10_tryNewcomer_98 : decode cX10_tryNewcomer 98 = .ok (.iconst (-1), 1) := by decide +kernel
theorem dX10_tryNewcomer_99 : decode cX10_tryNewcomer 99 = .ok (.putfield 76, 3) := by decide +kernel
theorem dX10_tryNewcomer_102 : decode cX10_tryNewcomer 102 = .ok (.aload_n 0, 1) := by decide +kernel
theorem dX10_tryNewcomer_103 : decode cX10_tryNewcomer 103 = .ok (.iconst (-1), 1) := by decide +kernel
theorem dX10_tryNewcomer_104 : decode cX10_tryNewcomer 104 = .ok (.putfield 79, 3) := by decide +kernel
theorem dX10_tryNewcomer_107 : decode cX10_tryNewcomer 107 = .ok (.sipush 4391, 3) := by decide +kernel
theorem dX10_tryNewcomer_110 : decode cX10_tryNewcomer 110 = .ok (.istore 7, 2) := by decide +kernel
theorem dX10_tryNewcomer_112 : decode cX10_tryNewcomer 112 = .ok (.iconst 0, 1) := by decide +kernel
theorem dX10_tryNewcomer_113 : decode cX10_tryNewcomer 113 = .ok (.istore 8, 2) := by decide +kernel
theorem dX10_tryNewcomer_115 : decode cX10_tryNewcomer 115 = .ok (.iload 8, 2) := by decide +kernel
theorem dX10_tryNewcomer_117 : decode cX10_tryNewcomer 117 = .ok (.sipush 366, 3) := by decide +kernel
theorem dX10_tryNewcomer_120 : decode cX10_tryNewcomer 120 = .ok (.if_icmp .ge 114, 3) := by decide +kernel
theorem dX10_tryNewcomer_123 : decode cX10_tryNewcomer 123 = .ok (.aload_n 0, 1) := by decide +kernel
theorem dX10_tryNewcomer_124 : decode cX10_tryNewcomer 124 = .ok (.iload 8, 2) := by decide +kernel
theorem dX10_tryNewcomer_126 : decode cX10_tryNewcomer 126 = .ok (.invokevirtual 82, 3) := by decide +kernel
theorem dX10_tryNewcomer_129 : decode cX10_tryNewcomer 129 = .ok (.ifCond .ne 6, 3) := by decide +kernel
theorem dX10_tryNewcomer_132 : decode cX10_tryNewcomer 132 = .ok (.goto 96, 3) := by decide +kernel
theorem dX10_tryNewcomer_135 : decode cX10_tryNewcomer 135 = .ok (.aload_n 0, 1) := by decide +kernel
theorem dX10_tryNewcomer_136 : decode cX10_tryNewcomer 136 = .ok (.getfield 27, 3) := by decide +kernel
theorem dX10_tryNewcomer_139 : decode cX10_tryNewcomer 139 = .ok (.aload_n 0, 1) := by decide +kernel
theorem dX10_tryNewcomer_140 : decode cX10_tryNewcomer 140 = .ok (.getfield 12, 3) := by decide +kernel
theorem dX10_tryNewcomer_143 : decode cX10_tryNewcomer 143 = .ok (.iload 6, 2) := by decide +kernel
theorem dX10_tryNewcomer_145 : decode cX10_tryNewcomer 145 = .ok (.iload 8, 2) := by decide +kernel
theorem dX10_tryNewcomer_147 : decode cX10_tryNewcomer 147 = .ok (.invokevirtual 86, 3) := by decide +kernel
theorem dX10_tryNewcomer_150 : decode cX10_tryNewcomer 150 = .ok (.aload_n 0, 1) := by decide +kernel
theorem dX10_tryNewcomer_151 : decode cX10_tryNewcomer 151 = .ok (.getfield 33, 3) := by decide +kernel
theorem dX10_tryNewcomer_154 : decode cX10_tryNewcomer 154 = .ok (.aload_n 0, 1) := by decide +kernel
theorem dX10_tryNewcomer_155 : decode cX10_tryNewcomer 155 = .ok (.getfield 23, 3) := by decide +kernel
theorem dX10_tryNewcomer_158 : decode cX10_tryNewcomer 158 = .ok (.aload_n 0, 1) := by decide +kernel
theorem dX10_tryNewcomer_159 : decode cX10_tryNewcomer 159 = .ok (.getfield 27, 3) := by decide +kernel
theorem dX10_tryNewcomer_162 : decode cX10_tryNewcomer 162 = .ok (.aload_n 0, 1) := by decide +kernel
theorem dX10_tryNewcomer_163 : decode cX10_tryNewcomer 163 = .ok (.getfield 12, 3) := by decide +kernel
theorem dX10_tryNewcomer_166 : decode cX10_tryNewcomer 166 = .ok (.getfield 90, 3) := by decide +kernel
theorem dX10_tryNewcomer_169 : decode cX10_tryNewcomer 169 = .ok (.iload 4, 2) := by decide +kernel
theorem dX10_tryNewcomer_171 : decode cX10_tryNewcomer 171 = .ok (.iaload, 1) := by decide +kernel
theorem dX10_tryNewcomer_172 : decode cX10_tryNewcomer 172 = .ok (.aload_n 0, 1) := by decide +kernel
theorem dX10_tryNewcomer_173 : decode cX10_tryNewcomer 173 = .ok (.getfield 12, 3) := by decide +kernel
theorem dX10_tryNewcomer_176 : decode cX10_tryNewcomer 176 = .ok (.getfield 93, 3) := by decide +kernel
theorem dX10_tryNewcomer_179 : decode cX10_tryNewcomer 179 = .ok (.iload 4, 2) := by decide +kernel
theorem dX10_tryNewcomer_181 : decode cX10_tryNewcomer 181 = .ok (.iaload, 1) := by decide +kernel
theorem dX10_tryNewcomer_182 : decode cX10_tryNewcomer 182 = .ok (.iload 7, 2) := by decide +kernel
theorem dX10_tryNewcomer_184 : decode cX10_tryNewcomer 184 = .ok (.invokevirtual 96, 3) := by decide +kernel
theorem dX10_tryNewcomer_187 : decode cX10_tryNewcomer 187 = .ok (.aload_n 0, 1) := by decide +kernel
theorem dX10_tryNewcomer_188 : decode cX10_tryNewcomer 188 = .ok (.getfield 33, 3) := by decide +kernel
theorem dX10_tryNewcomer_191 : decode cX10_tryNewcomer 191 = .ok (.iload 5, 2) := by decide +kernel
theorem dX10_tryNewcomer_193 : decode cX10_tryNewcomer 193 = .ok (.iload 7, 2) := by decide +kernel
theorem dX10_tryNewcomer_195 : decode cX10_tryNewcomer 195 = .ok (.invokevirtual 100, 3) := by decide +kernel
theorem dX10_tryNewcomer_198 : decode cX10_tryNewcomer 198 = .ok (.ifCond .eq 30, 3) := by decide +kernel
theorem dX10_tryNewcomer_201 : decode cX10_tryNewcomer 201 = .ok (.aload_n 0, 1) := by decide +kernel
theorem dX10_tryNewcomer_202 : decode cX10_tryNewcomer 202 = .ok (.aload_n 0, 1) := by decide +kernel
theorem dX10_tryNewcomer_203 : decode cX10_tryNewcomer 203 = .ok (.getfield 33, 3) := by decide +kernel
theorem dX10_tryNewcomer_206 : decode cX10_tryNewcomer 206 = .ok (.iload 5, 2) := by decide +kernel
theorem dX10_tryNewcomer_208 : decode cX10_tryNewcomer 208 = .ok (.invokevirtual 103, 3) := by decide +kernel
theorem dX10_tryNewcomer_211 : decode cX10_tryNewcomer 211 = .ok (.putfield 76, 3) := by decide +kernel
theorem dX10_tryNewcomer_214 : decode cX10_tryNewcomer 214 = .ok (.aload_n 0, 1) := by decide +kernel
theorem dX10_tryNewcomer_215 : decode cX10_tryNewcomer 215 = .ok (.iload 8, 2) := by decide +kernel
theorem dX10_tryNewcomer_217 : decode cX10_tryNewcomer 217 = .ok (.putfield 79, 3) := by decide +kernel
theorem dX10_tryNewcomer_220 : decode cX10_tryNewcomer 220 = .ok (.aload_n 0, 1) := by decide +kernel
theorem dX10_tryNewcomer_221 : decode cX10_tryNewcomer 221 = .ok (.getfield 76, 3) := by decide +kernel
theorem dX10_tryNewcomer_224 : decode cX10_tryNewcomer 224 = .ok (.iconst 1, 1) := by decide +kernel
theorem dX10_tryNewcomer_225 : decode cX10_tryNewcomer 225 = .ok (.isub, 1) := by decide +kernel
theorem dX10_tryNewcomer_226 : decode cX10_tryNewcomer 226 = .ok (.istore 7, 2) := by decide +kernel
theorem dX10_tryNewcomer_228 : decode cX10_tryNewcomer 228 = .ok (.iinc 8 1, 3) := by decide +kernel
theorem dX10_tryNewcomer_231 : decode cX10_tryNewcomer 231 = .ok (.goto (-116), 3) := by decide +kernel
theorem dX10_tryNewcomer_234 : decode cX10_tryNewcomer 234 = .ok (.return_, 1) := by decide +kernel
theorem dX10_otherBirthday_0 : decode cX10_otherBirthday 0 = .ok (.aload_n 0, 1) := by decide +kernel
theorem dX10_otherBirthday_1 : decode cX10_otherBirthday 1 = .ok (.getfield 41, 3) := by decide +kernel
theorem dX10_otherBirthday_4 : decode cX10_otherBirthday 4 = .ok (.iload_n 3, 1) := by decide +kernel
theorem dX10_otherBirthday_5 : decode cX10_otherBirthday 5 = .ok (.iaload, 1) := by decide +kernel
theorem dX10_otherBirthday_6 : decode cX10_otherBirthday 6 = .ok (.bipush (-2), 2) := by decide +kernel
theorem dX10_otherBirthday_8 : decode cX10_otherBirthday 8 = .ok (.if_icmp .ne 16, 3) := by decide +kernel
theorem dX10_otherBirthday_11 : decode cX10_otherBirthday 11 = .ok (.aload_n 0, 1) := by decide +kernel
theorem dX10_otherBirthday_12 : decode cX10_otherBirthday 12 = .ok (.getfield 41, 3) := by decide +kernel
theorem dX10_otherBirthday_15 : decode cX10_otherBirthday 15 = .ok (.iload_n 3, 1) := by decide +kernel
theorem dX10_otherBirthday_16 : decode cX10_otherBirthday 16 = .ok (.aload_n 0, 1) := by decide +kernel
theorem dX10_otherBirthday_17 : decode cX10_otherBirthday 17 = .ok (.aload_n 1, 1) := by decide +kernel
theorem dX10_otherBirthday_18 : decode cX10_otherBirthday 18 = .ok (.aload_n 2, 1) := by decide +kernel
theorem dX10_otherBirthday_19 : decode cX10_otherBirthday 19 = .ok (.iload_n 3, 1) := by decide +kernel
theorem dX10_otherBirthday_20 : decode cX10_otherBirthday 20 = .ok (.invokevirtual 107, 3) := by decide +kernel
theorem dX10_otherBirthday_23 : decode cX10_otherBirthday 23 = .ok (.iastore, 1) := by decide +kernel
theorem dX10_otherBirthday_24 : decode cX10_otherBirthday 24 = .ok (.aload_n 0, 1) := by decide +kernel
theorem dX10_otherBirthday_25 : decode cX10_otherBirthday 25 = .ok (.getfield 41, 3) := by decide +kernel
theorem dX10_otherBirthday_28 : decode cX10_otherBirthday 28 = .ok (.iload_n 3, 1) := by decide +kernel
theorem dX10_otherBirthday_29 : decode cX10_otherBirthday 29 = .ok (.iaload, 1) := by decide +kernel
theorem dX10_otherBirthday_30 : decode cX10_otherBirthday 30 = .ok (.ireturn, 1) := by decide +kernel
theorem dX10_findOtherBirthday_0 : decode cX10_findOtherBirthday 0 = .ok (.aload_n 0, 1) := by decide +kernel
theorem dX10_findOtherBirthday_1 : decode cX10_findOtherBirthday 1 = .ok (.getfield 12, 3) := by decide +kernel
theorem dX10_findOtherBirthday_4 : decode cX10_findOtherBirthday 4 = .ok (.aload_n 1, 1) := by decide +kernel
theorem dX10_findOtherBirthday_5 : decode cX10_findOtherBirthday 5 = .ok (.invokevirtual 51, 3) := by decide +kernel
theorem dX10_findOtherBirthday_8 : decode cX10_findOtherBirthday 8 = .ok (.aload_n 0, 1) := by decide +kernel
theorem dX10_findOtherBirthday_9 : decode cX10_findOtherBirthday 9 = .ok (.aload_n 1, 1) := by decide +kernel
theorem dX10_findOtherBirthday_10 : decode cX10_findOtherBirthday 10 = .ok (.invokevirtual 55, 3) := by decide +kernel
theorem dX10_findOtherBirthday_13 : decode cX10_findOtherBirthday 13 = .ok (.iconst 0, 1) := by decide +kernel
theorem dX10_findOtherBirthday_14 : decode cX10_findOtherBirthday 14 = .ok (.istore 4, 2) := by decide +kernel
theorem dX10_findOtherBirthday_16 : decode cX10_findOtherBirthday 16 = .ok (.iload 4, 2) := by decide +kernel
theorem dX10_findOtherBirthday_18 : decode cX10_findOtherBirthday 18 = .ok (.aload_n 2, 1) := by decide +kernel
theorem dX10_findOtherBirthday_19 : decode cX10_findOtherBirthday 19 = .ok (.getfield 111, 3) := by decide +kernel
theorem dX10_findOtherBirthday_22 : decode cX10_findOtherBirthday 22 = .ok (.if_icmp .ge 26, 3) := by decide +kernel
theorem dX10_findOtherBirthday_25 : decode cX10_findOtherBirthday 25 = .ok (.aload_n 0, 1) := by decide +kernel
theorem dX10_findOtherBirthday_26 : decode cX10_findOtherBirthday 26 = .ok (.getfield 37, 3) := by decide +kernel
theorem dX10_findOtherBirthday_29 : decode cX10_findOtherBirthday 29 = .ok (.aload_n 2, 1) := by decide +kernel
theorem dX10_findOtherBirthday_30 : decode cX10_findOtherBirthday 30 = .ok (.getfield 116, 3) := by decide +kernel
theorem dX10_findOtherBirthday_33 : decode cX10_findOtherBirthday 33 = .ok (.iload 4, 2) := by decide +kernel
theorem dX10_findOtherBirthday_35 : decode cX10_findOtherBirthday 35 = .ok (.iaload, 1) := by decide +kernel
theorem dX10_findOtherBirthday_36 : decode cX10_findOtherBirthday 36 = .ok (.sipush 366, 3) := by decide +kernel
theorem dX10_findOtherBirthday_39 : decode cX10_findOtherBirthday 39 = .ok (.irem, 1) := by decide +kernel
theorem dX10_findOtherBirthday_40 : decode cX10_findOtherBirthday 40 = .ok (.iconst 1, 1) := by decide +kernel
theorem dX10_findOtherBirthday_41 : decode cX10_findOtherBirthday 41 = .ok (.bastore, 1) := by decide +kernel
theorem dX10_findOtherBirthday_42 : decode cX10_findOtherBirthday 42 = .ok (.iinc 4 1, 3) := by decide +kernel
theorem dX10_findOtherBirthday_45 : decode cX10_findOtherBirthday 45 = .ok (.goto (-29), 3) := by decide +kernel
theorem dX10_findOtherBirthday_48 : decode cX10_findOtherBirthday 48 = .ok (.aload_n 0, 1) := by decide +kernel
theorem dX10_findOtherBirthday_49 : decode cX10_findOtherBirthday 49 = .ok (.getfield 12, 3) := by decide +kernel
theorem dX10_findOtherBirthday_52 : decode cX10_findOtherBirthday 52 = .ok (.getfield 119, 3) := by decide +kernel
theorem dX10_findOtherBirthday_55 : decode cX10_findOtherBirthday 55 = .ok (.iload_n 3, 1) := by decide +kernel
theorem dX10_findOtherBirthday_56 : decode cX10_findOtherBirthday 56 = .ok (.iconst (-1), 1) := by decide +kernel
theorem dX10_findOtherBirthday_57 : decode cX10_findOtherBirthday 57 = .ok (.iastore, 1) := by decide +kernel
theorem dX10_findOtherBirthday_58 : decode cX10_findOtherBirthday 58 = .ok (.aload_n 0, 1) := by decide +kernel
theorem dX10_findOtherBirthday_59 : decode cX10_findOtherBirthday 59 = .ok (.getfield 23, 3) := by decide +kernel
theorem dX10_findOtherBirthday_62 : decode cX10_findOtherBirthday 62 = .ok (.aload_n 0, 1) := by decide +kernel
theorem dX10_findOtherBirthday_63 : decode cX10_findOtherBirthday 63 = .ok (.getfield 12, 3) := by decide +kernel
theorem dX10_findOtherBirthday_66 : decode cX10_findOtherBirthday 66 = .ok (.invokevirtual 73, 3) := by decide +kernel
theorem dX10_findOtherBirthday_69 : decode cX10_findOtherBirthday 69 = .ok (.iconst 0, 1) := by decide +kernel
theorem dX10_findOtherBirthday_70 : decode cX10_findOtherBirthday 70 = .ok (.istore 4, 2) := by decide +kernel
theorem dX10_findOtherBirthday_72 : decode cX10_findOtherBirthday 72 = .ok (.iload 4, 2) := by decide +kernel
theorem dX10_findOtherBirthday_74 : decode cX10_findOtherBirthday 74 = .ok (.sipush 366, 3) := by decide +kernel
theorem dX10_findOtherBirthday_77 : decode cX10_findOtherBirthday 77 = .ok (.if_icmp .ge 57, 3) := by decide +kernel
theorem dX10_findOtherBirthday_80 : decode cX10_findOtherBirthday 80 = .ok (.iload 4, 2) := by decide +kernel
theorem dX10_findOtherBirthday_82 : decode cX10_findOtherBirthday 82 = .ok (.aload_n 1, 1) := by decide +kernel
theorem dX10_findOtherBirthday_83 : decode cX10_findOtherBirthday 83 = .ok (.getfield 119, 3) := by decide +kernel
theorem dX10_findOtherBirthday_86 : decode cX10_findOtherBirthday 86 = .ok (.iload_n 3, 1) := by decide +kernel
theorem dX10_findOtherBirthday_87 : decode cX10_findOtherBirthday 87 = .ok (.iaload, 1) := by decide +kernel
theorem dX10_findOtherBirthday_88 : decode cX10_findOtherBirthday 88 = .ok (.if_icmp .eq 40, 3) := by decide +kernel
theorem dX10_findOtherBirthday_91 : decode cX10_findOtherBirthday 91 = .ok (.aload_n 0, 1) := by decide +kernel
theorem dX10_findOtherBirthday_92 : decode cX10_findOtherBirthday 92 = .ok (.iload 4, 2) := by decide +kernel
theorem dX10_findOtherBirthday_94 : decode cX10_findOtherBirthday 94 = .ok (.invokevirtual 82, 3) := by decide +kernel
theorem dX10_findOtherBirthday_97 : decode cX10_findOtherBirthday 97 = .ok (.ifCond .ne 6, 3) := by decide +kernel
theorem dX10_findOtherBirthday_100 : decode cX10_findOtherBirthday 100 = .ok (.goto 28, 3) := by decide +kernel
theorem dX10_findOtherBirthday_103 : decode cX10_findOtherBirthday 103 = .ok (.aload_n 0, 1) := by decide +kernel
theorem dX10_findOtherBirthday_104 : decode cX10_findOtherBirthday 104 = .ok (.getfield 27, 3) := by decide +kernel
theorem dX10_findOtherBirthday_107 : decode cX10_findOtherBirthday 107 = .ok (.aload_n 0, 1) := by decide +kernel
theorem dX10_findOtherBirthday_108 : decode cX10_findOtherBirthday 108 = .ok (.getfield 12, 3) := by decide +kernel
theorem dX10_findOtherBirthday_111 : decode cX10_findOtherBirthday 111 = .ok (.iload_n 3, 1) := by decide +kernel
theorem dX10_findOtherBirthday_112 : decode cX10_findOtherBirthday 112 = .ok (.iload 4, 2) := by decide +kernel
theorem dX10_findOtherBirthday_114 : decode cX10_findOtherBirthday 114 = .ok (.invokevirtual 86, 3) := by decide +kernel
theorem dX10_findOtherBirthday_117 : decode cX10_findOtherBirthday 117 = .ok (.aload_n 0, 1) := by decide +kernel
theorem dX10_findOtherBirthday_118 : decode cX10_findOtherBirthday 118 = .ok (.aload_n 2, 1) := by decide +kernel
theorem dX10_findOtherBirthday_119 : decode cX10_findOtherBirthday 119 = .ok (.invokevirtual 122, 3) := by decide +kernel
theorem dX10_findOtherBirthday_122 : decode cX10_findOtherBirthday 122 = .ok (.ifCond .eq 6, 3) := by decide +kernel
theorem dX10_findOtherBirthday_125 : decode cX10_findOtherBirthday 125 = .ok (.iload 4, 2) := by decide +kernel
theorem dX10_findOtherBirthday_127 : decode cX10_findOtherBirthday 127 = .ok (.ireturn, 1) := by decide +kernel
theorem dX10_findOtherBirthday_128 : decode cX10_findOtherBirthday 128 = .ok (.iinc 4 1, 3) := by decide +kernel
theorem dX10_findOtherBirthday_131 : decode cX10_findOtherBirthday 131 = .ok (.goto (-59), 3) := by decide +kernel
theorem dX10_findOtherBirthday_134 : decode cX10_findOtherBirthday 134 = .ok (.iconst (-1), 1) := by decide +kernel
theorem dX10_findOtherBirthday_135 : decode cX10_findOtherBirthday 135 = .ok (.ireturn, 1) := by decide +kernel
theorem dX10_allAgree_0 : decode cX10_allAgree 0 = .ok (.iconst 0, 1) := by decide +kernel
theorem dX10_allAgree_1 : decode cX10_allAgree 1 = .ok (.istore_n 2, 1) := by decide +kernel
theorem dX10_allAgree_2 : decode cX10_allAgree 2 = .ok (.iload_n 2, 1) := by decide +kernel
theorem dX10_allAgree_3 : decode cX10_allAgree 3 = .ok (.aload_n 0, 1) := by decide +kernel
theorem dX10_allAgree_4 : decode cX10_allAgree 4 = .ok (.getfield 12, 3) := by decide +kernel
theorem dX10_allAgree_7 : decode cX10_allAgree 7 = .ok (.getfield 126, 3) := by decide +kernel
theorem dX10_allAgree_10 : decode cX10_allAgree 10 = .ok (.if_icmp .ge 63, 3) := by decide +kernel
theorem dX10_allAgree_13 : decode cX10_allAgree 13 = .ok (.aload_n 1, 1) := by decide +kernel
theorem dX10_allAgree_14 : decode cX10_allAgree 14 = .ok (.iload_n 2, 1) := by decide +kernel
theorem dX10_allAgree_15 : decode cX10_allAgree 15 = .ok (.invokevirtual 129, 3) := by decide +kernel
theorem dX10_allAgree_18 : decode cX10_allAgree 18 = .ok (.istore_n 3, 1) := by decide +kernel
theorem dX10_allAgree_19 : decode cX10_allAgree 19 = .ok (.aload_n 0, 1) := by decide +kernel
theorem dX10_allAgree_20 : decode cX10_allAgree 20 = .ok (.getfield 33, 3) := by decide +kernel
theorem dX10_allAgree_23 : decode cX10_allAgree 23 = .ok (.aload_n 0, 1) := by decide +kernel
theorem dX10_allAgree_24 : decode cX10_allAgree 24 = .ok (.getfield 23, 3) := by decide +kernel
theorem dX10_allAgree_27 : decode cX10_allAgree 27 = .ok (.aload_n 0, 1) := by decide +kernel
theorem dX10_allAgree_28 : decode cX10_allAgree 28 = .ok (.getfield 27, 3) := by decide +kernel
theorem dX10_allAgree_31 : decode cX10_allAgree 31 = .ok (.aload_n 0, 1) := by decide +kernel
theorem dX10_allAgree_32 : decode cX10_allAgree 32 = .ok (.getfield 12, 3) := by decide +kernel
theorem dX10_allAgree_35 : decode cX10_allAgree 35 = .ok (.getfield 90, 3) := by decide +kernel
