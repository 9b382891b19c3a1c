theorem dX12_findDays_25 : decode cX12_findDays 25 = .ok (.getfield 65, 3) := by decide +kernel
theorem dX12_findDays_28 : decode cX12_findDays 28 = .ok (.iconst 1, 1) := by decide +kernel
theorem dX12_findDays_29 : decode cX12_findDays 29 = .ok (.iaload, 1) := by decide +kernel
theorem dX12_findDays_30 : decode cX12_findDays 30 = .ok (.iconst 1, 1) := by decide +kernel
theorem dX12_findDays_31 : decode cX12_findDays 31 = .ok (.if_icmp .ne 36, 3) := by decide +kernel
theorem dX12_findDays_34 : decode cX12_findDays 34 = .ok (.aload_n 0, 1) := by decide +kernel
theorem dX12_findDays_35 : decode cX12_findDays 35 = .ok (.getfield 65, 3) := by decide +kernel
theorem dX12_findDays_38 : decode cX12_findDays 38 = .ok (.iconst 3, 1) := by decide +kernel
theorem dX12_findDays_39 : decode cX12_findDays 39 = .ok (.iconst 4, 1) := by decide +kernel
theorem dX12_findDays_40 : decode cX12_findDays 40 = .ok (.iload_n 1, 1) := by decide +kernel
theorem dX12_findDays_41 : decode cX12_findDays 41 = .ok (.imul, 1) := by decide +kernel
theorem dX12_findDays_42 : decode cX12_findDays 42 = .ok (.iadd, 1) := by decide +kernel
theorem dX12_findDays_43 : decode cX12_findDays 43 = .ok (.iconst 1, 1) := by decide +kernel
theorem dX12_findDays_44 : decode cX12_findDays 44 = .ok (.iadd, 1) := by decide +kernel
theorem dX12_findDays_45 : decode cX12_findDays 45 = .ok (.iaload, 1) := by decide +kernel
theorem dX12_findDays_46 : decode cX12_findDays 46 = .ok (.ifCond .le 21, 3) := by decide +kernel
theorem dX12_findDays_49 : decode cX12_findDays 49 = .ok (.aload_n 0, 1) := by decide +kernel
theorem dX12_findDays_50 : decode cX12_findDays 50 = .ok (.aload_n 0, 1) := by decide +kernel
theorem dX12_findDays_51 : decode cX12_findDays 51 = .ok (.getfield 65, 3) := by decide +kernel
theorem dX12_findDays_54 : decode cX12_findDays 54 = .ok (.iconst 3, 1) := by decide +kernel
theorem dX12_findDays_55 : decode cX12_findDays 55 = .ok (.iconst 4, 1) := by decide +kernel
theorem dX12_findDays_56 : decode cX12_findDays 56 = .ok (.iload_n 1, 1) := by decide +kernel
theorem dX12_findDays_57 : decode cX12_findDays 57 = .ok (.imul, 1) := by decide +kernel
theorem dX12_findDays_58 : decode cX12_findDays 58 = .ok (.iadd, 1) := by decide +kernel
theorem dX12_findDays_59 : decode cX12_findDays 59 = .ok (.iconst 1, 1) := by decide +kernel
theorem dX12_findDays_60 : decode cX12_findDays 60 = .ok (.iadd, 1) := by decide +kernel
theorem dX12_findDays_61 : decode cX12_findDays 61 = .ok (.iaload, 1) := by decide +kernel
theorem dX12_findDays_62 : decode cX12_findDays 62 = .ok (.iconst 1, 1) := by decide +kernel
theorem dX12_findDays_63 : decode cX12_findDays 63 = .ok (.isub, 1) := by decide +kernel
theorem dX12_findDays_64 : decode cX12_findDays 64 = .ok (.invokevirtual 276, 3) := by decide +kernel
theorem dX12_findDays_67 : decode cX12_findDays 67 = .ok (.iinc 1 1, 3) := by decide +kernel
theorem dX12_findDays_70 : decode cX12_findDays 70 = .ok (.goto (-63), 3) := by decide +kernel
theorem dX12_findDays_73 : decode cX12_findDays 73 = .ok (.return_, 1) := by decide +kernel
theorem dX12_tells_0 : decode cX12_tells 0 = .ok (.iload_n 1, 1) := by decide +kernel
theorem dX12_tells_1 : decode cX12_tells 1 = .ok (.iload_n 2, 1) := by decide +kernel
theorem dX12_tells_2 : decode cX12_tells 2 = .ok (.if_icmp .ne 16, 3) := by decide +kernel
theorem dX12_tells_5 : decode cX12_tells 5 = .ok (.aload_n 0, 1) := by decide +kernel
theorem dX12_tells_6 : decode cX12_tells 6 = .ok (.getfield 77, 3) := by decide +kernel
theorem dX12_tells_9 : decode cX12_tells 9 = .ok (.iload_n 1, 1) := by decide +kernel
theorem dX12_tells_10 : decode cX12_tells 10 = .ok (.iaload, 1) := by decide +kernel
theorem dX12_tells_11 : decode cX12_tells 11 = .ok (.iload_n 3, 1) := by decide +kernel
theorem dX12_tells_12 : decode cX12_tells 12 = .ok (.if_icmp .gt 29, 3) := by decide +kernel
theorem dX12_tells_15 : decode cX12_tells 15 = .ok (.goto 13, 3) := by decide +kernel
theorem dX12_tells_18 : decode cX12_tells 18 = .ok (.aload_n 0, 1) := by decide +kernel
theorem dX12_tells_19 : decode cX12_tells 19 = .ok (.getfield 77, 3) := by decide +kernel
theorem dX12_tells_22 : decode cX12_tells 22 = .ok (.iload_n 1, 1) := by decide +kernel
theorem dX12_tells_23 : decode cX12_tells 23 = .ok (.iaload, 1) := by decide +kernel
theorem dX12_tells_24 : decode cX12_tells 24 = .ok (.iload_n 3, 1) := by decide +kernel
theorem dX12_tells_25 : decode cX12_tells 25 = .ok (.if_icmp .ge 16, 3) := by decide +kernel
theorem dX12_tells_28 : decode cX12_tells 28 = .ok (.aload_n 0, 1) := by decide +kernel
theorem dX12_tells_29 : decode cX12_tells 29 = .ok (.iload_n 1, 1) := by decide +kernel
theorem dX12_tells_30 : decode cX12_tells 30 = .ok (.iload_n 3, 1) := by decide +kernel
theorem dX12_tells_31 : decode cX12_tells 31 = .ok (.invokevirtual 270, 3) := by decide +kernel
theorem dX12_tells_34 : decode cX12_tells 34 = .ok (.ifCond .eq 7, 3) := by decide +kernel
theorem dX12_tells_37 : decode cX12_tells 37 = .ok (.iconst 1, 1) := by decide +kernel
theorem dX12_tells_38 : decode cX12_tells 38 = .ok (.goto 4, 3) := by decide +kernel
theorem dX12_tells_41 : decode cX12_tells 41 = .ok (.iconst 0, 1) := by decide +kernel
theorem dX12_tells_42 : decode cX12_tells 42 = .ok (.ireturn, 1) := by decide +kernel
theorem dX12_goes_0 : decode cX12_goes 0 = .ok (.iconst 0, 1) := by decide +kernel
theorem dX12_goes_1 : decode cX12_goes 1 = .ok (.istore_n 3, 1) := by decide +kernel
theorem dX12_goes_2 : decode cX12_goes 2 = .ok (.iload_n 3, 1) := by decide +kernel
theorem dX12_goes_3 : decode cX12_goes 3 = .ok (.aload_n 0, 1) := by decide +kernel
theorem dX12_goes_4 : decode cX12_goes 4 = .ok (.invokevirtual 235, 3) := by decide +kernel
theorem dX12_goes_7 : decode cX12_goes 7 = .ok (.if_icmp .ge 34, 3) := by decide +kernel
theorem dX12_goes_10 : decode cX12_goes 10 = .ok (.aload_n 0, 1) := by decide +kernel
theorem dX12_goes_11 : decode cX12_goes 11 = .ok (.getfield 77, 3) := by decide +kernel
theorem dX12_goes_14 : decode cX12_goes 14 = .ok (.iload_n 3, 1) := by decide +kernel
theorem dX12_goes_15 : decode cX12_goes 15 = .ok (.iload_n 3, 1) := by decide +kernel
theorem dX12_goes_16 : decode cX12_goes 16 = .ok (.iload_n 1, 1) := by decide +kernel
theorem dX12_goes_17 : decode cX12_goes 17 = .ok (.if_icmp .ne 7, 3) := by decide +kernel
theorem dX12_goes_20 : decode cX12_goes 20 = .ok (.iload_n 2, 1) := by decide +kernel
theorem dX12_goes_21 : decode cX12_goes 21 = .ok (.goto 6, 3) := by decide +kernel
theorem dX12_goes_24 : decode cX12_goes 24 = .ok (.ldc_w 279, 3) := by decide +kernel
theorem dX12_goes_27 : decode cX12_goes 27 = .ok (.iastore, 1) := by decide +kernel
theorem dX12_goes_28 : decode cX12_goes 28 = .ok (.aload_n 0, 1) := by decide +kernel
theorem dX12_goes_29 : decode cX12_goes 29 = .ok (.getfield 80, 3) := by decide +kernel
theorem dX12_goes_32 : decode cX12_goes 32 = .ok (.iload_n 3, 1) := by decide +kernel
theorem dX12_goes_33 : decode cX12_goes 33 = .ok (.iconst (-1), 1) := by decide +kernel
theorem dX12_goes_34 : decode cX12_goes 34 = .ok (.iastore, 1) := by decide +kernel
theorem dX12_goes_35 : decode cX12_goes 35 = .ok (.iinc 3 1, 3) := by decide +kernel
theorem dX12_goes_38 : decode cX12_goes 38 = .ok (.goto (-36), 3) := by decide +kernel
theorem dX12_goes_41 : decode cX12_goes 41 = .ok (.aload_n 0, 1) := by decide +kernel
theorem dX12_goes_42 : decode cX12_goes 42 = .ok (.invokevirtual 280, 3) := by decide +kernel
theorem dX12_goes_45 : decode cX12_goes 45 = .ok (.iconst 0, 1) := by decide +kernel
theorem dX12_goes_46 : decode cX12_goes 46 = .ok (.istore_n 3, 1) := by decide +kernel
theorem dX12_goes_47 : decode cX12_goes 47 = .ok (.iload_n 3, 1) := by decide +kernel
theorem dX12_goes_48 : decode cX12_goes 48 = .ok (.bipush 12, 2) := by decide +kernel
theorem dX12_goes_50 : decode cX12_goes 50 = .ok (.aload_n 0, 1) := by decide +kernel
theorem dX12_goes_51 : decode cX12_goes 51 = .ok (.getfield 273, 3) := by decide +kernel
theorem dX12_goes_54 : decode cX12_goes 54 = .ok (.imul, 1) := by decide +kernel
theorem dX12_goes_55 : decode cX12_goes 55 = .ok (.if_icmp .ge 149, 3) := by decide +kernel
theorem dX12_goes_58 : decode cX12_goes 58 = .ok (.sipush 366, 3) := by decide +kernel
theorem dX12_goes_61 : decode cX12_goes 61 = .ok (.iload_n 3, 1) := by decide +kernel
theorem dX12_goes_62 : decode cX12_goes 62 = .ok (.aload_n 0, 1) := by decide +kernel
theorem dX12_goes_63 : decode cX12_goes 63 = .ok (.getfield 273, 3) := by decide +kernel
theorem dX12_goes_66 : decode cX12_goes 66 = .ok (.idiv, 1) := by decide +kernel
theorem dX12_goes_67 : decode cX12_goes 67 = .ok (.imul, 1) := by decide +kernel
theorem dX12_goes_68 : decode cX12_goes 68 = .ok (.aload_n 0, 1) := by decide +kernel
theorem dX12_goes_69 : decode cX12_goes 69 = .ok (.getfield 74, 3) := by decide +kernel
theorem dX12_goes_72 : decode cX12_goes 72 = .ok (.iload_n 3, 1) := by decide +kernel
theorem dX12_goes_73 : decode cX12_goes 73 = .ok (.aload_n 0, 1) := by decide +kernel
theorem dX12_goes_74 : decode cX12_goes 74 = .ok (.getfield 273, 3) := by decide +kernel
theorem dX12_goes_77 : decode cX12_goes 77 = .ok (.irem, 1) := by decide +kernel
theorem dX12_goes_78 : decode cX12_goes 78 = .ok (.iaload, 1) := by decide +kernel
theorem dX12_goes_79 : decode cX12_goes 79 = .ok (.iadd, 1) := by decide +kernel
theorem dX12_goes_80 : decode cX12_goes 80 = .ok (.istore 4, 2) := by decide +kernel
theorem dX12_goes_82 : decode cX12_goes 82 = .ok (.iconst 0, 1) := by decide +kernel
theorem dX12_goes_83 : decode cX12_goes 83 = .ok (.istore 5, 2) := by decide +kernel
theorem dX12_goes_85 : decode cX12_goes 85 = .ok (.iload 5, 2) := by decide +kernel
theorem dX12_goes_87 : decode cX12_goes 87 = .ok (.aload_n 0, 1) := by decide +kernel
theorem dX12_goes_88 : decode cX12_goes 88 = .ok (.invokevirtual 235, 3) := by decide +kernel
theorem dX12_goes_91 : decode cX12_goes 91 = .ok (.if_icmp .ge 107, 3) := by decide +kernel
theorem dX12_goes_94 : decode cX12_goes 94 = .ok (.aload_n 0, 1) := by decide +kernel
theorem dX12_goes_95 : decode cX12_goes 95 = .ok (.iload 5, 2) := by decide +kernel
theorem dX12_goes_97 : decode cX12_goes 97 = .ok (.iload 4, 2) := by decide +kernel
theorem dX12_goes_99 : decode cX12_goes 99 = .ok (.sipush 366, 3) := by decide +kernel
theorem dX12_goes_102 : decode cX12_goes 102 = .ok (.irem, 1) := by decide +kernel
theorem dX12_goes_103 : decode cX12_goes 103 = .ok (.invokevirtual 253, 3) := by decide +kernel
theorem dX12_goes_106 : decode cX12_goes 106 = .ok (.ifCond .eq 86, 3) := by decide +kernel
theorem dX12_goes_109 : decode cX12_goes 109 = .ok (.aload_n 0, 1) := by decide +kernel
theorem dX12_goes_110 : decode cX12_goes 110 = .ok (.iload 5, 2) := by decide +kernel
theorem dX12_goes_112 : decode cX12_goes 112 = .ok (.iload_n 1, 1) := by decide +kernel
theorem dX12_goes_113 : decode cX12_goes 113 = .ok (.iload 4, 2) := by decide +kernel
theorem dX12_goes_115 : decode cX12_goes 115 = .ok (.invokevirtual 283, 3) := by decide +kernel
theorem dX12_goes_118 : decode cX12_goes 118 = .ok (.ifCond .eq 74, 3) := by decide +kernel
theorem dX12_goes_121 : decode cX12_goes 121 = .ok (.iconst 0, 1) := by decide +kernel
theorem dX12_goes_122 : decode cX12_goes 122 = .ok (.istore 6, 2) := by decide +kernel
theorem dX12_goes_124 : decode cX12_goes 124 = .ok (.iload 6, 2) := by decide +kernel
theorem dX12_goes_126 : decode cX12_goes 126 = .ok (.aload_n 0, 1) := by decide +kernel
theorem dX12_goes_127 : decode cX12_goes 127 = .ok (.invokevirtual 235, 3) := by decide +kernel
theorem dX12_goes_130 : decode cX12_goes 130 = .ok (.if_icmp .ge 62, 3) := by decide +kernel
theorem dX12_goes_133 : decode cX12_goes 133 = .ok (.aload_n 0, 1) := by decide +kernel
theorem dX12_goes_134 : decode cX12_goes 134 = .ok (.getfield 77, 3) := by decide +kernel
theorem dX12_goes_137 : decode cX12_goes 137 = .ok (.iload 6, 2) := by decide +kernel
theorem dX12_goes_139 : decode cX12_goes 139 = .ok (.iaload, 1) := by decide +kernel
theorem dX12_goes_140 : decode cX12_goes 140 = .ok (.ldc_w 279, 3) := by decide +kernel
theorem dX12_goes_143 : decode cX12_goes 143 = .ok (.if_icmp .ne 43, 3) := by decide +kernel
theorem dX12_goes_146 : decode cX12_goes 146 = .ok (.aload_n 0, 1) := by decide +kernel
theorem dX12_goes_147 : decode cX12_goes 147 = .ok (.iload 6, 2) := by decide +kernel
theorem dX12_goes_149 : decode cX12_goes 149 = .ok (.iload 5, 2) := by decide +kernel
theorem dX12_goes_151 : decode cX12_goes 151 = .ok (.invokevirtual 267, 3) := by decide +kernel
theorem dX12_goes_154 : decode cX12_goes 154 = .ok (.ifCond .eq 32, 3) := by decide +kernel
theorem dX12_goes_157 : decode cX12_goes 157 = .ok (.aload_n 0, 1) := by decide +kernel
theorem dX12_goes_158 : decode cX12_goes 158 = .ok (.iload 6, 2) := by decide +kernel
theorem dX12_goes_160 : decode cX12_goes 160 = .ok (.iload 4, 2) := by decide +kernel
theorem dX12_goes_162 : decode cX12_goes 162 = .ok (.invokevirtual 257, 3) := by decide +kernel
theorem dX12_goes_165 : decode cX12_goes 165 = .ok (.ifCond .ne 21, 3) := by decide +kernel
theorem dX12_goes_168 : decode cX12_goes 168 = .ok (.aload_n 0, 1) := by decide +kernel
theorem dX12_goes_169 : decode cX12_goes 169 = .ok (.getfield 77, 3) := by decide +kernel
theorem dX12_goes_172 : decode cX12_goes 172 = .ok (.iload 6, 2) := by decide +kernel
theorem dX12_goes_174 : decode cX12_goes 174 = .ok (.iload 4, 2) := by decide +kernel
theorem dX12_goes_176 : decode cX12_goes 176 = .ok (.iastore, 1) := by decide +kernel
theorem dX12_goes_177 : decode cX12_goes 177 = .ok (.aload_n 0, 1) := by decide +kernel
theorem dX12_goes_178 : decode cX12_goes 178 = .ok (.getfield 80, 3) := by decide +kernel
theorem dX12_goes_181 : decode cX12_goes 181 = .ok (.iload 6, 2) := by decide +kernel
theorem dX12_goes_183 : decode cX12_goes 183 = .ok (.iload 5, 2) := by decide +kernel
theorem dX12_goes_185 : decode cX12_goes 185 = .ok (.iastore, 1) := by decide +kernel
theorem dX12_goes_186 : decode cX12_goes 186 = .ok (.iinc 6 1, 3) := by decide +kernel
theorem dX12_goes_189 : decode cX12_goes 189 = .ok (.goto (-65), 3) := by decide +kernel
theorem dX12_goes_192 : decode cX12_goes 192 = .ok (.iinc 5 1, 3) := by decide +kernel
theorem dX12_goes_195 : decode cX12_goes 195 = .ok (.goto (-110), 3) := by decide +kernel
theorem dX12_goes_198 : decode cX12_goes 198 = .ok (.iinc 3 1, 3) := by decide +kernel
theorem dX12_goes_201 : decode cX12_goes 201 = .ok (.goto (-154), 3) := by decide +kernel
theorem dX12_goes_204 : decode cX12_goes 204 = .ok (.return_, 1) := by decide +kernel
theorem dX12_beginner_0 : decode cX12_beginner 0 = .ok (.aload_n 0, 1) := by decide +kernel
theorem dX12_beginner_1 : decode cX12_beginner 1 = .ok (.getfield 65, 3) := by decide +kernel
theorem dX12_beginner_4 : decode cX12_beginner 4 = .ok (.bipush 89, 2) := by decide +kernel
theorem dX12_beginner_6 : decode cX12_beginner 6 = .ok (.iconst 2, 1) := by decide +kernel
theorem dX12_beginner_7 : decode cX12_beginner 7 = .ok (.iload_n 1, 1) := by decide +kernel
theorem dX12_beginner_8 : decode cX12_beginner 8 = .ok (.imul, 1) := by decide +kernel
theorem dX12_beginner_9 : decode cX12_beginner 9 = .ok (.iadd, 1) := by decide +kernel
theorem dX12_beginner_10 : decode cX12_beginner 10 = .ok (.iaload, 1) := by decide +kernel
theorem dX12_beginner_11 : decode cX12_beginner 11 = .ok (.ireturn, 1) := by decide +kernel
theorem dX12_fromOf_0 : decode cX12_fromOf 0 = .ok (.aload_n 0, 1) := by decide +kernel
theorem dX12_fromOf_1 : decode cX12_fromOf 1 = .ok (.getfield 65, 3) := by decide +kernel
theorem dX12_fromOf_4 : decode cX12_fromOf 4 = .ok (.bipush 89, 2) := by decide +kernel
theorem dX12_fromOf_6 : decode cX12_fromOf 6 = .ok (.iconst 2, 1) := by decide +kernel
theorem dX12_fromOf_7 : decode cX12_fromOf 7 = .ok (.iload_n 1, 1) := by decide +kernel
theorem dX12_fromOf_8 : decode cX12_fromOf 8 = .ok (.imul, 1) := by decide +kernel
theorem dX12_fromOf_9 : decode cX12_fromOf 9 = .ok (.iadd, 1) := by decide +kernel
theorem dX12_fromOf_10 : decode cX12_fromOf 10 = .ok (.iconst 1, 1) := by decide +kernel
theorem dX12_fromOf_11 : decode cX12_fromOf 11 = .ok (.iadd, 1) := by decide +kernel
theorem dX12_fromOf_12 : decode cX12_fromOf 12 = .ok (.iaload, 1) := by decide +kernel
theorem dX12_fromOf_13 : decode cX12_fromOf 13 = .ok (.ireturn, 1) := by decide +kernel
theorem dX12_find__0 : decode cX12_find_ 0 = .ok (.aload_n 0, 1) := by decide +kernel
theorem dX12_find__1 : decode cX12_find_ 1 = .ok (.aload_n 0, 1) := by decide +kernel
theorem dX12_find__2 : decode cX12_find_ 2 = .ok (.iload_n 1, 1) := by decide +kernel
theorem dX12_find__3 : decode cX12_find_ 3 = .ok (.invokevirtual 286, 3) := by decide +kernel
theorem dX12_find__6 : decode cX12_find_ 6 = .ok (.aload_n 0, 1) := by decide +kernel
theorem dX12_find__7 : decode cX12_find_ 7 = .ok (.iload_n 1, 1) := by decide +kernel
theorem dX12_find__8 : decode cX12_find_ 8 = .ok (.invokevirtual 289, 3) := by decide +kernel
theorem dX12_find__11 : decode cX12_find_ 11 = .ok (.invokevirtual 292, 3) := by decide +kernel
theorem dX12_find__14 : decode cX12_find_ 14 = .ok (.return_, 1) := by decide +kernel
theorem dX12_areThere_0 : decode cX12_areThere 0 = .ok (.aload_n 0, 1) := by decide +kernel
theorem dX12_areThere_1 : decode cX12_areThere 1 = .ok (.iload_n 1, 1) := by decide +kernel
theorem dX12_areThere_2 : decode cX12_areThere 2 = .ok (.invokevirtual 295, 3) := by decide +kernel
theorem dX12_areThere_5 : decode cX12_areThere 5 = .ok (.ifCond .eq 15, 3) := by decide +kernel
theorem dX12_areThere_8 : decode cX12_areThere 8 = .ok (.aload_n 0, 1) := by decide +kernel
theorem dX12_areThere_9 : decode cX12_areThere 9 = .ok (.iload_n 2, 1) := by decide +kernel
theorem dX12_areThere_10 : decode cX12_areThere 10 = .ok (.invokevirtual 260, 3) := by decide +kernel
theorem dX12_areThere_13 : decode cX12_areThere 13 = .ok (.ifCond .eq 7, 3) := by decide +kernel
theorem dX12_areThere_16 : decode cX12_areThere 16 = .ok (.iconst 1, 1) := by decide +kernel
theorem dX12_areThere_17 : decode cX12_areThere 17 = .ok (.goto 4, 3) := by decide +kernel
theorem dX12_areThere_20 : decode cX12_areThere 20 = .ok (.iconst 0, 1) := by decide +kernel
theorem dX12_areThere_21 : decode cX12_areThere 21 = .ok (.ireturn, 1) := by decide +kernel
theorem dX12_soonest_0 : decode cX12_soonest 0 = .ok (.aload_n 0, 1) := by decide +kernel
theorem dX12_soonest_1 : decode cX12_soonest 1 = .ok (.iconst 0, 1) := by decide +kernel
theorem dX12_soonest_2 : decode cX12_soonest 2 = .ok (.putfield 1, 3) := by decide +kernel
theorem dX12_soonest_5 : decode cX12_soonest 5 = .ok (.aload_n 0, 1) := by decide +kernel
theorem dX12_soonest_6 : decode cX12_soonest 6 = .ok (.iload_n 1, 1) := by decide +kernel
theorem dX12_soonest_7 : decode cX12_soonest 7 = .ok (.iload_n 2, 1) := by decide +kernel
theorem dX12_soonest_8 : decode cX12_soonest 8 = .ok (.invokevirtual 298, 3) := by decide +kernel
theorem dX12_soonest_11 : decode cX12_soonest 11 = .ok (.ifCond .ne 5, 3) := by decide +kernel
theorem dX12_soonest_14 : decode cX12_soonest 14 = .ok (.iconst (-1), 1) := by decide +kernel
theorem dX12_soonest_15 : decode cX12_soonest 15 = .ok (.ireturn, 1) := by decide +kernel
theorem dX12_soonest_16 : decode cX12_soonest 16 = .ok (.aload_n 0, 1) := by decide +kernel
theorem dX12_soonest_17 : decode cX12_soonest 17 = .ok (.iload_n 1, 1) := by decide +kernel
theorem dX12_soonest_18 : decode cX12_soonest 18 = .ok (.invokevirtual 301, 3) := by decide +kernel
theorem dX12_soonest_21 : decode cX12_soonest 21 = .ok (.aload_n 0, 1) := by decide +kernel
theorem dX12_soonest_22 : decode cX12_soonest 22 = .ok (.getfield 77, 3) := by decide +kernel
theorem dX12_soonest_25 : decode cX12_soonest 25 = .ok (.iload_n 2, 1) := by decide +kernel
theorem dX12_soonest_26 : decode cX12_soonest 26 = .ok (.iaload, 1) := by decide +kernel
theorem dX12_soonest_27 : decode cX12_soonest 27 = .ok (.ldc_w 279, 3) := by decide +kernel
theorem dX12_soonest_30 : decode cX12_soonest 30 = .ok (.if_icmp .ne 7, 3) := by decide +kernel
theorem dX12_soonest_33 : decode cX12_soonest 33 = .ok (.iconst (-1), 1) := by decide +kernel
theorem dX12_soonest_34 : decode cX12_soonest 34 = .ok (.goto 9, 3) := by decide +kernel
theorem dX12_soonest_37 : decode cX12_soonest 37 = .ok (.aload_n 0, 1) := by decide +kernel
theorem dX12_soonest_38 : decode cX12_soonest 38 = .ok (.getfield 77, 3) := by decide +kernel
theorem dX12_soonest_41 : decode cX12_soonest 41 = .ok (.iload_n 2, 1) := by decide +kernel
theorem dX12_soonest_42 : decode cX12_soonest 42 = .ok (.iaload, 1) := by decide +kernel
theorem dX12_soonest_43 : decode cX12_soonest 43 = .ok (.ireturn, 1) := by decide +kernel
theorem dX12_by_0 : decode cX12_by 0 = .ok (.aload_n 0, 1) := by decide +kernel
theorem dX12_by_1 : decode cX12_by 1 = .ok (.iconst 0, 1) := by decide +kernel
theorem dX12_by_2 : decode cX12_by 2 = .ok (.putfield 1, 3) := by decide +kernel
theorem dX12_by_5 : decode cX12_by 5 = .ok (.aload_n 0, 1) := by decide +kernel
theorem dX12_by_6 : decode cX12_by 6 = .ok (.iload_n 1, 1) := by decide +kernel
theorem dX12_by_7 : decode cX12_by 7 = .ok (.iload_n 2, 1) := by decide +kernel
theorem dX12_by_8 : decode cX12_by 8 = .ok (.invokevirtual 298, 3) := by decide +kernel
theorem dX12_by_11 : decode cX12_by 11 = .ok (.ifCond .ne 5, 3) := by decide +kernel
theorem dX12_by_14 : decode cX12_by 14 = .ok (.iconst (-1), 1) := by decide +kernel
theorem dX12_by_15 : decode cX12_by 15 = .ok (.ireturn, 1) := by decide +kernel
theorem dX12_by_16 : decode cX12_by 16 = .ok (.aload_n 0, 1) := by decide +kernel
theorem dX12_by_17 : decode cX12_by 17 = .ok (.iload_n 1, 1) := by decide +kernel
theorem dX12_by_18 : decode cX12_by 18 = .ok (.invokevirtual 301, 3) := by decide +kernel
theorem dX12_by_21 : decode cX12_by 21 = .ok (.aload_n 0, 1) := by decide +kernel
theorem dX12_by_22 : decode cX12_by 22 = .ok (.getfield 80, 3) := by decide +kernel
theorem dX12_by_25 : decode cX12_by 25 = .ok (.iload_n 2, 1) := by decide +kernel
theorem dX12_by_26 : decode cX12_by 26 = .ok (.iaload, 1) := by decide +kernel
theorem dX12_by_27 : decode cX12_by 27 = .ok (.ireturn, 1) := by decide +kernel
theorem dX12_hands_0 : decode cX12_hands 0 = .ok (.aload_n 0, 1) := by decide +kernel
theorem dX12_hands_1 : decode cX12_hands 1 = .ok (.iconst 0, 1) := by decide +kernel
theorem dX12_hands_2 : decode cX12_hands 2 = .ok (.putfield 1, 3) := by decide +kernel
theorem dX12_hands_5 : decode cX12_hands 5 = .ok (.aload_n 0, 1) := by decide +kernel
theorem dX12_hands_6 : decode cX12_hands 6 = .ok (.iload_n 1, 1) := by decide +kernel
theorem dX12_hands_7 : decode cX12_hands 7 = .ok (.iload_n 2, 1) := by decide +kernel
theorem dX12_hands_8 : decode cX12_hands 8 = .ok (.invokevirtual 298, 3) := by decide +kernel
theorem dX12_hands_11 : decode cX12_hands 11 = .ok (.ifCond .ne 5, 3) := by decide +kernel
theorem dX12_hands_14 : decode cX12_hands 14 = .ok (.iconst (-1), 1) := by decide +kernel
theorem dX12_hands_15 : decode cX12_hands 15 = .ok (.ireturn, 1) := by decide +kernel
theorem dX12_hands_16 : decode cX12_hands 16 = .ok (.aload_n 0, 1) := by decide +kernel
theorem dX12_hands_17 : decode cX12_hands 17 = .ok (.iload_n 1, 1) := by decide +kernel
theorem dX12_hands_18 : decode cX12_hands 18 = .ok (.invokevirtual 301, 3) := by decide +kernel
theorem dX12_hands_21 : decode cX12_hands 21 = .ok (.iconst 0, 1) := by decide +kernel
theorem dX12_hands_22 : decode cX12_hands 22 = .ok (.istore_n 3, 1) := by decide +kernel
theorem dX12_hands_23 : decode cX12_hands 23 = .ok (.iload_n 2, 1) := by decide +kernel
theorem dX12_hands_24 : decode cX12_hands 24 = .ok (.istore 4, 2) := by decide +kernel
theorem dX12_hands_26 : decode cX12_hands 26 = .ok (.aload_n 0, 1) := by decide +kernel
theorem dX12_hands_27 : decode cX12_hands 27 = .ok (.getfield 80, 3) := by decide +kernel
theorem dX12_hands_30 : decode cX12_hands 30 = .ok (.iload 4, 2) := by decide +kernel
theorem dX12_hands_32 : decode cX12_hands 32 = .ok (.iaload, 1) := by decide +kernel
theorem dX12_hands_33 : decode cX12_hands 33 = .ok (.ifCond .lt 18, 3) := by decide +kernel
theorem dX12_hands_36 : decode cX12_hands 36 = .ok (.iinc 3 1, 3) := by decide +kernel
theorem dX12_hands_39 : decode cX12_hands 39 = .ok (.aload_n 0, 1) := by decide +kernel
theorem dX12_hands_40 : decode cX12_hands 40 = .ok (.getfield 80, 3) := by decide +kernel
theorem dX12_hands_43 : decode cX12_hands 43 = .ok (.iload 4, 2) := by decide +kernel
theorem dX12_hands_45 : decode cX12_hands 45 = .ok (.iaload, 1) := by decide +kernel
theorem dX12_hands_46 : decode cX12_hands 46 = .ok (.istore 4, 2) := by decide +kernel
theorem dX12_hands_48 : decode cX12_hands 48 = .ok (.goto (-22), 3) := by decide +kernel
theorem dX12_hands_51 : decode cX12_hands 51 = .ok (.aload_n 0, 1) := by decide +kernel
theorem dX12_hands_52 : decode cX12_hands 52 = .ok (.getfield 77, 3) := by decide +kernel
theorem dX12_hands_55 : decode cX12_hands 55 = .ok (.iload_n 2, 1) := by decide +kernel
theorem dX12_hands_56 : decode cX12_hands 56 = .ok (.iaload, 1) := by decide +kernel
theorem dX12_hands_57 : decode cX12_hands 57 = .ok (.ldc_w 279, 3) := by decide +kernel
theorem dX12_hands_60 : decode cX12_hands 60 = .ok (.if_icmp .ne 7, 3) := by decide +kernel
theorem dX12_hands_63 : decode cX12_hands 63 = .ok (.iconst (-1), 1) := by decide +kernel
theorem dX12_hands_64 : decode cX12_hands 64 = .ok (.goto 4, 3) := by decide +kernel
theorem dX12_hands_67 : decode cX12_hands 67 = .ok (.iload_n 3, 1) := by decide +kernel
theorem dX12_hands_68 : decode cX12_hands 68 = .ok (.ireturn, 1) := by decide +kernel
theorem dX12_waysOf_0 : decode cX12_waysOf 0 = .ok (.iload_n 1, 1) := by decide +kernel
theorem dX12_waysOf_1 : decode cX12_waysOf 1 = .ok (.iload_n 2, 1) := by decide +kernel
theorem dX12_waysOf_2 : decode cX12_waysOf 2 = .ok (.if_icmp .ne 5, 3) := by decide +kernel
theorem dX12_waysOf_5 : decode cX12_waysOf 5 = .ok (.lconst 1, 1) := by decide +kernel
theorem dX12_waysOf_6 : decode cX12_waysOf 6 = .ok (.lreturn, 1) := by decide +kernel
theorem dX12_waysOf_7 : decode cX12_waysOf 7 = .ok (.aload_n 0, 1) := by decide +kernel
theorem dX12_waysOf_8 : decode cX12_waysOf 8 = .ok (.getfield 77, 3) := by decide +kernel
theorem dX12_waysOf_11 : decode cX12_waysOf 11 = .ok (.iload_n 1, 1) := by decide +kernel
theorem dX12_waysOf_12 : decode cX12_waysOf 12 = .ok (.iaload, 1) := by decide +kernel
theorem dX12_waysOf_13 : decode cX12_waysOf 13 = .ok (.ldc_w 279, 3) := by decide +kernel
theorem dX12_waysOf_16 : decode cX12_waysOf 16 = .ok (.if_icmp .ne 5, 3) := by decide +kernel
theorem dX12_waysOf_19 : decode cX12_waysOf 19 = .ok (.lconst 0, 1) := by decide +kernel
theorem dX12_waysOf_20 : decode cX12_waysOf 20 = .ok (.lreturn, 1) := by decide +kernel
theorem dX12_waysOf_21 : decode cX12_waysOf 21 = .ok (.lconst 0, 1) := by decide +kernel
theorem dX12_waysOf_22 : decode cX12_waysOf 22 = .ok (.lstore_n 3, 1) := by decide +kernel
theorem dX12_waysOf_23 : decode cX12_waysOf 23 = .ok (.iconst 0, 1) := by decide +kernel
theorem dX12_waysOf_24 : decode cX12_waysOf 24 = .ok (.istore 5, 2) := by decide +kernel
theorem dX12_waysOf_26 : decode cX12_waysOf 26 = .ok (.iload 5, 2) := by decide +kernel
theorem dX12_waysOf_28 : decode cX12_waysOf 28 = .ok (.aload_n 0, 1) := by decide +kernel
theorem dX12_waysOf_29 : decode cX12_waysOf 29 = .ok (.invokevirtual 235, 3) := by decide +kernel
theorem dX12_waysOf_32 : decode cX12_waysOf 32 = .ok (.if_icmp .ge 49, 3) := by decide +kernel
theorem dX12_waysOf_35 : decode cX12_waysOf 35 = .ok (.lload_n 3, 1) := by decide +kernel
theorem dX12_waysOf_36 : decode cX12_waysOf 36 = .ok (.aload_n 0, 1) := by decide +kernel
theorem dX12_waysOf_37 : decode cX12_waysOf 37 = .ok (.iload_n 1, 1) := by decide +kernel
theorem dX12_waysOf_38 : decode cX12_waysOf 38 = .ok (.iload 5, 2) := by decide +kernel
theorem dX12_waysOf_40 : decode cX12_waysOf 40 = .ok (.invokevirtual 267, 3) := by decide +kernel
theorem dX12_waysOf_43 : decode cX12_waysOf 43 = .ok (.ifCond .eq 29, 3) := by decide +kernel
theorem dX12_waysOf_46 : decode cX12_waysOf 46 = .ok (.aload_n 0, 1) := by decide +kernel
theorem dX12_waysOf_47 : decode cX12_waysOf 47 = .ok (.iload 5, 2) := by decide +kernel
theorem dX12_waysOf_49 : decode cX12_waysOf 49 = .ok (.iload_n 2, 1) := by decide +kernel
theorem dX12_waysOf_50 : decode cX12_waysOf 50 = .ok (.aload_n 0, 1) := by decide +kernel
theorem dX12_waysOf_51 : decode cX12_waysOf 51 = .ok (.getfield 77, 3) := by decide +kernel
theorem dX12_waysOf_54 : decode cX12_waysOf 54 = .ok (.iload_n 1, 1) := by decide +kernel
theorem dX12_waysOf_55 : decode cX12_waysOf 55 = .ok (.iaload, 1) := by decide +kernel
theorem dX12_waysOf_56 : decode cX12_waysOf 56 = .ok (.invokevirtual 283, 3) := by decide +kernel
theorem dX12_waysOf_59 : decode cX12_waysOf 59 = .ok (.ifCond .eq 13, 3) := by decide +kernel
theorem dX12_waysOf_62 : decode cX12_waysOf 62 = .ok (.aload_n 0, 1) := by decide +kernel
theorem dX12_waysOf_63 : decode cX12_waysOf 63 = .ok (.iload 5, 2) := by decide +kernel
theorem dX12_waysOf_65 : decode cX12_waysOf 65 = .ok (.iload_n 2, 1) := by decide +kernel
theorem dX12_waysOf_66 : decode cX12_waysOf 66 = .ok (.invokevirtual 303, 3) := by decide +kernel
theorem dX12_waysOf_69 : decode cX12_waysOf 69 = .ok (.goto 4, 3) := by decide +kernel
theorem dX12_waysOf_72 : decode cX12_waysOf 72 = .ok (.lconst 0, 1) := by decide +kernel
theorem dX12_waysOf_73 : decode cX12_waysOf 73 = .ok (.ladd, 1) := by decide +kernel
theorem dX12_waysOf_74 : decode cX12_waysOf 74 = .ok (.lstore_n 3, 1) := by decide +kernel
theorem dX12_waysOf_75 : decode cX12_waysOf 75 = .ok (.iinc 5 1, 3) := by decide +kernel
theorem dX12_waysOf_78 : decode cX12_waysOf 78 = .ok (.goto (-52), 3) := by decide +kernel
theorem dX12_waysOf_81 : decode cX12_waysOf 81 = .ok (.lload_n 3, 1) := by decide +kernel
theorem dX12_waysOf_82 : decode cX12_waysOf 82 = .ok (.ldc2_w 307, 3) := by decide +kernel
theorem dX12_waysOf_85 : decode cX12_waysOf 85 = .ok (.lrem, 1) := by decide +kernel
theorem dX12_waysOf_86 : decode cX12_waysOf 86 = .ok (.lreturn, 1) := by decide +kernel
theorem dX12_ways_0 : decode cX12_ways 0 = .ok (.aload_n 0, 1) := by decide +kernel
theorem dX12_ways_1 : decode cX12_ways 1 = .ok (.iconst 0, 1) := by decide +kernel
theorem dX12_ways_2 : decode cX12_ways 2 = .ok (.putfield 1, 3) := by decide +kernel
theorem dX12_ways_5 : decode cX12_ways 5 = .ok (.aload_n 0, 1) := by decide +kernel
theorem dX12_ways_6 : decode cX12_ways 6 = .ok (.iload_n 1, 1) := by decide +kernel
theorem dX12_ways_7 : decode cX12_ways 7 = .ok (.iload_n 2, 1) := by decide +kernel
theorem dX12_ways_8 : decode cX12_ways 8 = .ok (.invokevirtual 298, 3) := by decide +kernel
theorem dX12_ways_11 : decode cX12_ways 11 = .ok (.ifCond .ne 5, 3) := by decide +kernel
theorem dX12_ways_14 : decode cX12_ways 14 = .ok (.iconst (-1), 1) := by decide +kernel
theorem dX12_ways_15 : decode cX12_ways 15 = .ok (.ireturn, 1) := by decide +kernel
theorem dX12_ways_16 : decode cX12_ways 16 = .ok (.aload_n 0, 1) := by decide +kernel
theorem dX12_ways_17 : decode cX12_ways 17 = .ok (.iload_n 1, 1) := by decide +kernel
theorem dX12_ways_18 : decode cX12_ways 18 = .ok (.invokevirtual 301, 3) := by decide +kernel
theorem dX12_ways_21 : decode cX12_ways 21 = .ok (.aload_n 0, 1) := by decide +kernel
theorem dX12_ways_22 : decode cX12_ways 22 = .ok (.iload_n 2, 1) := by decide +kernel
theorem dX12_ways_23 : decode cX12_ways 23 = .ok (.aload_n 0, 1) := by decide +kernel
theorem dX12_ways_24 : decode cX12_ways 24 = .ok (.iload_n 1, 1) := by decide +kernel
theorem dX12_ways_25 : decode cX12_ways 25 = .ok (.invokevirtual 286, 3) := by decide +kernel
theorem dX12_ways_28 : decode cX12_ways 28 = .ok (.invokevirtual 303, 3) := by decide +kernel
theorem dX12_ways_31 : decode cX12_ways 31 = .ok (.l2i, 1) := by decide +kernel
theorem dX12_ways_32 : decode cX12_ways 32 = .ok (.ireturn, 1) := by decide +kernel
theorem dX12_knowsBy_0 : decode cX12_knowsBy 0 = .ok (.aload_n 0, 1) := by decide +kernel
theorem dX12_knowsBy_1 : decode cX12_knowsBy 1 = .ok (.iload_n 1, 1) := by decide +kernel
theorem dX12_knowsBy_2 : decode cX12_knowsBy 2 = .ok (.invokevirtual 301, 3) := by decide +kernel
theorem dX12_knowsBy_5 : decode cX12_knowsBy 5 = .ok (.iconst 0, 1) := by decide +kernel
theorem dX12_knowsBy_6 : decode cX12_knowsBy 6 = .ok (.istore_n 3, 1) := by decide +kernel
theorem dX12_knowsBy_7 : decode cX12_knowsBy 7 = .ok (.iconst 0, 1) := by decide +kernel
theorem dX12_knowsBy_8 : decode cX12_knowsBy 8 = .ok (.istore 4, 2) := by decide +kernel
theorem dX12_knowsBy_10 : decode cX12_knowsBy 10 = .ok (.iload 4, 2) := by decide +kernel
theorem dX12_knowsBy_12 : decode cX12_knowsBy 12 = .ok (.aload_n 0, 1) := by decide +kernel
theorem dX12_knowsBy_13 : decode cX12_knowsBy 13 = .ok (.invokevirtual 235, 3) := by decide +kernel
theorem dX12_knowsBy_16 : decode cX12_knowsBy 16 = .ok (.if_icmp .ge 31, 3) := by decide +kernel
theorem dX12_knowsBy_19 : decode cX12_knowsBy 19 = .ok (.iload_n 3, 1) := by decide +kernel
theorem dX12_knowsBy_20 : decode cX12_knowsBy 20 = .ok (.aload_n 0, 1) := by decide +kernel
theorem dX12_knowsBy_21 : decode cX12_knowsBy 21 = .ok (.getfield 77, 3) := by decide +kernel
theorem dX12_knowsBy_24 : decode cX12_knowsBy 24 = .ok (.iload 4, 2) := by decide +kernel
theorem dX12_knowsBy_26 : decode cX12_knowsBy 26 = .ok (.iaload, 1) := by decide +kernel
theorem dX12_knowsBy_27 : decode cX12_knowsBy 27 = .ok (.iload_n 2, 1) := by decide +kernel
theorem dX12_knowsBy_28 : decode cX12_knowsBy 28 = .ok (.if_icmp .gt 10, 3) := by decide +kernel
theorem dX12_knowsBy_31 : decode cX12_knowsBy 31 = .ok (.iconst 1, 1) := by decide +kernel
theorem dX12_knowsBy_32 : decode cX12_knowsBy 32 = .ok (.iload 4, 2) := by decide +kernel
theorem dX12_knowsBy_34 : decode cX12_knowsBy 34 = .ok (.ishl, 1) := by decide +kernel
theorem dX12_knowsBy_35 : decode cX12_knowsBy 35 = .ok (.goto 4, 3) := by decide +kernel
theorem dX12_knowsBy_38 : decode cX12_knowsBy 38 = .ok (.iconst 0, 1) := by decide +kernel
theorem dX12_knowsBy_39 : decode cX12_knowsBy 39 = .ok (.ior, 1) := by decide +kernel
theorem dX12_knowsBy_40 : decode cX12_knowsBy 40 = .ok (.istore_n 3, 1) := by decide +kernel
theorem dX12_knowsBy_41 : decode cX12_knowsBy 41 = .ok (.iinc 4 1, 3) := by decide +kernel
theorem dX12_knowsBy_44 : decode cX12_knowsBy 44 = .ok (.goto (-34), 3) := by decide +kernel
theorem dX12_knowsBy_47 : decode cX12_knowsBy 47 = .ok (.iload_n 3, 1) := by decide +kernel
theorem dX12_knowsBy_48 : decode cX12_knowsBy 48 = .ok (.ireturn, 1) := by decide +kernel
theorem dX12_cant_0 : decode cX12_cant 0 = .ok (.aload_n 0, 1) := by decide +kernel
theorem dX12_cant_1 : decode cX12_cant 1 = .ok (.iconst 0, 1) := by decide +kernel
theorem dX12_cant_2 : decode cX12_cant 2 = .ok (.putfield 1, 3) := by decide +kernel
theorem dX12_cant_5 : decode cX12_cant 5 = .ok (.aload_n 0, 1) := by decide +kernel
theorem dX12_cant_6 : decode cX12_cant 6 = .ok (.iload_n 1, 1) := by decide +kernel
theorem dX12_cant_7 : decode cX12_cant 7 = .ok (.invokevirtual 295, 3) := by decide +kernel
theorem dX12_cant_10 : decode cX12_cant 10 = .ok (.ifCond .eq 30, 3) := by decide +kernel
theorem dX12_cant_13 : decode cX12_cant 13 = .ok (.iload_n 2, 1) := by decide +kernel
theorem dX12_cant_14 : decode cX12_cant 14 = .ok (.invokestatic 241, 3) := by decide +kernel
theorem dX12_cant_17 : decode cX12_cant 17 = .ok (.ifCond .eq 23, 3) := by decide +kernel
theorem dX12_cant_20 : decode cX12_cant 20 = .ok (.iconst 1, 1) := by decide +kernel
theorem dX12_cant_21 : decode cX12_cant 21 = .ok (.aload_n 0, 1) := by decide +kernel
theorem dX12_cant_22 : decode cX12_cant 22 = .ok (.invokevirtual 235, 3) := by decide +kernel
theorem dX12_cant_25 : decode cX12_cant 25 = .ok (.ishl, 1) := by decide +kernel
theorem dX12_cant_26 : decode cX12_cant 26 = .ok (.iconst 1, 1) := by decide +kernel
theorem dX12_cant_27 : decode cX12_cant 27 = .ok (.isub, 1) := by decide +kernel
theorem dX12_cant_28 : decode cX12_cant 28 = .ok (.aload_n 0, 1) := by decide +kernel
theorem dX12_cant_29 : decode cX12_cant 29 = .ok (.iload_n 1, 1) := by decide +kernel
theorem dX12_cant_30 : decode cX12_cant 30 = .ok (.iload_n 2, 1) := by decide +kernel
theorem dX12_cant_31 : decode cX12_cant 31 = .ok (.invokevirtual 309, 3) := by decide +kernel
theorem dX12_cant_34 : decode cX12_cant 34 = .ok (.iconst (-1), 1) := by decide +kernel
theorem dX12_cant_35 : decode cX12_cant 35 = .ok (.ixor, 1) := by decide +kernel
theorem dX12_cant_36 : decode cX12_cant 36 = .ok (.iand, 1) := by decide +kernel
theorem dX12_cant_37 : decode cX12_cant 37 = .ok (.goto 4, 3) := by decide +kernel
theorem dX12_cant_40 : decode cX12_cant 40 = .ok (.iconst (-1), 1) := by decide +kernel
theorem dX12_cant_41 : decode cX12_cant 41 = .ok (.ireturn, 1) := by decide +kernel
theorem dX12_knows_0 : decode cX12_knows 0 = .ok (.aload_n 0, 1) := by decide +kernel
theorem dX12_knows_1 : decode cX12_knows 1 = .ok (.iconst 0, 1) := by decide +kernel
theorem dX12_knows_2 : decode cX12_knows 2 = .ok (.putfield 1, 3) := by decide +kernel
theorem dX12_knows_5 : decode cX12_knows 5 = .ok (.aload_n 0, 1) := by decide +kernel
theorem dX12_knows_6 : decode cX12_knows 6 = .ok (.iload_n 1, 1) := by decide +kernel
theorem dX12_knows_7 : decode cX12_knows 7 = .ok (.invokevirtual 295, 3) := by decide +kernel
theorem dX12_knows_10 : decode cX12_knows 10 = .ok (.ifCond .eq 19, 3) := by decide +kernel
theorem dX12_knows_13 : decode cX12_knows 13 = .ok (.iload_n 2, 1) := by decide +kernel
theorem dX12_knows_14 : decode cX12_knows 14 = .ok (.invokestatic 241, 3) := by decide +kernel
theorem dX12_knows_17 : decode cX12_knows 17 = .ok (.ifCond .eq 12, 3) := by decide +kernel
theorem dX12_knows_20 : decode cX12_knows 20 = .ok (.aload_n 0, 1) := by decide +kernel
theorem dX12_knows_21 : decode cX12_knows 21 = .ok (.iload_n 1, 1) := by decide +kernel
theorem dX12_knows_22 : decode cX12_knows 22 = .ok (.iload_n 2, 1) := by decide +kernel
theorem dX12_knows_23 : decode cX12_knows 23 = .ok (.invokevirtual 309, 3) := by decide +kernel
theorem dX12_knows_26 : decode cX12_knows 26 = .ok (.goto 4, 3) := by decide +kernel
theorem dX12_knows_29 : decode cX12_knows 29 = .ok (.iconst (-1), 1) := by decide +kernel
theorem dX12_knows_30 : decode cX12_knows 30 = .ok (.ireturn, 1) := by decide +kernel
theorem dX12_all_0 : decode cX12_all 0 = .ok (.aload_n 0, 1) := by decide +kernel
theorem dX12_all_1 : decode cX12_all 1 = .ok (.iconst 0, 1) := by decide +kernel
theorem dX12_all_2 : decode cX12_all 2 = .ok (.putfield 1, 3) := by decide +kernel
theorem dX12_all_5 : decode cX12_all 5 = .ok (.aload_n 0, 1) := by decide +kernel
theorem dX12_all_6 : decode cX12_all 6 = .ok (.iload_n 1, 1) := by decide +kernel
theorem dX12_all_7 : decode cX12_all 7 = .ok (.invokevirtual 295, 3) := by decide +kernel
theorem dX12_all_10 : decode cX12_all 10 = .ok (.ifCond .ne 5, 3) := by decide +kernel
theorem dX12_all_13 : decode cX12_all 13 = .ok (.iconst (-1), 1) := by decide +kernel
theorem dX12_all_14 : decode cX12_all 14 = .ok (.ireturn, 1) := by decide +kernel
theorem dX12_all_15 : decode cX12_all 15 = .ok (.aload_n 0, 1) := by decide +kernel
theorem dX12_all_16 : decode cX12_all 16 = .ok (.iload_n 1, 1) := by decide +kernel
theorem dX12_all_17 : decode cX12_all 17 = .ok (.invokevirtual 301, 3) := by decide +kernel
theorem dX12_all_20 : decode cX12_all 20 = .ok (.iconst (-1), 1) := by decide +kernel
theorem dX12_all_21 : decode cX12_all 21 = .ok (.istore_n 2, 1) := by decide +kernel
theorem dX12_all_22 : decode cX12_all 22 = .ok (.iconst 0, 1) := by decide +kernel
theorem dX12_all_23 : decode cX12_all 23 = .ok (.istore_n 3, 1) := by decide +kernel
theorem dX12_all_24 : decode cX12_all 24 = .ok (.iload_n 3, 1) := by decide +kernel
theorem dX12_all_25 : decode cX12_all 25 = .ok (.aload_n 0, 1) := by decide +kernel
theorem dX12_all_26 : decode cX12_all 26 = .ok (.invokevirtual 235, 3) := by decide +kernel
theorem dX12_all_29 : decode cX12_all 29 = .ok (.if_icmp .ge 30, 3) := by decide +kernel
theorem dX12_all_32 : decode cX12_all 32 = .ok (.aload_n 0, 1) := by decide +kernel
theorem dX12_all_33 : decode cX12_all 33 = .ok (.getfield 77, 3) := by decide +kernel
theorem dX12_all_36 : decode cX12_all 36 = .ok (.iload_n 3, 1) := by decide +kernel
theorem dX12_all_37 : decode cX12_all 37 = .ok (.iaload, 1) := by decide +kernel
theorem dX12_all_38 : decode cX12_all 38 = .ok (.iload_n 2, 1) := by decide +kernel
theorem dX12_all_39 : decode cX12_all 39 = .ok (.if_icmp .le 12, 3) := by decide +kernel
theorem dX12_all_42 : decode cX12_all 42 = .ok (.aload_n 0, 1) := by decide +kernel
theorem dX12_all_43 : decode cX12_all 43 = .ok (.getfield 77, 3) := by decide +kernel
theorem dX12_all_46 : decode cX12_all 46 = .ok (.iload_n 3, 1) := by decide +kernel
theorem dX12_all_47 : decode cX12_all 47 = .ok (.iaload, 1) := by decide +kernel
theorem dX12_all_48 : decode cX12_all 48 = .ok (.goto 4, 3) := by decide +kernel
theorem dX12_all_51 : decode cX12_all 51 = .ok (.iload_n 2, 1) := by decide +kernel
theorem dX12_all_52 : decode cX12_all 52 = .ok (.istore_n 2, 1) := by decide +kernel
theorem dX12_all_53 : decode cX12_all 53 = .ok (.iinc 3 1, 3) := by decide +kernel
theorem dX12_all_56 : decode cX12_all 56 = .ok (.goto (-32), 3) := by decide +kernel
theorem dX12_all_59 : decode cX12_all 59 = .ok (.iload_n 2, 1) := by decide +kernel
theorem dX12_all_60 : decode cX12_all 60 = .ok (.ldc_w 279, 3) := by decide +kernel
theorem dX12_all_63 : decode cX12_all 63 = .ok (.if_icmp .ne 7, 3) := by decide +kernel
theorem dX12_all_66 : decode cX12_all 66 = .ok (.iconst (-1), 1) := by decide +kernel
theorem dX12_all_67 : decode cX12_all 67 = .ok (.goto 4, 3) := by decide +kernel
theorem dX12_all_70 : decode cX12_all 70 = .ok (.iload_n 2, 1) := by decide +kernel
theorem dX12_all_71 : decode cX12_all 71 = .ok (.ireturn, 1) := by decide +kernel
theorem dX12_isSet_0 : decode cX12_isSet 0 = .ok (.iload_n 0, 1) := by decide +kernel
theorem dX12_isSet_1 : decode cX12_isSet 1 = .ok (.ifCond .lt 14, 3) := by decide +kernel
theorem dX12_isSet_4 : decode cX12_isSet 4 = .ok (.iload_n 0, 1) := by decide +kernel
theorem dX12_isSet_5 : decode cX12_isSet 5 = .ok (.iconst 1, 1) := by decide +kernel
theorem dX12_isSet_6 : decode cX12_isSet 6 = .ok (.iload_n 1, 1) := by decide +kernel
theorem dX12_isSet_7 : decode cX12_isSet 7 = .ok (.ishl, 1) := by decide +kernel
theorem dX12_isSet_8 : decode cX12_isSet 8 = .ok (.if_icmp .ge 7, 3) := by decide +kernel
theorem dX12_isSet_11 : decode cX12_isSet 11 = .ok (.iconst 1, 1) := by decide +kernel
theorem dX12_isSet_12 : decode cX12_isSet 12 = .ok (.goto 4, 3) := by decide +kernel
theorem dX12_isSet_15 : decode cX12_isSet 15 = .ok (.iconst 0, 1) := by decide +kernel
theorem dX12_isSet_16 : decode cX12_isSet 16 = .ok (.ireturn, 1) := by decide +kernel
theorem dX12_earliest_0 : decode cX12_earliest 0 = .ok (.aload_n 0, 1) := by decide +kernel
theorem dX12_earliest_1 : decode cX12_earliest 1 = .ok (.getfield 83, 3) := by decide +kernel
theorem dX12_earliest_4 : decode cX12_earliest 4 = .ok (.bipush 12, 2) := by decide +kernel
theorem dX12_earliest_6 : decode cX12_earliest 6 = .ok (.iload_n 1, 1) := by decide +kernel
theorem dX12_earliest_7 : decode cX12_earliest 7 = .ok (.imul, 1) := by decide +kernel
theorem dX12_earliest_8 : decode cX12_earliest 8 = .ok (.iload_n 2, 1) := by decide +kernel
theorem dX12_earliest_9 : decode cX12_earliest 9 = .ok (.iadd, 1) := by decide +kernel
theorem dX12_earliest_10 : decode cX12_earliest 10 = .ok (.iaload, 1) := by decide +kernel
theorem dX12_earliest_11 : decode cX12_earliest 11 = .ok (.istore 7, 2) := by decide +kernel
theorem dX12_earliest_13 : decode cX12_earliest 13 = .ok (.iload 7, 2) := by decide +kernel
theorem dX12_earliest_15 : decode cX12_earliest 15 = .ok (.iload 4, 2) := by decide +kernel
theorem dX12_earliest_17 : decode cX12_earliest 17 = .ok (.if_icmp .ge 8, 3) := by decide +kernel
theorem dX12_earliest_20 : decode cX12_earliest 20 = .ok (.iload 4, 2) := by decide +kernel
theorem dX12_earliest_22 : decode cX12_earliest 22 = .ok (.goto 5, 3) := by decide +kernel
theorem dX12_earliest_25 : decode cX12_earliest 25 = .ok (.iload 7, 2) := by decide +kernel
theorem dX12_earliest_27 : decode cX12_earliest 27 = .ok (.istore 8, 2) := by decide +kernel
theorem dX12_earliest_29 : decode cX12_earliest 29 = .ok (.iload 8, 2) := by decide +kernel
theorem dX12_earliest_31 : decode cX12_earliest 31 = .ok (.iload 5, 2) := by decide +kernel
theorem dX12_earliest_33 : decode cX12_earliest 33 = .ok (.if_icmp .gt 80, 3) := by decide +kernel
theorem dX12_earliest_36 : decode cX12_earliest 36 = .ok (.iload 7, 2) := by decide +kernel
theorem dX12_earliest_38 : decode cX12_earliest 38 = .ok (.ldc_w 279, 3) := by decide +kernel
theorem dX12_earliest_41 : decode cX12_earliest 41 = .ok (.if_icmp .ge 72, 3) := by decide +kernel
theorem dX12_earliest_44 : decode cX12_earliest 44 = .ok (.iload_n 2, 1) := by decide +kernel
theorem dX12_earliest_45 : decode cX12_earliest 45 = .ok (.iload 6, 2) := by decide +kernel
theorem dX12_earliest_47 : decode cX12_earliest 47 = .ok (.if_icmp .ne 18, 3) := by decide +kernel
theorem dX12_earliest_50 : decode cX12_earliest 50 = .ok (.iload 7, 2) := by decide +kernel
theorem dX12_earliest_52 : decode cX12_earliest 52 = .ok (.iload 8, 2) := by decide +kernel
theorem dX12_earliest_54 : decode cX12_earliest 54 = .ok (.if_icmp .gt 7, 3) := by decide +kernel
theorem dX12_earliest_57 : decode cX12_earliest 57 = .ok (.iconst 1, 1) := by decide +kernel
theorem dX12_earliest_58 : decode cX12_earliest 58 = .ok (.goto 19, 3) := by decide +kernel
theorem dX12_earliest_61 : decode cX12_earliest 61 = .ok (.iconst 0, 1) := by decide +kernel
theorem dX12_earliest_62 : decode cX12_earliest 62 = .ok (.goto 15, 3) := by decide +kernel
theorem dX12_earliest_65 : decode cX12_earliest 65 = .ok (.iload 7, 2) := by decide +kernel
theorem dX12_earliest_67 : decode cX12_earliest 67 = .ok (.iload 8, 2) := by decide +kernel
theorem dX12_earliest_69 : decode cX12_earliest 69 = .ok (.if_icmp .ge 7, 3) := by decide +kernel
theorem dX12_earliest_72 : decode cX12_earliest 72 = .ok (.iconst 1, 1) := by decide +kernel
theorem dX12_earliest_73 : decode cX12_earliest 73 = .ok (.goto 4, 3) := by decide +kernel
theorem dX12_earliest_76 : decode cX12_earliest 76 = .ok (.iconst 0, 1) := by decide +kernel
theorem dX12_earliest_77 : decode cX12_earliest 77 = .ok (.istore 9, 2) := by decide +kernel
theorem dX12_earliest_79 : decode cX12_earliest 79 = .ok (.iload 9, 2) := by decide +kernel
theorem dX12_earliest_81 : decode cX12_earliest 81 = .ok (.ifCond .eq 26, 3) := by decide +kernel
theorem dX12_earliest_84 : decode cX12_earliest 84 = .ok (.aload_n 0, 1) := by decide +kernel
theorem dX12_earliest_85 : decode cX12_earliest 85 = .ok (.iload_n 2, 1) := by decide +kernel
theorem dX12_earliest_86 : decode cX12_earliest 86 = .ok (.iload 8, 2) := by decide +kernel
theorem dX12_earliest_88 : decode cX12_earliest 88 = .ok (.invokevirtual 270, 3) := by decide +kernel
theorem dX12_earliest_91 : decode cX12_earliest 91 = .ok (.ifCond .eq 16, 3) := by decide +kernel
theorem dX12_earliest_94 : decode cX12_earliest 94 = .ok (.aload_n 0, 1) := by decide +kernel
theorem dX12_earliest_95 : decode cX12_earliest 95 = .ok (.iload_n 3, 1) := by decide +kernel
theorem dX12_earliest_96 : decode cX12_earliest 96 = .ok (.iload 8, 2) := by decide +kernel
theorem dX12_earliest_98 : decode cX12_earliest 98 = .ok (.invokevirtual 257, 3) := by decide +kernel
theorem dX12_earliest_101 : decode cX12_earliest 101 = .ok (.ifCond .ne 6, 3) := by decide +kernel
theorem dX12_earliest_104 : decode cX12_earliest 104 = .ok (.iload 8, 2) := by decide +kernel
theorem dX12_earliest_106 : decode cX12_earliest 106 = .ok (.ireturn, 1) := by decide +kernel
theorem dX12_earliest_107 : decode cX12_earliest 107 = .ok (.iinc 8 1, 3) := by decide +kernel
theorem dX12_earliest_110 : decode cX12_earliest 110 = .ok (.goto (-81), 3) := by decide +kernel
theorem dX12_earliest_113 : decode cX12_earliest 113 = .ok (.ldc_w 279, 3) := by decide +kernel
theorem dX12_earliest_116 : decode cX12_earliest 116 = .ok (.ireturn, 1) := by decide +kernel
theorem dX12_letIn_0 : decode cX12_letIn 0 = .ok (.aload_n 0, 1) := by decide +kernel
theorem dX12_letIn_1 : decode cX12_letIn 1 = .ok (.iconst 0, 1) := by decide +kernel
theorem dX12_letIn_2 : decode cX12_letIn 2 = .ok (.putfield 1, 3) := by decide +kernel
theorem dX12_letIn_5 : decode cX12_letIn 5 = .ok (.aload_n 0, 1) := by decide +kernel
theorem dX12_letIn_6 : decode cX12_letIn 6 = .ok (.iload_n 1, 1) := by decide +kernel
theorem dX12_letIn_7 : decode cX12_letIn 7 = .ok (.iload_n 2, 1) := by decide +kernel
theorem dX12_letIn_8 : decode cX12_letIn 8 = .ok (.invokevirtual 298, 3) := by decide +kernel
theorem dX12_letIn_11 : decode cX12_letIn 11 = .ok (.ifCond .eq 30, 3) := by decide +kernel
theorem dX12_letIn_14 : decode cX12_letIn 14 = .ok (.iload_n 3, 1) := by decide +kernel
theorem dX12_letIn_15 : decode cX12_letIn 15 = .ok (.invokestatic 241, 3) := by decide +kernel
theorem dX12_letIn_18 : decode cX12_letIn 18 = .ok (.ifCond .eq 23, 3) := by decide +kernel
theorem dX12_letIn_21 : decode cX12_letIn 21 = .ok (.iload 5, 2) := by decide +kernel
theorem dX12_letIn_23 : decode cX12_letIn 23 = .ok (.invokestatic 241, 3) := by decide +kernel
theorem dX12_letIn_26 : decode cX12_letIn 26 = .ok (.ifCond .eq 15, 3) := by decide +kernel
theorem dX12_letIn_29 : decode cX12_letIn 29 = .ok (.iload 4, 2) := by decide +kernel
theorem dX12_letIn_31 : decode cX12_letIn 31 = .ok (.aload_n 0, 1) := by decide +kernel
theorem dX12_letIn_32 : decode cX12_letIn 32 = .ok (.invokevirtual 235, 3) := by decide +kernel
theorem dX12_letIn_35 : decode cX12_letIn 35 = .ok (.invokestatic 312, 3) := by decide +kernel
theorem dX12_letIn_38 : decode cX12_letIn 38 = .ok (.ifCond .ne 5, 3) := by decide +kernel
theorem dX12_letIn_41 : decode cX12_letIn 41 = .ok (.iconst (-1), 1) := by decide +kernel
theorem dX12_letIn_42 : decode cX12_letIn 42 = .ok (.ireturn, 1) := by decide +kernel
theorem dX12_letIn_43 : decode cX12_letIn 43 = .ok (.aload_n 0, 1) := by decide +kernel
theorem dX12_letIn_44 : decode cX12_letIn 44 = .ok (.iload_n 1, 1) := by decide +kernel
theorem dX12_letIn_45 : decode cX12_letIn 45 = .ok (.invokevirtual 286, 3) := by decide +kernel
theorem dX12_letIn_48 : decode cX12_letIn 48 = .ok (.istore 6, 2) := by decide +kernel
theorem dX12_letIn_50 : decode cX12_letIn 50 = .ok (.iload 4, 2) := by decide +kernel
theorem dX12_letIn_52 : decode cX12_letIn 52 = .ok (.iload 6, 2) := by decide +kernel
theorem dX12_letIn_54 : decode cX12_letIn 54 = .ok (.ishr, 1) := by decide +kernel
theorem dX12_letIn_55 : decode cX12_letIn 55 = .ok (.iconst 1, 1) := by decide +kernel
theorem dX12_letIn_56 : decode cX12_letIn 56 = .ok (.iand, 1) := by decide +kernel
theorem dX12_letIn_57 : decode cX12_letIn 57 = .ok (.iconst 1, 1) := by decide +kernel
theorem dX12_letIn_58 : decode cX12_letIn 58 = .ok (.if_icmp .ne 17, 3) := by decide +kernel
theorem dX12_letIn_61 : decode cX12_letIn 61 = .ok (.aload_n 0, 1) := by decide +kernel
theorem dX12_letIn_62 : decode cX12_letIn 62 = .ok (.iload_n 1, 1) := by decide +kernel
theorem dX12_letIn_63 : decode cX12_letIn 63 = .ok (.invokevirtual 289, 3) := by decide +kernel
theorem dX12_letIn_66 : decode cX12_letIn 66 = .ok (.iload 5, 2) := by decide +kernel
theorem dX12_letIn_68 : decode cX12_letIn 68 = .ok (.if_icmp .ge 7, 3) := by decide +kernel
theorem dX12_letIn_71 : decode cX12_letIn 71 = .ok (.iconst 1, 1) := by decide +kernel
theorem dX12_letIn_72 : decode cX12_letIn 72 = .ok (.goto 4, 3) := by decide +kernel
theorem dX12_letIn_75 : decode cX12_letIn 75 = .ok (.iconst 0, 1) := by decide +kernel
theorem dX12_letIn_76 : decode cX12_letIn 76 = .ok (.istore 7, 2) := by decide +kernel
theorem dX12_letIn_78 : decode cX12_letIn 78 = .ok (.iconst 0, 1) := by decide +kernel
theorem dX12_letIn_79 : decode cX12_letIn 79 = .ok (.istore 8, 2) := by decide +kernel
theorem dX12_letIn_81 : decode cX12_letIn 81 = .ok (.iload 8, 2) := by decide +kernel
theorem dX12_letIn_83 : decode cX12_letIn 83 = .ok (.aload_n 0, 1) := by decide +kernel
theorem dX12_letIn_84 : decode cX12_letIn 84 = .ok (.invokevirtual 235, 3) := by decide +kernel
theorem dX12_letIn_87 : decode cX12_letIn 87 = .ok (.if_icmp .ge 48, 3) := by decide +kernel
theorem dX12_letIn_90 : decode cX12_letIn 90 = .ok (.aload_n 0, 1) := by decide +kernel
theorem dX12_letIn_91 : decode cX12_letIn 91 = .ok (.getfield 83, 3) := by decide +kernel
theorem dX12_letIn_94 : decode cX12_letIn 94 = .ok (.iload 8, 2) := by decide +kernel
theorem dX12_letIn_96 : decode cX12_letIn 96 = .ok (.iload 8, 2) := by decide +kernel
theorem dX12_letIn_98 : decode cX12_letIn 98 = .ok (.iload 6, 2) := by decide +kernel
theorem dX12_letIn_100 : decode cX12_letIn 100 = .ok (.if_icmp .ne 25, 3) := by decide +kernel
theorem dX12_letIn_103 : decode cX12_letIn 103 = .ok (.iload 7, 2) := by decide +kernel
theorem dX12_letIn_105 : decode cX12_letIn 105 = .ok (.ifCond .ne 20, 3) := by decide +kernel
theorem dX12_letIn_108 : decode cX12_letIn 108 = .ok (.aload_n 0, 1) := by decide +kernel
theorem dX12_letIn_109 : decode cX12_letIn 109 = .ok (.iload_n 1, 1) := by decide +kernel
theorem dX12_letIn_110 : decode cX12_letIn 110 = .ok (.invokevirtual 289, 3) := by decide +kernel
theorem dX12_letIn_113 : decode cX12_letIn 113 = .ok (.iload_n 3, 1) := by decide +kernel
theorem dX12_letIn_114 : decode cX12_letIn 114 = .ok (.if_icmp .gt 11, 3) := by decide +kernel
theorem dX12_letIn_117 : decode cX12_letIn 117 = .ok (.aload_n 0, 1) := by decide +kernel
theorem dX12_letIn_118 : decode cX12_letIn 118 = .ok (.iload_n 1, 1) := by decide +kernel
theorem dX12_letIn_119 : decode cX12_letIn 119 = .ok (.invokevirtual 289, 3) := by decide +kernel
theorem dX12_letIn_122 : decode cX12_letIn 122 = .ok (.goto 6, 3) := by decide +kernel
theorem dX12_letIn_125 : decode cX12_letIn 125 = .ok (.ldc_w 279, 3) := by decide +kernel
theorem dX12_letIn_128 : decode cX12_letIn 128 = .ok (.iastore, 1) := by decide +kernel
theorem dX12_letIn_129 : decode cX12_letIn 129 = .ok (.iinc 8 1, 3) := by decide +kernel
theorem dX12_letIn_132 : decode cX12_letIn 132 = .ok (.goto (-51), 3) := by decide +kernel
theorem dX12_letIn_135 : decode cX12_letIn 135 = .ok (.iconst 0, 1) := by decide +kernel
theorem dX12_letIn_136 : decode cX12_letIn 136 = .ok (.istore 8, 2) := by decide +kernel
theorem dX12_letIn_138 : decode cX12_letIn 138 = .ok (.iload 8, 2) := by decide +kernel
theorem dX12_letIn_140 : decode cX12_letIn 140 = .ok (.aload_n 0, 1) := by decide +kernel
theorem dX12_letIn_141 : decode cX12_letIn 141 = .ok (.invokevirtual 235, 3) := by decide +kernel
theorem dX12_letIn_144 : decode cX12_letIn 144 = .ok (.if_icmp .ge 175, 3) := by decide +kernel
theorem dX12_letIn_147 : decode cX12_letIn 147 = .ok (.aload_n 0, 1) := by decide +kernel
theorem dX12_letIn_148 : decode cX12_letIn 148 = .ok (.getfield 83, 3) := by decide +kernel
theorem dX12_letIn_151 : decode cX12_letIn 151 = .ok (.bipush 12, 2) := by decide +kernel
theorem dX12_letIn_153 : decode cX12_letIn 153 = .ok (.iload 8, 2) := by decide +kernel
theorem dX12_letIn_155 : decode cX12_letIn 155 = .ok (.imul, 1) := by decide +kernel
theorem dX12_letIn_156 : decode cX12_letIn 156 = .ok (.iload_n 2, 1) := by decide +kernel
theorem dX12_letIn_157 : decode cX12_letIn 157 = .ok (.iadd, 1) := by decide +kernel
theorem dX12_letIn_158 : decode cX12_letIn 158 = .ok (.iaload, 1) := by decide +kernel
theorem dX12_letIn_159 : decode cX12_letIn 159 = .ok (.ldc_w 279, 3) := by decide +kernel
theorem dX12_letIn_162 : decode cX12_letIn 162 = .ok (.if_icmp .ge 8, 3) := by decide +kernel
theorem dX12_letIn_165 : decode cX12_letIn 165 = .ok (.iload 8, 2) := by decide +kernel
theorem dX12_letIn_167 : decode cX12_letIn 167 = .ok (.iconst 1, 1) := by decide +kernel
theorem dX12_letIn_168 : decode cX12_letIn 168 = .ok (.iadd, 1) := by decide +kernel
theorem dX12_letIn_169 : decode cX12_letIn 169 = .ok (.ireturn, 1) := by decide +kernel
theorem dX12_letIn_170 : decode cX12_letIn 170 = .ok (.iconst 0, 1) := by decide +kernel
theorem dX12_letIn_171 : decode cX12_letIn 171 = .ok (.istore 9, 2) := by decide +kernel
theorem dX12_letIn_173 : decode cX12_letIn 173 = .ok (.iload 9, 2) := by decide +kernel
theorem dX12_letIn_175 : decode cX12_letIn 175 = .ok (.aload_n 0, 1) := by decide +kernel
theorem dX12_letIn_176 : decode cX12_letIn 176 = .ok (.invokevirtual 235, 3) := by decide +kernel
theorem dX12_letIn_179 : decode cX12_letIn 179 = .ok (.if_icmp .ge 134, 3) := by decide +kernel
theorem dX12_letIn_182 : decode cX12_letIn 182 = .ok (.iload 8, 2) := by decide +kernel
theorem dX12_letIn_184 : decode cX12_letIn 184 = .ok (.iconst 1, 1) := by decide +kernel
theorem dX12_letIn_185 : decode cX12_letIn 185 = .ok (.iadd, 1) := by decide +kernel
theorem dX12_letIn_186 : decode cX12_letIn 186 = .ok (.bipush 12, 2) := by decide +kernel
theorem dX12_letIn_188 : decode cX12_letIn 188 = .ok (.if_icmp .ge 125, 3) := by decide +kernel
theorem dX12_letIn_191 : decode cX12_letIn 191 = .ok (.ldc_w 279, 3) := by decide +kernel
theorem dX12_letIn_194 : decode cX12_letIn 194 = .ok (.istore 10, 2) := by decide +kernel
theorem dX12_letIn_196 : decode cX12_letIn 196 = .ok (.iload 4, 2) := by decide +kernel
theorem dX12_letIn_198 : decode cX12_letIn 198 = .ok (.iload 9, 2) := by decide +kernel
theorem dX12_letIn_200 : decode cX12_letIn 200 = .ok (.ishr, 1) := by decide +kernel
theorem dX12_letIn_201 : decode cX12_letIn 201 = .ok (.iconst 1, 1) := by decide +kernel
theorem dX12_letIn_202 : decode cX12_letIn 202 = .ok (.iand, 1) := by decide +kernel
theorem dX12_letIn_203 : decode cX12_letIn 203 = .ok (.iconst 1, 1) := by decide +kernel
theorem dX12_letIn_204 : decode cX12_letIn 204 = .ok (.if_icmp .ne 8, 3) := by decide +kernel
theorem dX12_letIn_207 : decode cX12_letIn 207 = .ok (.iload 5, 2) := by decide +kernel
theorem dX12_letIn_209 : decode cX12_letIn 209 = .ok (.goto 4, 3) := by decide +kernel
theorem dX12_letIn_212 : decode cX12_letIn 212 = .ok (.iconst 0, 1) := by decide +kernel
theorem dX12_letIn_213 : decode cX12_letIn 213 = .ok (.istore 11, 2) := by decide +kernel
theorem dX12_letIn_215 : decode cX12_letIn 215 = .ok (.iconst 0, 1) := by decide +kernel
theorem dX12_letIn_216 : decode cX12_letIn 216 = .ok (.istore 12, 2) := by decide +kernel
theorem dX12_letIn_218 : decode cX12_letIn 218 = .ok (.iload 12, 2) := by decide +kernel
theorem dX12_letIn_220 : decode cX12_letIn 220 = .ok (.aload_n 0, 1) := by decide +kernel
theorem dX12_letIn_221 : decode cX12_letIn 221 = .ok (.invokevirtual 235, 3) := by decide +kernel
theorem dX12_letIn_224 : decode cX12_letIn 224 = .ok (.if_icmp .ge 66, 3) := by decide +kernel
theorem dX12_letIn_227 : decode cX12_letIn 227 = .ok (.iload 9, 2) := by decide +kernel
theorem dX12_letIn_229 : decode cX12_letIn 229 = .ok (.iload 6, 2) := by decide +kernel
theorem dX12_letIn_231 : decode cX12_letIn 231 = .ok (.if_icmp .eq 32, 3) := by decide +kernel
theorem dX12_letIn_234 : decode cX12_letIn 234 = .ok (.aload_n 0, 1) := by decide +kernel
theorem dX12_letIn_235 : decode cX12_letIn 235 = .ok (.iload 9, 2) := by decide +kernel
theorem dX12_letIn_237 : decode cX12_letIn 237 = .ok (.iload 12, 2) := by decide +kernel
theorem dX12_letIn_239 : decode cX12_letIn 239 = .ok (.invokevirtual 267, 3) := by decide +kernel
theorem dX12_letIn_242 : decode cX12_letIn 242 = .ok (.ifCond .eq 21, 3) := by decide +kernel
theorem dX12_letIn_245 : decode cX12_letIn 245 = .ok (.aload_n 0, 1) := by decide +kernel
theorem dX12_letIn_246 : decode cX12_letIn 246 = .ok (.iload 8, 2) := by decide +kernel
theorem dX12_letIn_248 : decode cX12_letIn 248 = .ok (.iload 12, 2) := by decide +kernel
theorem dX12_letIn_250 : decode cX12_letIn 250 = .ok (.iload 9, 2) := by decide +kernel
theorem dX12_letIn_252 : decode cX12_letIn 252 = .ok (.iload 11, 2) := by decide +kernel
theorem dX12_letIn_254 : decode cX12_letIn 254 = .ok (.iload_n 3, 1) := by decide +kernel
theorem dX12_letIn_255 : decode cX12_letIn 255 = .ok (.iload 6, 2) := by decide +kernel
theorem dX12_letIn_257 : decode cX12_letIn 257 = .ok (.invokevirtual 315, 3) := by decide +kernel
theorem dX12_letIn_260 : decode cX12_letIn 260 = .ok (.goto 6, 3) := by decide +kernel
theorem dX12_letIn_263 : decode cX12_letIn 263 = .ok (.ldc_w 279, 3) := by decide +kernel
theorem dX12_letIn_266 : decode cX12_letIn 266 = .ok (.istore 13, 2) := by decide +kernel
theorem dX12_letIn_268 : decode cX12_letIn 268 = .ok (.iload 13, 2) := by decide +kernel
theorem dX12_letIn_270 : decode cX12_letIn 270 = .ok (.iload 10, 2) := by decide +kernel
theorem dX12_letIn_272 : decode cX12_letIn 272 = .ok (.if_icmp .ge 8, 3) := by decide +kernel
theorem dX12_letIn_275 : decode cX12_letIn 275 = .ok (.iload 13, 2) := by decide +kernel
theorem dX12_letIn_277 : decode cX12_letIn 277 = .ok (.goto 5, 3) := by decide +kernel
theorem dX12_letIn_280 : decode cX12_letIn 280 = .ok (.iload 10, 2) := by decide +kernel
theorem dX12_letIn_282 : decode cX12_letIn 282 = .ok (.istore 10, 2) := by decide +kernel
theorem dX12_letIn_284 : decode cX12_letIn 284 = .ok (.iinc 12 1, 3) := by decide +kernel
theorem dX12_letIn_287 : decode cX12_letIn 287 = .ok (.goto (-69), 3) := by decide +kernel
theorem dX12_letIn_290 : decode cX12_letIn 290 = .ok (.aload_n 0, 1) := by decide +kernel
theorem dX12_letIn_291 : decode cX12_letIn 291 = .ok (.getfield 83, 3) := by decide +kernel
theorem dX12_letIn_294 : decode cX12_letIn 294 = .ok (.bipush 12, 2) := by decide +kernel
theorem dX12_letIn_296 : decode cX12_letIn 296 = .ok (.iload 8, 2) := by decide +kernel
theorem dX12_letIn_298 : decode cX12_letIn 298 = .ok (.iconst 1, 1) := by decide +kernel
theorem dX12_letIn_299 : decode cX12_letIn 299 = .ok (.iadd, 1) := by decide +kernel
theorem dX12_letIn_300 : decode cX12_letIn 300 = .ok (.imul, 1) := by decide +kernel
theorem dX12_letIn_301 : decode cX12_letIn 301 = .ok (.iload 9, 2) := by decide +kernel
theorem dX12_letIn_303 : decode cX12_letIn 303 = .ok (.iadd, 1) := by decide +kernel
theorem dX12_letIn_304 : decode cX12_letIn 304 = .ok (.iload 10, 2) := by decide +kernel
theorem dX12_letIn_306 : decode cX12_letIn 306 = .ok (.iastore, 1) := by decide +kernel
theorem dX12_letIn_307 : decode cX12_letIn 307 = .ok (.iinc 9 1, 3) := by decide +kernel
theorem dX12_letIn_310 : decode cX12_letIn 310 = .ok (.goto (-137), 3) := by decide +kernel
theorem dX12_letIn_313 : decode cX12_letIn 313 = .ok (.iinc 8 1, 3) := by decide +kernel
theorem dX12_letIn_316 : decode cX12_letIn 316 = .ok (.goto (-178), 3) := by decide +kernel
theorem dX12_letIn_319 : decode cX12_letIn 319 = .ok (.iconst (-1), 1) := by decide +kernel
theorem dX12_letIn_320 : decode cX12_letIn 320 = .ok (.ireturn, 1) := by decide +kernel
theorem dX12_findEvents_0 : decode cX12_findEvents 0 = .ok (.aload_n 0, 1) := by decide +kernel
theorem dX12_findEvents_1 : decode cX12_findEvents 1 = .ok (.iconst 0, 1) := by decide +kernel
theorem dX12_findEvents_2 : decode cX12_findEvents 2 = .ok (.putfield 319, 3) := by decide +kernel
theorem dX12_findEvents_5 : decode cX12_findEvents 5 = .ok (.aload_n 0, 1) := by decide +kernel
theorem dX12_findEvents_6 : decode cX12_findEvents 6 = .ok (.invokevirtual 280, 3) := by decide +kernel
theorem dX12_findEvents_9 : decode cX12_findEvents 9 = .ok (.iconst 0, 1) := by decide +kernel
theorem dX12_findEvents_10 : decode cX12_findEvents 10 = .ok (.istore_n 2, 1) := by decide +kernel
theorem dX12_findEvents_11 : decode cX12_findEvents 11 = .ok (.iload_n 2, 1) := by decide +kernel
theorem dX12_findEvents_12 : decode cX12_findEvents 12 = .ok (.bipush 12, 2) := by decide +kernel
theorem dX12_findEvents_14 : decode cX12_findEvents 14 = .ok (.aload_n 0, 1) := by decide +kernel
theorem dX12_findEvents_15 : decode cX12_findEvents 15 = .ok (.getfield 273, 3) := by decide +kernel
theorem dX12_findEvents_18 : decode cX12_findEvents 18 = .ok (.imul, 1) := by decide +kernel
theorem dX12_findEvents_19 : decode cX12_findEvents 19 = .ok (.if_icmp .ge 96, 3) := by decide +kernel
theorem dX12_findEvents_22 : decode cX12_findEvents 22 = .ok (.sipush 366, 3) := by decide +kernel
theorem dX12_findEvents_25 : decode cX12_findEvents 25 = .ok (.iload_n 2, 1) := by decide +kernel
theorem dX12_findEvents_26 : decode cX12_findEvents 26 = .ok (.aload_n 0, 1) := by decide +kernel
theorem dX12_findEvents_27 : decode cX12_findEvents 27 = .ok (.getfield 273, 3) := by decide +kernel
theorem dX12_findEvents_30 : decode cX12_findEvents 30 = .ok (.idiv, 1) := by decide +kernel
theorem dX12_findEvents_31 : decode cX12_findEvents 31 = .ok (.imul, 1) := by decide +kernel
theorem dX12_findEvents_32 : decode cX12_findEvents 32 = .ok (.aload_n 0, 1) := by decide +kernel
theorem dX12_findEvents_33 : decode cX12_findEvents 33 = .ok (.getfield 74, 3) := by decide +kernel
theorem dX12_findEvents_36 : decode cX12_findEvents 36 = .ok (.iload_n 2, 1) := by decide +kernel
theorem dX12_findEvents_37 : decode cX12_findEvents 37 = .ok (.aload_n 0, 1) := by decide +kernel
theorem dX12_findEvents_38 : decode cX12_findEvents 38 = .ok (.getfield 273, 3) := by decide +kernel
theorem dX12_findEvents_41 : decode cX12_findEvents 41 = .ok (.irem, 1) := by decide +kernel
theorem dX12_findEvents_42 : decode cX12_findEvents 42 = .ok (.iaload, 1) := by decide +kernel
theorem dX12_findEvents_43 : decode cX12_findEvents 43 = .ok (.iadd, 1) := by decide +kernel
theorem dX12_findEvents_44 : decode cX12_findEvents 44 = .ok (.istore_n 3, 1) := by decide +kernel
theorem dX12_findEvents_45 : decode cX12_findEvents 45 = .ok (.iconst 0, 1) := by decide +kernel
theorem dX12_findEvents_46 : decode cX12_findEvents 46 = .ok (.istore 4, 2) := by decide +kernel
theorem dX12_findEvents_48 : decode cX12_findEvents 48 = .ok (.iload 4, 2) := by decide +kernel
theorem dX12_findEvents_50 : decode cX12_findEvents 50 = .ok (.aload_n 0, 1) := by decide +kernel
theorem dX12_findEvents_51 : decode cX12_findEvents 51 = .ok (.invokevirtual 235, 3) := by decide +kernel
theorem dX12_findEvents_54 : decode cX12_findEvents 54 = .ok (.if_icmp .ge 55, 3) := by decide +kernel
theorem dX12_findEvents_57 : decode cX12_findEvents 57 = .ok (.iload_n 3, 1) := by decide +kernel
theorem dX12_findEvents_58 : decode cX12_findEvents 58 = .ok (.iload_n 1, 1) := by decide +kernel
theorem dX12_findEvents_59 : decode cX12_findEvents 59 = .ok (.if_icmp .gt 50, 3) := by decide +kernel
theorem dX12_findEvents_62 : decode cX12_findEvents 62 = .ok (.aload_n 0, 1) := by decide +kernel
theorem dX12_findEvents_63 : decode cX12_findEvents 63 = .ok (.iload 4, 2) := by decide +kernel
theorem dX12_findEvents_65 : decode cX12_findEvents 65 = .ok (.iload_n 3, 1) := by decide +kernel
theorem dX12_findEvents_66 : decode cX12_findEvents 66 = .ok (.invokevirtual 270, 3) := by decide +kernel
theorem dX12_findEvents_69 : decode cX12_findEvents 69 = .ok (.ifCond .eq 34, 3) := by decide +kernel
theorem dX12_findEvents_72 : decode cX12_findEvents 72 = .ok (.aload_n 0, 1) := by decide +kernel
theorem dX12_findEvents_73 : decode cX12_findEvents 73 = .ok (.getfield 86, 3) := by decide +kernel
theorem dX12_findEvents_76 : decode cX12_findEvents 76 = .ok (.aload_n 0, 1) := by decide +kernel
theorem dX12_findEvents_77 : decode cX12_findEvents 77 = .ok (.getfield 319, 3) := by decide +kernel
theorem dX12_findEvents_80 : decode cX12_findEvents 80 = .ok (.iload 4, 2) := by decide +kernel
theorem dX12_findEvents_82 : decode cX12_findEvents 82 = .ok (.iastore, 1) := by decide +kernel
theorem dX12_findEvents_83 : decode cX12_findEvents 83 = .ok (.aload_n 0, 1) := by decide +kernel
theorem dX12_findEvents_84 : decode cX12_findEvents 84 = .ok (.getfield 89, 3) := by decide +kernel
theorem dX12_findEvents_87 : decode cX12_findEvents 87 = .ok (.aload_n 0, 1) := by decide +kernel
theorem dX12_findEvents_88 : decode cX12_findEvents 88 = .ok (.getfield 319, 3) := by decide +kernel
theorem dX12_findEvents_91 : decode cX12_findEvents 91 = .ok (.iload_n 3, 1) := by decide +kernel
theorem dX12_findEvents_92 : decode cX12_findEvents 92 = .ok (.iastore, 1) := by decide +kernel
theorem dX12_findEvents_93 : decode cX12_findEvents 93 = .ok (.aload_n 0, 1) := by decide +kernel
theorem dX12_findEvents_94 : decode cX12_findEvents 94 = .ok (.dup, 1) := by decide +kernel
theorem dX12_findEvents_95 : decode cX12_findEvents 95 = .ok (.getfield 319, 3) := by decide +kernel
theorem dX12_findEvents_98 : decode cX12_findEvents 98 = .ok (.iconst 1, 1) := by decide +kernel
theorem dX12_findEvents_99 : decode cX12_findEvents 99 = .ok (.iadd, 1) := by decide +kernel
theorem dX12_findEvents_100 : decode cX12_findEvents 100 = .ok (.putfield 319, 3) := by decide +kernel
theorem dX12_findEvents_103 : decode cX12_findEvents 103 = .ok (.iinc 4 1, 3) := by decide +kernel
theorem dX12_findEvents_106 : decode cX12_findEvents 106 = .ok (.goto (-58), 3) := by decide +kernel
theorem dX12_findEvents_109 : decode cX12_findEvents 109 = .ok (.iinc 2 1, 3) := by decide +kernel
theorem dX12_findEvents_112 : decode cX12_findEvents 112 = .ok (.goto (-101), 3) := by decide +kernel
theorem dX12_findEvents_115 : decode cX12_findEvents 115 = .ok (.return_, 1) := by decide +kernel
theorem dX12_informs_0 : decode cX12_informs 0 = .ok (.aload_n 0, 1) := by decide +kernel
theorem dX12_informs_1 : decode cX12_informs 1 = .ok (.getfield 89, 3) := by decide +kernel
theorem dX12_informs_4 : decode cX12_informs 4 = .ok (.iload_n 1, 1) := by decide +kernel
theorem dX12_informs_5 : decode cX12_informs 5 = .ok (.iaload, 1) := by decide +kernel
theorem dX12_informs_6 : decode cX12_informs 6 = .ok (.aload_n 0, 1) := by decide +kernel
theorem dX12_informs_7 : decode cX12_informs 7 = .ok (.getfield 89, 3) := by decide +kernel
theorem dX12_informs_10 : decode cX12_informs 10 = .ok (.iload_n 2, 1) := by decide +kernel
theorem dX12_informs_11 : decode cX12_informs 11 = .ok (.iaload, 1) := by decide +kernel
theorem dX12_informs_12 : decode cX12_informs 12 = .ok (.if_icmp .ge 45, 3) := by decide +kernel
theorem dX12_informs_15 : decode cX12_informs 15 = .ok (.aload_n 0, 1) := by decide +kernel
theorem dX12_informs_16 : decode cX12_informs 16 = .ok (.aload_n 0, 1) := by decide +kernel
theorem dX12_informs_17 : decode cX12_informs 17 = .ok (.getfield 86, 3) := by decide +kernel
theorem dX12_informs_20 : decode cX12_informs 20 = .ok (.iload_n 2, 1) := by decide +kernel
theorem dX12_informs_21 : decode cX12_informs 21 = .ok (.iaload, 1) := by decide +kernel
theorem dX12_informs_22 : decode cX12_informs 22 = .ok (.aload_n 0, 1) := by decide +kernel
theorem dX12_informs_23 : decode cX12_informs 23 = .ok (.getfield 86, 3) := by decide +kernel
theorem dX12_informs_26 : decode cX12_informs 26 = .ok (.iload_n 1, 1) := by decide +kernel
theorem dX12_informs_27 : decode cX12_informs 27 = .ok (.iaload, 1) := by decide +kernel
theorem dX12_informs_28 : decode cX12_informs 28 = .ok (.invokevirtual 267, 3) := by decide +kernel
theorem dX12_informs_31 : decode cX12_informs 31 = .ok (.ifCond .eq 26, 3) := by decide +kernel
theorem dX12_informs_34 : decode cX12_informs 34 = .ok (.aload_n 0, 1) := by decide +kernel
theorem dX12_informs_35 : decode cX12_informs 35 = .ok (.aload_n 0, 1) := by decide +kernel
theorem dX12_informs_36 : decode cX12_informs 36 = .ok (.getfield 86, 3) := by decide +kernel
theorem dX12_informs_39 : decode cX12_informs 39 = .ok (.iload_n 2, 1) := by decide +kernel
theorem dX12_informs_40 : decode cX12_informs 40 = .ok (.iaload, 1) := by decide +kernel
theorem dX12_informs_41 : decode cX12_informs 41 = .ok (.aload_n 0, 1) := by decide +kernel
theorem dX12_informs_42 : decode cX12_informs 42 = .ok (.getfield 89, 3) := by decide +kernel
theorem dX12_informs_45 : decode cX12_informs 45 = .ok (.iload_n 1, 1) := by decide +kernel
theorem dX12_informs_46 : decode cX12_informs 46 = .ok (.iaload, 1) := by decide +kernel
theorem dX12_informs_47 : decode cX12_informs 47 = .ok (.invokevirtual 257, 3) := by decide +kernel
theorem dX12_informs_50 : decode cX12_informs 50 = .ok (.ifCond .ne 7, 3) := by decide +kernel
theorem dX12_informs_53 : decode cX12_informs 53 = .ok (.iconst 1, 1) := by decide +kernel
theorem dX12_informs_54 : decode cX12_informs 54 = .ok (.goto 4, 3) := by decide +kernel
theorem dX12_informs_57 : decode cX12_informs 57 = .ok (.iconst 0, 1) := by decide +kernel
theorem dX12_informs_58 : decode cX12_informs 58 = .ok (.ireturn, 1) := by decide +kernel
theorem dX12_meets_0 : decode cX12_meets 0 = .ok (.aload_n 0, 1) := by decide +kernel
theorem dX12_meets_1 : decode cX12_meets 1 = .ok (.getfield 102, 3) := by decide +kernel
theorem dX12_meets_4 : decode cX12_meets 4 = .ok (.iload_n 1, 1) := by decide +kernel
theorem dX12_meets_5 : decode cX12_meets 5 = .ok (.iaload, 1) := by decide +kernel
theorem dX12_meets_6 : decode cX12_meets 6 = .ok (.iconst (-1), 1) := by decide +kernel
theorem dX12_meets_7 : decode cX12_meets 7 = .ok (.if_icmp .ne 30, 3) := by decide +kernel
theorem dX12_meets_10 : decode cX12_meets 10 = .ok (.aload_n 0, 1) := by decide +kernel
theorem dX12_meets_11 : decode cX12_meets 11 = .ok (.getfield 102, 3) := by decide +kernel
theorem dX12_meets_14 : decode cX12_meets 14 = .ok (.iload_n 1, 1) := by decide +kernel
theorem dX12_meets_15 : decode cX12_meets 15 = .ok (.iload_n 2, 1) := by decide +kernel
theorem dX12_meets_16 : decode cX12_meets 16 = .ok (.iastore, 1) := by decide +kernel
theorem dX12_meets_17 : decode cX12_meets 17 = .ok (.aload_n 0, 1) := by decide +kernel
theorem dX12_meets_18 : decode cX12_meets 18 = .ok (.getfield 105, 3) := by decide +kernel
theorem dX12_meets_21 : decode cX12_meets 21 = .ok (.aload_n 0, 1) := by decide +kernel
theorem dX12_meets_22 : decode cX12_meets 22 = .ok (.getfield 322, 3) := by decide +kernel
theorem dX12_meets_25 : decode cX12_meets 25 = .ok (.iload_n 1, 1) := by decide +kernel
theorem dX12_meets_26 : decode cX12_meets 26 = .ok (.iastore, 1) := by decide +kernel
theorem dX12_meets_27 : decode cX12_meets 27 = .ok (.aload_n 0, 1) := by decide +kernel
theorem dX12_meets_28 : decode cX12_meets 28 = .ok (.dup, 1) := by decide +kernel
theorem dX12_meets_29 : decode cX12_meets 29 = .ok (.getfield 322, 3) := by decide +kernel
theorem dX12_meets_32 : decode cX12_meets 32 = .ok (.iconst 1, 1) := by decide +kernel
theorem dX12_meets_33 : decode cX12_meets 33 = .ok (.iadd, 1) := by decide +kernel
theorem dX12_meets_34 : decode cX12_meets 34 = .ok (.putfield 322, 3) := by decide +kernel
theorem dX12_meets_37 : decode cX12_meets 37 = .ok (.return_, 1) := by decide +kernel
theorem dX12_findWay_0 : decode cX12_findWay 0 = .ok (.iconst 0, 1) := by decide +kernel
theorem dX12_findWay_1 : decode cX12_findWay 1 = .ok (.istore 4, 2) := by decide +kernel
theorem dX12_findWay_3 : decode cX12_findWay 3 = .ok (.iload 4, 2) := by decide +kernel
theorem dX12_findWay_5 : decode cX12_findWay 5 = .ok (.iconst 2, 1) := by decide +kernel
theorem dX12_findWay_6 : decode cX12_findWay 6 = .ok (.aload_n 0, 1) := by decide +kernel
theorem dX12_findWay_7 : decode cX12_findWay 7 = .ok (.getfield 319, 3) := by decide +kernel
theorem dX12_findWay_10 : decode cX12_findWay 10 = .ok (.imul, 1) := by decide +kernel
theorem dX12_findWay_11 : decode cX12_findWay 11 = .ok (.if_icmp .ge 17, 3) := by decide +kernel
theorem dX12_findWay_14 : decode cX12_findWay 14 = .ok (.aload_n 0, 1) := by decide +kernel
theorem dX12_findWay_15 : decode cX12_findWay 15 = .ok (.getfield 102, 3) := by decide +kernel
theorem dX12_findWay_18 : decode cX12_findWay 18 = .ok (.iload 4, 2) := by decide +kernel
theorem dX12_findWay_20 : decode cX12_findWay 20 = .ok (.iconst (-1), 1) := by decide +kernel
theorem dX12_findWay_21 : decode cX12_findWay 21 = .ok (.iastore, 1) := by decide +kernel
theorem dX12_findWay_22 : decode cX12_findWay 22 = .ok (.iinc 4 1, 3) := by decide +kernel
theorem dX12_findWay_25 : decode cX12_findWay 25 = .ok (.goto (-22), 3) := by decide +kernel
theorem dX12_findWay_28 : decode cX12_findWay 28 = .ok (.aload_n 0, 1) := by decide +kernel
theorem dX12_findWay_29 : decode cX12_findWay 29 = .ok (.iconst 0, 1) := by decide +kernel
theorem dX12_findWay_30 : decode cX12_findWay 30 = .ok (.putfield 322, 3) := by decide +kernel
theorem dX12_findWay_33 : decode cX12_findWay 33 = .ok (.iconst 0, 1) := by decide +kernel
theorem dX12_findWay_34 : decode cX12_findWay 34 = .ok (.istore 4, 2) := by decide +kernel
theorem dX12_findWay_36 : decode cX12_findWay 36 = .ok (.iload 4, 2) := by decide +kernel
theorem dX12_findWay_38 : decode cX12_findWay 38 = .ok (.aload_n 0, 1) := by decide +kernel
theorem dX12_findWay_39 : decode cX12_findWay 39 = .ok (.getfield 319, 3) := by decide +kernel
theorem dX12_findWay_42 : decode cX12_findWay 42 = .ok (.if_icmp .ge 53, 3) := by decide +kernel
theorem dX12_findWay_45 : decode cX12_findWay 45 = .ok (.aload_n 0, 1) := by decide +kernel
theorem dX12_findWay_46 : decode cX12_findWay 46 = .ok (.getfield 86, 3) := by decide +kernel
theorem dX12_findWay_49 : decode cX12_findWay 49 = .ok (.iload 4, 2) := by decide +kernel
theorem dX12_findWay_51 : decode cX12_findWay 51 = .ok (.iaload, 1) := by decide +kernel
theorem dX12_findWay_52 : decode cX12_findWay 52 = .ok (.iload_n 1, 1) := by decide +kernel
theorem dX12_findWay_53 : decode cX12_findWay 53 = .ok (.if_icmp .ne 36, 3) := by decide +kernel
theorem dX12_findWay_56 : decode cX12_findWay 56 = .ok (.aload_n 0, 1) := by decide +kernel
theorem dX12_findWay_57 : decode cX12_findWay 57 = .ok (.getfield 89, 3) := by decide +kernel
theorem dX12_findWay_60 : decode cX12_findWay 60 = .ok (.iload 4, 2) := by decide +kernel
theorem dX12_findWay_62 : decode cX12_findWay 62 = .ok (.iaload, 1) := by decide +kernel
theorem dX12_findWay_63 : decode cX12_findWay 63 = .ok (.iload_n 2, 1) := by decide +kernel
theorem dX12_findWay_64 : decode cX12_findWay 64 = .ok (.if_icmp .lt 25, 3) := by decide +kernel
theorem dX12_findWay_67 : decode cX12_findWay 67 = .ok (.aload_n 0, 1) := by decide +kernel
theorem dX12_findWay_68 : decode cX12_findWay 68 = .ok (.getfield 99, 3) := by decide +kernel
theorem dX12_findWay_71 : decode cX12_findWay 71 = .ok (.iload 4, 2) := by decide +kernel
theorem dX12_findWay_73 : decode cX12_findWay 73 = .ok (.iaload, 1) := by decide +kernel
theorem dX12_findWay_74 : decode cX12_findWay 74 = .ok (.bipush (-2), 2) := by decide +kernel
theorem dX12_findWay_76 : decode cX12_findWay 76 = .ok (.if_icmp .eq 13, 3) := by decide +kernel
theorem dX12_findWay_79 : decode cX12_findWay 79 = .ok (.aload_n 0, 1) := by decide +kernel
theorem dX12_findWay_80 : decode cX12_findWay 80 = .ok (.iconst 2, 1) := by decide +kernel
theorem dX12_findWay_81 : decode cX12_findWay 81 = .ok (.iload 4, 2) := by decide +kernel
theorem dX12_findWay_83 : decode cX12_findWay 83 = .ok (.imul, 1) := by decide +kernel
theorem dX12_findWay_84 : decode cX12_findWay 84 = .ok (.bipush (-2), 2) := by decide +kernel
theorem dX12_findWay_86 : decode cX12_findWay 86 = .ok (.invokevirtual 325, 3) := by decide +kernel
theorem dX12_findWay_89 : decode cX12_findWay 89 = .ok (.iinc 4 1, 3) := by decide +kernel
theorem dX12_findWay_92 : decode cX12_findWay 92 = .ok (.goto (-56), 3) := by decide +kernel
theorem dX12_findWay_95 : decode cX12_findWay 95 = .ok (.iconst 0, 1) := by decide +kernel
theorem dX12_findWay_96 : decode cX12_findWay 96 = .ok (.istore 4, 2) := by decide +kernel
theorem dX12_findWay_98 : decode cX12_findWay 98 = .ok (.iload 4, 2) := by decide +kernel
theorem dX12_findWay_100 : decode cX12_findWay 100 = .ok (.aload_n 0, 1) := by decide +kernel
theorem dX12_findWay_101 : decode cX12_findWay 101 = .ok (.getfield 322, 3) := by decide +kernel
theorem dX12_findWay_104 : decode cX12_findWay 104 = .ok (.if_icmp .ge 238, 3) := by decide +kernel
theorem dX12_findWay_107 : decode cX12_findWay 107 = .ok (.aload_n 0, 1) := by decide +kernel
theorem dX12_findWay_108 : decode cX12_findWay 108 = .ok (.getfield 105, 3) := by decide +kernel
theorem dX12_findWay_111 : decode cX12_findWay 111 = .ok (.iload 4, 2) := by decide +kernel
theorem dX12_findWay_113 : decode cX12_findWay 113 = .ok (.iaload, 1) := by decide +kernel
theorem dX12_findWay_114 : decode cX12_findWay 114 = .ok (.iconst 2, 1) := by decide +kernel
theorem dX12_findWay_115 : decode cX12_findWay 115 = .ok (.idiv, 1) := by decide +kernel
theorem dX12_findWay_116 : decode cX12_findWay 116 = .ok (.istore 5, 2) := by decide +kernel
theorem dX12_findWay_118 : decode cX12_findWay 118 = .ok (.aload_n 0, 1) := by decide +kernel
theorem dX12_findWay_119 : decode cX12_findWay 119 = .ok (.getfield 105, 3) := by decide +kernel
theorem dX12_findWay_122 : decode cX12_findWay 122 = .ok (.iload 4, 2) := by decide +kernel
theorem dX12_findWay_124 : decode cX12_findWay 124 = .ok (.iaload, 1) := by decide +kernel
theorem dX12_findWay_125 : decode cX12_findWay 125 = .ok (.iconst 2, 1) := by decide +kernel
theorem dX12_findWay_126 : decode cX12_findWay 126 = .ok (.irem, 1) := by decide +kernel
theorem dX12_findWay_127 : decode cX12_findWay 127 = .ok (.ifCond .ne 75, 3) := by decide +kernel
theorem dX12_findWay_130 : decode cX12_findWay 130 = .ok (.aload_n 0, 1) := by decide +kernel
theorem dX12_findWay_131 : decode cX12_findWay 131 = .ok (.getfield 92, 3) := by decide +kernel
theorem dX12_findWay_134 : decode cX12_findWay 134 = .ok (.iload 5, 2) := by decide +kernel
theorem dX12_findWay_136 : decode cX12_findWay 136 = .ok (.baload, 1) := by decide +kernel
theorem dX12_findWay_137 : decode cX12_findWay 137 = .ok (.ifCond .ne 20, 3) := by decide +kernel
theorem dX12_findWay_140 : decode cX12_findWay 140 = .ok (.aload_n 0, 1) := by decide +kernel
theorem dX12_findWay_141 : decode cX12_findWay 141 = .ok (.iconst 2, 1) := by decide +kernel
theorem dX12_findWay_142 : decode cX12_findWay 142 = .ok (.iload 5, 2) := by decide +kernel
theorem dX12_findWay_144 : decode cX12_findWay 144 = .ok (.imul, 1) := by decide +kernel
theorem dX12_findWay_145 : decode cX12_findWay 145 = .ok (.iconst 1, 1) := by decide +kernel
theorem dX12_findWay_146 : decode cX12_findWay 146 = .ok (.iadd, 1) := by decide +kernel
theorem dX12_findWay_147 : decode cX12_findWay 147 = .ok (.aload_n 0, 1) := by decide +kernel
theorem dX12_findWay_148 : decode cX12_findWay 148 = .ok (.getfield 105, 3) := by decide +kernel
theorem dX12_findWay_151 : decode cX12_findWay 151 = .ok (.iload 4, 2) := by decide +kernel
theorem dX12_findWay_153 : decode cX12_findWay 153 = .ok (.iaload, 1) := by decide +kernel
theorem dX12_findWay_154 : decode cX12_findWay 154 = .ok (.invokevirtual 325, 3) := by decide +kernel
theorem dX12_findWay_157 : decode cX12_findWay 157 = .ok (.aload_n 0, 1) := by decide +kernel
theorem dX12_findWay_158 : decode cX12_findWay 158 = .ok (.getfield 92, 3) := by decide +kernel
theorem dX12_findWay_161 : decode cX12_findWay 161 = .ok (.iload 5, 2) := by decide +kernel
theorem dX12_findWay_163 : decode cX12_findWay 163 = .ok (.baload, 1) := by decide +kernel
theorem dX12_findWay_164 : decode cX12_findWay 164 = .ok (.ifCond .eq 172, 3) := by decide +kernel
theorem dX12_findWay_167 : decode cX12_findWay 167 = .ok (.aload_n 0, 1) := by decide +kernel
theorem dX12_findWay_168 : decode cX12_findWay 168 = .ok (.getfield 99, 3) := by decide +kernel
theorem dX12_findWay_171 : decode cX12_findWay 171 = .ok (.iload 5, 2) := by decide +kernel
theorem dX12_findWay_173 : decode cX12_findWay 173 = .ok (.iaload, 1) := by decide +kernel
theorem dX12_findWay_174 : decode cX12_findWay 174 = .ok (.ifCond .lt 162, 3) := by decide +kernel
theorem dX12_findWay_177 : decode cX12_findWay 177 = .ok (.aload_n 0, 1) := by decide +kernel
theorem dX12_findWay_178 : decode cX12_findWay 178 = .ok (.iconst 2, 1) := by decide +kernel
theorem dX12_findWay_179 : decode cX12_findWay 179 = .ok (.aload_n 0, 1) := by decide +kernel
theorem dX12_findWay_180 : decode cX12_findWay 180 = .ok (.getfield 99, 3) := by decide +kernel
theorem dX12_findWay_183 : decode cX12_findWay 183 = .ok (.iload 5, 2) := by decide +kernel
theorem dX12_findWay_185 : decode cX12_findWay 185 = .ok (.iaload, 1) := by decide +kernel
theorem dX12_findWay_186 : decode cX12_findWay 186 = .ok (.imul, 1) := by decide +kernel
theorem dX12_findWay_187 : decode cX12_findWay 187 = .ok (.iconst 1, 1) := by decide +kernel
theorem dX12_findWay_188 : decode cX12_findWay 188 = .ok (.iadd, 1) := by decide +kernel
theorem dX12_findWay_189 : decode cX12_findWay 189 = .ok (.aload_n 0, 1) := by decide +kernel
theorem dX12_findWay_190 : decode cX12_findWay 190 = .ok (.getfield 105, 3) := by decide +kernel
theorem dX12_findWay_193 : decode cX12_findWay 193 = .ok (.iload 4, 2) := by decide +kernel
theorem dX12_findWay_195 : decode cX12_findWay 195 = .ok (.iaload, 1) := by decide +kernel
theorem dX12_findWay_196 : decode cX12_findWay 196 = .ok (.invokevirtual 325, 3) := by decide +kernel
theorem dX12_findWay_199 : decode cX12_findWay 199 = .ok (.goto 137, 3) := by decide +kernel
theorem dX12_findWay_202 : decode cX12_findWay 202 = .ok (.aload_n 0, 1) := by decide +kernel
theorem dX12_findWay_203 : decode cX12_findWay 203 = .ok (.getfield 96, 3) := by decide +kernel
theorem dX12_findWay_206 : decode cX12_findWay 206 = .ok (.iload 5, 2) := by decide +kernel
theorem dX12_findWay_208 : decode cX12_findWay 208 = .ok (.iaload, 1) := by decide +kernel
theorem dX12_findWay_209 : decode cX12_findWay 209 = .ok (.bipush (-3), 2) := by decide +kernel
theorem dX12_findWay_211 : decode cX12_findWay 211 = .ok (.if_icmp .eq 41, 3) := by decide +kernel
theorem dX12_findWay_214 : decode cX12_findWay 214 = .ok (.aload_n 0, 1) := by decide +kernel
theorem dX12_findWay_215 : decode cX12_findWay 215 = .ok (.iload_n 3, 1) := by decide +kernel
theorem dX12_findWay_216 : decode cX12_findWay 216 = .ok (.aload_n 0, 1) := by decide +kernel
theorem dX12_findWay_217 : decode cX12_findWay 217 = .ok (.getfield 86, 3) := by decide +kernel
theorem dX12_findWay_220 : decode cX12_findWay 220 = .ok (.iload 5, 2) := by decide +kernel
theorem dX12_findWay_222 : decode cX12_findWay 222 = .ok (.iaload, 1) := by decide +kernel
theorem dX12_findWay_223 : decode cX12_findWay 223 = .ok (.invokevirtual 267, 3) := by decide +kernel
theorem dX12_findWay_226 : decode cX12_findWay 226 = .ok (.ifCond .eq 26, 3) := by decide +kernel
theorem dX12_findWay_229 : decode cX12_findWay 229 = .ok (.aload_n 0, 1) := by decide +kernel
theorem dX12_findWay_230 : decode cX12_findWay 230 = .ok (.iload_n 3, 1) := by decide +kernel
theorem dX12_findWay_231 : decode cX12_findWay 231 = .ok (.aload_n 0, 1) := by decide +kernel
theorem dX12_findWay_232 : decode cX12_findWay 232 = .ok (.getfield 89, 3) := by decide +kernel
theorem dX12_findWay_235 : decode cX12_findWay 235 = .ok (.iload 5, 2) := by decide +kernel
theorem dX12_findWay_237 : decode cX12_findWay 237 = .ok (.iaload, 1) := by decide +kernel
theorem dX12_findWay_238 : decode cX12_findWay 238 = .ok (.invokevirtual 257, 3) := by decide +kernel
theorem dX12_findWay_241 : decode cX12_findWay 241 = .ok (.ifCond .ne 11, 3) := by decide +kernel
theorem dX12_findWay_244 : decode cX12_findWay 244 = .ok (.aload_n 0, 1) := by decide +kernel
theorem dX12_findWay_245 : decode cX12_findWay 245 = .ok (.getfield 105, 3) := by decide +kernel
theorem dX12_findWay_248 : decode cX12_findWay 248 = .ok (.iload 4, 2) := by decide +kernel
theorem dX12_findWay_250 : decode cX12_findWay 250 = .ok (.iaload, 1) := by decide +kernel
theorem dX12_findWay_251 : decode cX12_findWay 251 = .ok (.ireturn, 1) := by decide +kernel
theorem dX12_findWay_252 : decode cX12_findWay 252 = .ok (.iload 5, 2) := by decide +kernel
theorem dX12_findWay_254 : decode cX12_findWay 254 = .ok (.iconst 1, 1) := by decide +kernel
theorem dX12_findWay_255 : decode cX12_findWay 255 = .ok (.iadd, 1) := by decide +kernel
theorem dX12_findWay_256 : decode cX12_findWay 256 = .ok (.istore 6, 2) := by decide +kernel
theorem dX12_findWay_258 : decode cX12_findWay 258 = .ok (.iload 6, 2) := by decide +kernel
theorem dX12_findWay_260 : decode cX12_findWay 260 = .ok (.aload_n 0, 1) := by decide +kernel
theorem dX12_findWay_261 : decode cX12_findWay 261 = .ok (.getfield 319, 3) := by decide +kernel
theorem dX12_findWay_264 : decode cX12_findWay 264 = .ok (.if_icmp .ge 47, 3) := by decide +kernel
theorem dX12_findWay_267 : decode cX12_findWay 267 = .ok (.aload_n 0, 1) := by decide +kernel
theorem dX12_findWay_268 : decode cX12_findWay 268 = .ok (.getfield 96, 3) := by decide +kernel
theorem dX12_findWay_271 : decode cX12_findWay 271 = .ok (.iload 5, 2) := by decide +kernel
theorem dX12_findWay_273 : decode cX12_findWay 273 = .ok (.iaload, 1) := by decide +kernel
theorem dX12_findWay_274 : decode cX12_findWay 274 = .ok (.iload 6, 2) := by decide +kernel
theorem dX12_findWay_276 : decode cX12_findWay 276 = .ok (.if_icmp .eq 29, 3) := by decide +kernel
theorem dX12_findWay_279 : decode cX12_findWay 279 = .ok (.aload_n 0, 1) := by decide +kernel
theorem dX12_findWay_280 : decode cX12_findWay 280 = .ok (.iload 5, 2) := by decide +kernel
theorem dX12_findWay_282 : decode cX12_findWay 282 = .ok (.iload 6, 2) := by decide +kernel
theorem dX12_findWay_284 : decode cX12_findWay 284 = .ok (.invokevirtual 328, 3) := by decide +kernel
theorem dX12_findWay_287 : decode cX12_findWay 287 = .ok (.ifCond .eq 18, 3) := by decide +kernel
theorem dX12_findWay_290 : decode cX12_findWay 290 = .ok (.aload_n 0, 1) := by decide +kernel
theorem dX12_findWay_291 : decode cX12_findWay 291 = .ok (.iconst 2, 1) := by decide +kernel
theorem dX12_findWay_292 : decode cX12_findWay 292 = .ok (.iload 6, 2) := by decide +kernel
theorem dX12_findWay_294 : decode cX12_findWay 294 = .ok (.imul, 1) := by decide +kernel
theorem dX12_findWay_295 : decode cX12_findWay 295 = .ok (.aload_n 0, 1) := by decide +kernel
theorem dX12_findWay_296 : decode cX12_findWay 296 = .ok (.getfield 105, 3) := by decide +kernel
theorem dX12_findWay_299 : decode cX12_findWay 299 = .ok (.iload 4, 2) := by decide +kernel
theorem dX12_findWay_301 : decode cX12_findWay 301 = .ok (.iaload, 1) := by decide +kernel
theorem dX12_findWay_302 : decode cX12_findWay 302 = .ok (.invokevirtual 325, 3) := by decide +kernel
theorem dX12_findWay_305 : decode cX12_findWay 305 = .ok (.iinc 6 1, 3) := by decide +kernel
theorem dX12_findWay_308 : decode cX12_findWay 308 = .ok (.goto (-50), 3) := by decide +kernel
theorem dX12_findWay_311 : decode cX12_findWay 311 = .ok (.aload_n 0, 1) := by decide +kernel
theorem dX12_findWay_312 : decode cX12_findWay 312 = .ok (.getfield 92, 3) := by decide +kernel
theorem dX12_findWay_315 : decode cX12_findWay 315 = .ok (.iload 5, 2) := by decide +kernel
theorem dX12_findWay_317 : decode cX12_findWay 317 = .ok (.baload, 1) := by decide +kernel
theorem dX12_findWay_318 : decode cX12_findWay 318 = .ok (.ifCond .eq 18, 3) := by decide +kernel
theorem dX12_findWay_321 : decode cX12_findWay 321 = .ok (.aload_n 0, 1) := by decide +kernel
theorem dX12_findWay_322 : decode cX12_findWay 322 = .ok (.iconst 2, 1) := by decide +kernel
theorem dX12_findWay_323 : decode cX12_findWay 323 = .ok (.iload 5, 2) := by decide +kernel
theorem dX12_findWay_325 : decode cX12_findWay 325 = .ok (.imul, 1) := by decide +kernel
theorem dX12_findWay_326 : decode cX12_findWay 326 = .ok (.aload_n 0, 1) := by decide +kernel
theorem dX12_findWay_327 : decode cX12_findWay 327 = .ok (.getfield 105, 3) := by decide +kernel
theorem dX12_findWay_330 : decode cX12_findWay 330 = .ok (.iload 4, 2) := by decide +kernel
theorem dX12_findWay_332 : decode cX12_findWay 332 = .ok (.iaload, 1) := by decide +kernel
theorem dX12_findWay_333 : decode cX12_findWay 333 = .ok (.invokevirtual 325, 3) := by decide +kernel
theorem dX12_findWay_336 : decode cX12_findWay 336 = .ok (.iinc 4 1, 3) := by decide +kernel
theorem dX12_findWay_339 : decode cX12_findWay 339 = .ok (.goto (-241), 3) := by decide +kernel
theorem dX12_findWay_342 : decode cX12_findWay 342 = .ok (.iconst (-1), 1) := by decide +kernel
theorem dX12_findWay_343 : decode cX12_findWay 343 = .ok (.ireturn, 1) := by decide +kernel
theorem dX12_laysWay_0 : decode cX12_laysWay 0 = .ok (.iload_n 1, 1) := by decide +kernel
theorem dX12_laysWay_1 : decode cX12_laysWay 1 = .ok (.istore_n 2, 1) := by decide +kernel
theorem dX12_laysWay_2 : decode cX12_laysWay 2 = .ok (.iload_n 2, 1) := by decide +kernel
theorem dX12_laysWay_3 : decode cX12_laysWay 3 = .ok (.bipush (-2), 2) := by decide +kernel
theorem dX12_laysWay_5 : decode cX12_laysWay 5 = .ok (.if_icmp .eq 112, 3) := by decide +kernel
theorem dX12_laysWay_8 : decode cX12_laysWay 8 = .ok (.aload_n 0, 1) := by decide +kernel
theorem dX12_laysWay_9 : decode cX12_laysWay 9 = .ok (.getfield 102, 3) := by decide +kernel
theorem dX12_laysWay_12 : decode cX12_laysWay 12 = .ok (.iload_n 2, 1) := by decide +kernel
theorem dX12_laysWay_13 : decode cX12_laysWay 13 = .ok (.iaload, 1) := by decide +kernel
theorem dX12_laysWay_14 : decode cX12_laysWay 14 = .ok (.istore_n 3, 1) := by decide +kernel
theorem dX12_laysWay_15 : decode cX12_laysWay 15 = .ok (.iload_n 2, 1) := by decide +kernel
theorem dX12_laysWay_16 : decode cX12_laysWay 16 = .ok (.iconst 2, 1) := by decide +kernel
theorem dX12_laysWay_17 : decode cX12_laysWay 17 = .ok (.idiv, 1) := by decide +kernel
theorem dX12_laysWay_18 : decode cX12_laysWay 18 = .ok (.istore 4, 2) := by decide +kernel
theorem dX12_laysWay_20 : decode cX12_laysWay 20 = .ok (.iload_n 2, 1) := by decide +kernel
theorem dX12_laysWay_21 : decode cX12_laysWay 21 = .ok (.iconst 2, 1) := by decide +kernel
theorem dX12_laysWay_22 : decode cX12_laysWay 22 = .ok (.irem, 1) := by decide +kernel
theorem dX12_laysWay_23 : decode cX12_laysWay 23 = .ok (.iconst 1, 1) := by decide +kernel
theorem dX12_laysWay_24 : decode cX12_laysWay 24 = .ok (.if_icmp .ne 21, 3) := by decide +kernel
theorem dX12_laysWay_27 : decode cX12_laysWay 27 = .ok (.iload_n 3, 1) := by decide +kernel
theorem dX12_laysWay_28 : decode cX12_laysWay 28 = .ok (.iload_n 2, 1) := by decide +kernel
theorem dX12_laysWay_29 : decode cX12_laysWay 29 = .ok (.iconst 1, 1) := by decide +kernel
theorem dX12_laysWay_30 : decode cX12_laysWay 30 = .ok (.isub, 1) := by decide +kernel
theorem dX12_laysWay_31 : decode cX12_laysWay 31 = .ok (.if_icmp .ne 14, 3) := by decide +kernel
theorem dX12_laysWay_34 : decode cX12_laysWay 34 = .ok (.aload_n 0, 1) := by decide +kernel
theorem dX12_laysWay_35 : decode cX12_laysWay 35 = .ok (.getfield 108, 3) := by decide +kernel
theorem dX12_laysWay_38 : decode cX12_laysWay 38 = .ok (.iload 4, 2) := by decide +kernel
theorem dX12_laysWay_40 : decode cX12_laysWay 40 = .ok (.iconst 1, 1) := by decide +kernel
theorem dX12_laysWay_41 : decode cX12_laysWay 41 = .ok (.bastore, 1) := by decide +kernel
theorem dX12_laysWay_42 : decode cX12_laysWay 42 = .ok (.goto 70, 3) := by decide +kernel
theorem dX12_laysWay_45 : decode cX12_laysWay 45 = .ok (.iload_n 2, 1) := by decide +kernel
theorem dX12_laysWay_46 : decode cX12_laysWay 46 = .ok (.iconst 2, 1) := by decide +kernel
theorem dX12_laysWay_47 : decode cX12_laysWay 47 = .ok (.irem, 1) := by decide +kernel
theorem dX12_laysWay_48 : decode cX12_laysWay 48 = .ok (.ifCond .ne 21, 3) := by decide +kernel
theorem dX12_laysWay_51 : decode cX12_laysWay 51 = .ok (.iload_n 3, 1) := by decide +kernel
theorem dX12_laysWay_52 : decode cX12_laysWay 52 = .ok (.iload_n 2, 1) := by decide +kernel
theorem dX12_laysWay_53 : decode cX12_laysWay 53 = .ok (.iconst 1, 1) := by decide +kernel
theorem dX12_laysWay_54 : decode cX12_laysWay 54 = .ok (.iadd, 1) := by decide +kernel
theorem dX12_laysWay_55 : decode cX12_laysWay 55 = .ok (.if_icmp .ne 14, 3) := by decide +kernel
theorem dX12_laysWay_58 : decode cX12_laysWay 58 = .ok (.aload_n 0, 1) := by decide +kernel
theorem dX12_laysWay_59 : decode cX12_laysWay 59 = .ok (.getfield 108, 3) := by decide +kernel
theorem dX12_laysWay_62 : decode cX12_laysWay 62 = .ok (.iload 4, 2) := by decide +kernel
theorem dX12_laysWay_64 : decode cX12_laysWay 64 = .ok (.iconst 0, 1) := by decide +kernel
theorem dX12_laysWay_65 : decode cX12_laysWay 65 = .ok (.bastore, 1) := by decide +kernel
theorem dX12_laysWay_66 : decode cX12_laysWay 66 = .ok (.goto 46, 3) := by decide +kernel
theorem dX12_laysWay_69 : decode cX12_laysWay 69 = .ok (.iload_n 2, 1) := by decide +kernel
theorem dX12_laysWay_70 : decode cX12_laysWay 70 = .ok (.iconst 2, 1) := by decide +kernel
theorem dX12_laysWay_71 : decode cX12_laysWay 71 = .ok (.irem, 1) := by decide +kernel
theorem dX12_laysWay_72 : decode cX12_laysWay 72 = .ok (.ifCond .ne 40, 3) := by decide +kernel
theorem dX12_laysWay_75 : decode cX12_laysWay 75 = .ok (.aload_n 0, 1) := by decide +kernel
theorem dX12_laysWay_76 : decode cX12_laysWay 76 = .ok (.getfield 111, 3) := by decide +kernel
theorem dX12_laysWay_79 : decode cX12_laysWay 79 = .ok (.iload 4, 2) := by decide +kernel
theorem dX12_laysWay_81 : decode cX12_laysWay 81 = .ok (.iload_n 3, 1) := by decide +kernel
theorem dX12_laysWay_82 : decode cX12_laysWay 82 = .ok (.bipush (-2), 2) := by decide +kernel
theorem dX12_laysWay_84 : decode cX12_laysWay 84 = .ok (.if_icmp .ne 8, 3) := by decide +kernel
theorem dX12_laysWay_87 : decode cX12_laysWay 87 = .ok (.bipush (-2), 2) := by decide +kernel
theorem dX12_laysWay_89 : decode cX12_laysWay 89 = .ok (.goto 6, 3) := by decide +kernel
theorem dX12_laysWay_92 : decode cX12_laysWay 92 = .ok (.iload_n 3, 1) := by decide +kernel
theorem dX12_laysWay_93 : decode cX12_laysWay 93 = .ok (.iconst 2, 1) := by decide +kernel
theorem dX12_laysWay_94 : decode cX12_laysWay 94 = .ok (.idiv, 1) := by decide +kernel
theorem dX12_laysWay_95 : decode cX12_laysWay 95 = .ok (.iastore, 1) := by decide +kernel
theorem dX12_laysWay_96 : decode cX12_laysWay 96 = .ok (.iload_n 3, 1) := by decide +kernel
theorem dX12_laysWay_97 : decode cX12_laysWay 97 = .ok (.bipush (-2), 2) := by decide +kernel
theorem dX12_laysWay_99 : decode cX12_laysWay 99 = .ok (.if_icmp .eq 13, 3) := by decide +kernel
theorem dX12_laysWay_102 : decode cX12_laysWay 102 = .ok (.aload_n 0, 1) := by decide +kernel
theorem dX12_laysWay_103 : decode cX12_laysWay 103 = .ok (.getfield 114, 3) := by decide +kernel
theorem dX12_laysWay_106 : decode cX12_laysWay 106 = .ok (.iload_n 3, 1) := by decide +kernel
theorem dX12_laysWay_107 : decode cX12_laysWay 107 = .ok (.iconst 2, 1) := by decide +kernel
theorem dX12_laysWay_108 : decode cX12_laysWay 108 = .ok (.idiv, 1) := by decide +kernel
theorem dX12_laysWay_109 : decode cX12_laysWay 109 = .ok (.iload 4, 2) := by decide +kernel
theorem dX12_laysWay_111 : decode cX12_laysWay 111 = .ok (.iastore, 1) := by decide +kernel
theorem dX12_laysWay_112 : decode cX12_laysWay 112 = .ok (.iload_n 3, 1) := by decide +kernel
theorem dX12_laysWay_113 : decode cX12_laysWay 113 = .ok (.istore_n 2, 1) := by decide +kernel
theorem dX12_laysWay_114 : decode cX12_laysWay 114 = .ok (.goto (-112), 3) := by decide +kernel
theorem dX12_laysWay_117 : decode cX12_laysWay 117 = .ok (.return_, 1) := by decide +kernel
theorem dX12_cut_0 : decode cX12_cut 0 = .ok (.aload_n 0, 1) := by decide +kernel
theorem dX12_cut_1 : decode cX12_cut 1 = .ok (.iconst 0, 1) := by decide +kernel
theorem dX12_cut_2 : decode cX12_cut 2 = .ok (.putfield 1, 3) := by decide +kernel
theorem dX12_cut_5 : decode cX12_cut 5 = .ok (.aload_n 0, 1) := by decide +kernel
theorem dX12_cut_6 : decode cX12_cut 6 = .ok (.iload_n 1, 1) := by decide +kernel
theorem dX12_cut_7 : decode cX12_cut 7 = .ok (.iload_n 2, 1) := by decide +kernel
theorem dX12_cut_8 : decode cX12_cut 8 = .ok (.invokevirtual 298, 3) := by decide +kernel
theorem dX12_cut_11 : decode cX12_cut 11 = .ok (.ifCond .eq 19, 3) := by decide +kernel
theorem dX12_cut_14 : decode cX12_cut 14 = .ok (.iload_n 3, 1) := by decide +kernel
theorem dX12_cut_15 : decode cX12_cut 15 = .ok (.invokestatic 241, 3) := by decide +kernel
theorem dX12_cut_18 : decode cX12_cut 18 = .ok (.ifCond .eq 12, 3) := by decide +kernel
theorem dX12_cut_21 : decode cX12_cut 21 = .ok (.iload_n 2, 1) := by decide +kernel
theorem dX12_cut_22 : decode cX12_cut 22 = .ok (.aload_n 0, 1) := by decide +kernel
theorem dX12_cut_23 : decode cX12_cut 23 = .ok (.iload_n 1, 1) := by decide +kernel
theorem dX12_cut_24 : decode cX12_cut 24 = .ok (.invokevirtual 286, 3) := by decide +kernel
theorem dX12_cut_27 : decode cX12_cut 27 = .ok (.if_icmp .ne 5, 3) := by decide +kernel
theorem dX12_cut_30 : decode cX12_cut 30 = .ok (.iconst (-1), 1) := by decide +kernel
theorem dX12_cut_31 : decode cX12_cut 31 = .ok (.ireturn, 1) := by decide +kernel
theorem dX12_cut_32 : decode cX12_cut 32 = .ok (.aload_n 0, 1) := by decide +kernel
theorem dX12_cut_33 : decode cX12_cut 33 = .ok (.iload_n 3, 1) := by decide +kernel
theorem dX12_cut_34 : decode cX12_cut 34 = .ok (.invokevirtual 331, 3) := by decide +kernel
theorem dX12_cut_37 : decode cX12_cut 37 = .ok (.iconst 0, 1) := by decide +kernel
theorem dX12_cut_38 : decode cX12_cut 38 = .ok (.istore 4, 2) := by decide +kernel
theorem dX12_cut_40 : decode cX12_cut 40 = .ok (.iload 4, 2) := by decide +kernel
theorem dX12_cut_42 : decode cX12_cut 42 = .ok (.aload_n 0, 1) := by decide +kernel
theorem dX12_cut_43 : decode cX12_cut 43 = .ok (.getfield 319, 3) := by decide +kernel
theorem dX12_cut_46 : decode cX12_cut 46 = .ok (.if_icmp .ge 33, 3) := by decide +kernel
theorem dX12_cut_49 : decode cX12_cut 49 = .ok (.aload_n 0, 1) := by decide +kernel
theorem dX12_cut_50 : decode cX12_cut 50 = .ok (.getfield 92, 3) := by decide +kernel
theorem dX12_cut_53 : decode cX12_cut 53 = .ok (.iload 4, 2) := by decide +kernel
theorem dX12_cut_55 : decode cX12_cut 55 = .ok (.iconst 0, 1) := by decide +kernel
theorem dX12_cut_56 : decode cX12_cut 56 = .ok (.bastore, 1) := by decide +kernel
theorem dX12_cut_57 : decode cX12_cut 57 = .ok (.aload_n 0, 1) := by decide +kernel
theorem dX12_cut_58 : decode cX12_cut 58 = .ok (.getfield 96, 3) := by decide +kernel
theorem dX12_cut_61 : decode cX12_cut 61 = .ok (.iload 4, 2) := by decide +kernel
theorem dX12_cut_63 : decode cX12_cut 63 = .ok (.iconst (-1), 1) := by decide +kernel
theorem dX12_cut_64 : decode cX12_cut 64 = .ok (.iastore, 1) := by decide +kernel
theorem dX12_cut_65 : decode cX12_cut 65 = .ok (.aload_n 0, 1) := by decide +kernel
theorem dX12_cut_66 : decode cX12_cut 66 = .ok (.getfield 99, 3) := by decide +kernel
theorem dX12_cut_69 : decode cX12_cut 69 = .ok (.iload 4, 2) := by decide +kernel
theorem dX12_cut_71 : decode cX12_cut 71 = .ok (.iconst (-1), 1) := by decide +kernel
theorem dX12_cut_72 : decode cX12_cut 72 = .ok (.iastore, 1) := by decide +kernel
theorem dX12_cut_73 : decode cX12_cut 73 = .ok (.iinc 4 1, 3) := by decide +kernel
theorem dX12_cut_76 : decode cX12_cut 76 = .ok (.goto (-36), 3) := by decide +kernel
theorem dX12_cut_79 : decode cX12_cut 79 = .ok (.iconst 0, 1) := by decide +kernel
theorem dX12_cut_80 : decode cX12_cut 80 = .ok (.istore 4, 2) := by decide +kernel
theorem dX12_cut_82 : decode cX12_cut 82 = .ok (.aload_n 0, 1) := by decide +kernel
theorem dX12_cut_83 : decode cX12_cut 83 = .ok (.aload_n 0, 1) := by decide +kernel
theorem dX12_cut_84 : decode cX12_cut 84 = .ok (.iload_n 1, 1) := by decide +kernel
theorem dX12_cut_85 : decode cX12_cut 85 = .ok (.invokevirtual 286, 3) := by decide +kernel
theorem dX12_cut_88 : decode cX12_cut 88 = .ok (.aload_n 0, 1) := by decide +kernel
theorem dX12_cut_89 : decode cX12_cut 89 = .ok (.iload_n 1, 1) := by decide +kernel
theorem dX12_cut_90 : decode cX12_cut 90 = .ok (.invokevirtual 289, 3) := by decide +kernel
theorem dX12_cut_93 : decode cX12_cut 93 = .ok (.iload_n 2, 1) := by decide +kernel
theorem dX12_cut_94 : decode cX12_cut 94 = .ok (.invokevirtual 334, 3) := by decide +kernel
theorem dX12_cut_97 : decode cX12_cut 97 = .ok (.istore 5, 2) := by decide +kernel
theorem dX12_cut_99 : decode cX12_cut 99 = .ok (.iload 5, 2) := by decide +kernel
theorem dX12_cut_101 : decode cX12_cut 101 = .ok (.ifCond .lt 191, 3) := by decide +kernel
theorem dX12_cut_104 : decode cX12_cut 104 = .ok (.iconst 0, 1) := by decide +kernel
theorem dX12_cut_105 : decode cX12_cut 105 = .ok (.istore 6, 2) := by decide +kernel
theorem dX12_cut_107 : decode cX12_cut 107 = .ok (.iload 6, 2) := by decide +kernel
theorem dX12_cut_109 : decode cX12_cut 109 = .ok (.aload_n 0, 1) := by decide +kernel
theorem dX12_cut_110 : decode cX12_cut 110 = .ok (.getfield 319, 3) := by decide +kernel
theorem dX12_cut_113 : decode cX12_cut 113 = .ok (.if_icmp .ge 51, 3) := by decide +kernel
theorem dX12_cut_116 : decode cX12_cut 116 = .ok (.aload_n 0, 1) := by decide +kernel
theorem dX12_cut_117 : decode cX12_cut 117 = .ok (.getfield 108, 3) := by decide +kernel
theorem dX12_cut_120 : decode cX12_cut 120 = .ok (.iload 6, 2) := by decide +kernel
theorem dX12_cut_122 : decode cX12_cut 122 = .ok (.aload_n 0, 1) := by decide +kernel
theorem dX12_cut_123 : decode cX12_cut 123 = .ok (.getfield 92, 3) := by decide +kernel
theorem dX12_cut_126 : decode cX12_cut 126 = .ok (.iload 6, 2) := by decide +kernel
theorem dX12_cut_128 : decode cX12_cut 128 = .ok (.baload, 1) := by decide +kernel
theorem dX12_cut_129 : decode cX12_cut 129 = .ok (.bastore, 1) := by decide +kernel
theorem dX12_cut_130 : decode cX12_cut 130 = .ok (.aload_n 0, 1) := by decide +kernel
theorem dX12_cut_131 : decode cX12_cut 131 = .ok (.getfield 111, 3) := by decide +kernel
theorem dX12_cut_134 : decode cX12_cut 134 = .ok (.iload 6, 2) := by decide +kernel
theorem dX12_cut_136 : decode cX12_cut 136 = .ok (.aload_n 0, 1) := by decide +kernel
theorem dX12_cut_137 : decode cX12_cut 137 = .ok (.getfield 99, 3) := by decide +kernel
theorem dX12_cut_140 : decode cX12_cut 140 = .ok (.iload 6, 2) := by decide +kernel
theorem dX12_cut_142 : decode cX12_cut 142 = .ok (.iaload, 1) := by decide +kernel
theorem dX12_cut_143 : decode cX12_cut 143 = .ok (.iastore, 1) := by decide +kernel
theorem dX12_cut_144 : decode cX12_cut 144 = .ok (.aload_n 0, 1) := by decide +kernel
theorem dX12_cut_145 : decode cX12_cut 145 = .ok (.getfield 114, 3) := by decide +kernel
theorem dX12_cut_148 : decode cX12_cut 148 = .ok (.iload 6, 2) := by decide +kernel
theorem dX12_cut_150 : decode cX12_cut 150 = .ok (.aload_n 0, 1) := by decide +kernel
theorem dX12_cut_151 : decode cX12_cut 151 = .ok (.getfield 96, 3) := by decide +kernel
theorem dX12_cut_154 : decode cX12_cut 154 = .ok (.iload 6, 2) := by decide +kernel
theorem dX12_cut_156 : decode cX12_cut 156 = .ok (.iaload, 1) := by decide +kernel
theorem dX12_cut_157 : decode cX12_cut 157 = .ok (.iastore, 1) := by decide +kernel
theorem dX12_cut_158 : decode cX12_cut 158 = .ok (.iinc 6 1, 3) := by decide +kernel
theorem dX12_cut_161 : decode cX12_cut 161 = .ok (.goto (-54), 3) := by decide +kernel
theorem dX12_cut_164 : decode cX12_cut 164 = .ok (.aload_n 0, 1) := by decide +kernel
theorem dX12_cut_165 : decode cX12_cut 165 = .ok (.iload 5, 2) := by decide +kernel
theorem dX12_cut_167 : decode cX12_cut 167 = .ok (.invokevirtual 338, 3) := by decide +kernel
theorem dX12_cut_170 : decode cX12_cut 170 = .ok (.aload_n 0, 1) := by decide +kernel
theorem dX12_cut_171 : decode cX12_cut 171 = .ok (.getfield 114, 3) := by decide +kernel
theorem dX12_cut_174 : decode cX12_cut 174 = .ok (.iload 5, 2) := by decide +kernel
theorem dX12_cut_176 : decode cX12_cut 176 = .ok (.iconst 2, 1) := by decide +kernel
theorem dX12_cut_177 : decode cX12_cut 177 = .ok (.idiv, 1) := by decide +kernel
theorem dX12_cut_178 : decode cX12_cut 178 = .ok (.bipush (-3), 2) := by decide +kernel
theorem dX12_cut_180 : decode cX12_cut 180 = .ok (.iastore, 1) := by decide +kernel
theorem dX12_cut_181 : decode cX12_cut 181 = .ok (.iconst 0, 1) := by decide +kernel
theorem dX12_cut_182 : decode cX12_cut 182 = .ok (.istore 6, 2) := by decide +kernel
theorem dX12_cut_184 : decode cX12_cut 184 = .ok (.iload 6, 2) := by decide +kernel
theorem dX12_cut_186 : decode cX12_cut 186 = .ok (.aload_n 0, 1) := by decide +kernel
theorem dX12_cut_187 : decode cX12_cut 187 = .ok (.getfield 319, 3) := by decide +kernel
theorem dX12_cut_190 : decode cX12_cut 190 = .ok (.if_icmp .ge 79, 3) := by decide +kernel
theorem dX12_cut_193 : decode cX12_cut 193 = .ok (.aload_n 0, 1) := by decide +kernel
theorem dX12_cut_194 : decode cX12_cut 194 = .ok (.getfield 92, 3) := by decide +kernel
theorem dX12_cut_197 : decode cX12_cut 197 = .ok (.iload 6, 2) := by decide +kernel
theorem dX12_cut_199 : decode cX12_cut 199 = .ok (.aload_n 0, 1) := by decide +kernel
theorem dX12_cut_200 : decode cX12_cut 200 = .ok (.getfield 108, 3) := by decide +kernel
theorem dX12_cut_203 : decode cX12_cut 203 = .ok (.iload 6, 2) := by decide +kernel
theorem dX12_cut_205 : decode cX12_cut 205 = .ok (.baload, 1) := by decide +kernel
theorem dX12_cut_206 : decode cX12_cut 206 = .ok (.bastore, 1) := by decide +kernel
theorem dX12_cut_207 : decode cX12_cut 207 = .ok (.aload_n 0, 1) := by decide +kernel
theorem dX12_cut_208 : decode cX12_cut 208 = .ok (.getfield 99, 3) := by decide +kernel
theorem dX12_cut_211 : decode cX12_cut 211 = .ok (.iload 6, 2) := by decide +kernel
theorem dX12_cut_213 : decode cX12_cut 213 = .ok (.aload_n 0, 1) := by decide +kernel
theorem dX12_cut_214 : decode cX12_cut 214 = .ok (.getfield 92, 3) := by decide +kernel
theorem dX12_cut_217 : decode cX12_cut 217 = .ok (.iload 6, 2) := by decide +kernel
theorem dX12_cut_219 : decode cX12_cut 219 = .ok (.baload, 1) := by decide +kernel
theorem dX12_cut_220 : decode cX12_cut 220 = .ok (.ifCond .eq 13, 3) := by decide +kernel
theorem dX12_cut_223 : decode cX12_cut 223 = .ok (.aload_n 0, 1) := by decide +kernel
theorem dX12_cut_224 : decode cX12_cut 224 = .ok (.getfield 111, 3) := by decide +kernel
theorem dX12_cut_227 : decode cX12_cut 227 = .ok (.iload 6, 2) := by decide +kernel
theorem dX12_cut_229 : decode cX12_cut 229 = .ok (.iaload, 1) := by decide +kernel
theorem dX12_cut_230 : decode cX12_cut 230 = .ok (.goto 4, 3) := by decide +kernel
theorem dX12_cut_233 : decode cX12_cut 233 = .ok (.iconst (-1), 1) := by decide +kernel
theorem dX12_cut_234 : decode cX12_cut 234 = .ok (.iastore, 1) := by decide +kernel
theorem dX12_cut_235 : decode cX12_cut 235 = .ok (.aload_n 0, 1) := by decide +kernel
theorem dX12_cut_236 : decode cX12_cut 236 = .ok (.getfield 96, 3) := by decide +kernel
theorem dX12_cut_239 : decode cX12_cut 239 = .ok (.iload 6, 2) := by decide +kernel
theorem dX12_cut_241 : decode cX12_cut 241 = .ok (.aload_n 0, 1) := by decide +kernel
theorem dX12_cut_242 : decode cX12_cut 242 = .ok (.getfield 92, 3) := by decide +kernel
theorem dX12_cut_245 : decode cX12_cut 245 = .ok (.iload 6, 2) := by decide +kernel
theorem dX12_cut_247 : decode cX12_cut 247 = .ok (.baload, 1) := by decide +kernel
theorem dX12_cut_248 : decode cX12_cut 248 = .ok (.ifCond .eq 13, 3) := by decide +kernel
theorem dX12_cut_251 : decode cX12_cut 251 = .ok (.aload_n 0, 1) := by decide +kernel
theorem dX12_cut_252 : decode cX12_cut 252 = .ok (.getfield 114, 3) := by decide +kernel
theorem dX12_cut_255 : decode cX12_cut 255 = .ok (.iload 6, 2) := by decide +kernel
theorem dX12_cut_257 : decode cX12_cut 257 = .ok (.iaload, 1) := by decide +kernel
theorem dX12_cut_258 : decode cX12_cut 258 = .ok (.goto 4, 3) := by decide +kernel
theorem dX12_cut_261 : decode cX12_cut 261 = .ok (.iconst (-1), 1) := by decide +kernel
theorem dX12_cut_262 : decode cX12_cut 262 = .ok (.iastore, 1) := by decide +kernel
theorem dX12_cut_263 : decode cX12_cut 263 = .ok (.iinc 6 1, 3) := by decide +kernel
theorem dX12_cut_266 : decode cX12_cut 266 = .ok (.goto (-82), 3) := by decide +kernel
theorem dX12_cut_269 : decode cX12_cut 269 = .ok (.iinc 4 1, 3) := by decide +kernel
theorem dX12_cut_272 : decode cX12_cut 272 = .ok (.aload_n 0, 1) := by decide +kernel
theorem dX12_cut_273 : decode cX12_cut 273 = .ok (.aload_n 0, 1) := by decide +kernel
theorem dX12_cut_274 : decode cX12_cut 274 = .ok (.iload_n 1, 1) := by decide +kernel
theorem dX12_cut_275 : decode cX12_cut 275 = .ok (.invokevirtual 286, 3) := by decide +kernel
theorem dX12_cut_278 : decode cX12_cut 278 = .ok (.aload_n 0, 1) := by decide +kernel
theorem dX12_cut_279 : decode cX12_cut 279 = .ok (.iload_n 1, 1) := by decide +kernel
theorem dX12_cut_280 : decode cX12_cut 280 = .ok (.invokevirtual 289, 3) := by decide +kernel
theorem dX12_cut_283 : decode cX12_cut 283 = .ok (.iload_n 2, 1) := by decide +kernel
theorem dX12_cut_284 : decode cX12_cut 284 = .ok (.invokevirtual 334, 3) := by decide +kernel
theorem dX12_cut_287 : decode cX12_cut 287 = .ok (.istore 5, 2) := by decide +kernel
theorem dX12_cut_289 : decode cX12_cut 289 = .ok (.goto (-190), 3) := by decide +kernel
theorem dX12_cut_292 : decode cX12_cut 292 = .ok (.iload 4, 2) := by decide +kernel
theorem dX12_cut_294 : decode cX12_cut 294 = .ok (.ireturn, 1) := by decide +kernel
theorem dX12_meet_0 : decode cX12_meet 0 = .ok (.aload_n 0, 1) := by decide +kernel
theorem dX12_meet_1 : decode cX12_meet 1 = .ok (.iconst 0, 1) := by decide +kernel
theorem dX12_meet_2 : decode cX12_meet 2 = .ok (.putfield 1, 3) := by decide +kernel
theorem dX12_meet_5 : decode cX12_meet 5 = .ok (.aload_n 0, 1) := by decide +kernel
theorem dX12_meet_6 : decode cX12_meet 6 = .ok (.iload_n 1, 1) := by decide +kernel
theorem dX12_meet_7 : decode cX12_meet 7 = .ok (.invokevirtual 295, 3) := by decide +kernel
theorem dX12_meet_10 : decode cX12_meet 10 = .ok (.ifCond .eq 25, 3) := by decide +kernel
theorem dX12_meet_13 : decode cX12_meet 13 = .ok (.aload_n 0, 1) := by decide +kernel
theorem dX12_meet_14 : decode cX12_meet 14 = .ok (.iload_n 2, 1) := by decide +kernel
theorem dX12_meet_15 : decode cX12_meet 15 = .ok (.invokevirtual 295, 3) := by decide +kernel
theorem dX12_meet_18 : decode cX12_meet 18 = .ok (.ifCond .eq 17, 3) := by decide +kernel
theorem dX12_meet_21 : decode cX12_meet 21 = .ok (.iload_n 1, 1) := by decide +kernel
theorem dX12_meet_22 : decode cX12_meet 22 = .ok (.iload_n 2, 1) := by decide +kernel
theorem dX12_meet_23 : decode cX12_meet 23 = .ok (.if_icmp .eq 12, 3) := by decide +kernel
theorem dX12_meet_26 : decode cX12_meet 26 = .ok (.iload_n 3, 1) := by decide +kernel
theorem dX12_meet_27 : decode cX12_meet 27 = .ok (.iconst 0, 1) := by decide +kernel
theorem dX12_meet_28 : decode cX12_meet 28 = .ok (.iconst 1, 1) := by decide +kernel
theorem dX12_meet_29 : decode cX12_meet 29 = .ok (.invokestatic 263, 3) := by decide +kernel
theorem dX12_meet_32 : decode cX12_meet 32 = .ok (.ifCond .ne 5, 3) := by decide +kernel
theorem dX12_meet_35 : decode cX12_meet 35 = .ok (.iconst (-1), 1) := by decide +kernel
theorem dX12_meet_36 : decode cX12_meet 36 = .ok (.ireturn, 1) := by decide +kernel
theorem dX12_meet_37 : decode cX12_meet 37 = .ok (.aload_n 0, 1) := by decide +kernel
theorem dX12_meet_38 : decode cX12_meet 38 = .ok (.iload_n 2, 1) := by decide +kernel
theorem dX12_meet_39 : decode cX12_meet 39 = .ok (.invokevirtual 301, 3) := by decide +kernel
theorem dX12_meet_42 : decode cX12_meet 42 = .ok (.iconst 0, 1) := by decide +kernel
theorem dX12_meet_43 : decode cX12_meet 43 = .ok (.istore 4, 2) := by decide +kernel
theorem dX12_meet_45 : decode cX12_meet 45 = .ok (.iload 4, 2) := by decide +kernel
theorem dX12_meet_47 : decode cX12_meet 47 = .ok (.aload_n 0, 1) := by decide +kernel
theorem dX12_meet_48 : decode cX12_meet 48 = .ok (.invokevirtual 235, 3) := by decide +kernel
theorem dX12_meet_51 : decode cX12_meet 51 = .ok (.if_icmp .ge 23, 3) := by decide +kernel
theorem dX12_meet_54 : decode cX12_meet 54 = .ok (.aload_n 0, 1) := by decide +kernel
theorem dX12_meet_55 : decode cX12_meet 55 = .ok (.getfield 117, 3) := by decide +kernel
theorem dX12_meet_58 : decode cX12_meet 58 = .ok (.iload 4, 2) := by decide +kernel
theorem dX12_meet_60 : decode cX12_meet 60 = .ok (.aload_n 0, 1) := by decide +kernel
theorem dX12_meet_61 : decode cX12_meet 61 = .ok (.getfield 77, 3) := by decide +kernel
theorem dX12_meet_64 : decode cX12_meet 64 = .ok (.iload 4, 2) := by decide +kernel
theorem dX12_meet_66 : decode cX12_meet 66 = .ok (.iaload, 1) := by decide +kernel
theorem dX12_meet_67 : decode cX12_meet 67 = .ok (.iastore, 1) := by decide +kernel
theorem dX12_meet_68 : decode cX12_meet 68 = .ok (.iinc 4 1, 3) := by decide +kernel
theorem dX12_meet_71 : decode cX12_meet 71 = .ok (.goto (-26), 3) := by decide +kernel
theorem dX12_meet_74 : decode cX12_meet 74 = .ok (.aload_n 0, 1) := by decide +kernel
theorem dX12_meet_75 : decode cX12_meet 75 = .ok (.iload_n 1, 1) := by decide +kernel
theorem dX12_meet_76 : decode cX12_meet 76 = .ok (.invokevirtual 301, 3) := by decide +kernel
theorem dX12_meet_79 : decode cX12_meet 79 = .ok (.iconst (-1), 1) := by decide +kernel
theorem dX12_meet_80 : decode cX12_meet 80 = .ok (.istore 4, 2) := by decide +kernel
theorem dX12_meet_82 : decode cX12_meet 82 = .ok (.ldc_w 279, 3) := by decide +kernel
theorem dX12_meet_85 : decode cX12_meet 85 = .ok (.istore 5, 2) := by decide +kernel
theorem dX12_meet_87 : decode cX12_meet 87 = .ok (.iconst 0, 1) := by decide +kernel
theorem dX12_meet_88 : decode cX12_meet 88 = .ok (.istore 6, 2) := by decide +kernel
theorem dX12_meet_90 : decode cX12_meet 90 = .ok (.iload 6, 2) := by decide +kernel
theorem dX12_meet_92 : decode cX12_meet 92 = .ok (.aload_n 0, 1) := by decide +kernel
theorem dX12_meet_93 : decode cX12_meet 93 = .ok (.invokevirtual 235, 3) := by decide +kernel
theorem dX12_meet_96 : decode cX12_meet 96 = .ok (.if_icmp .ge 77, 3) := by decide +kernel
theorem dX12_meet_99 : decode cX12_meet 99 = .ok (.aload_n 0, 1) := by decide +kernel
theorem dX12_meet_100 : decode cX12_meet 100 = .ok (.getfield 77, 3) := by decide +kernel
theorem dX12_meet_103 : decode cX12_meet 103 = .ok (.iload 6, 2) := by decide +kernel
theorem dX12_meet_105 : decode cX12_meet 105 = .ok (.iaload, 1) := by decide +kernel
theorem dX12_meet_106 : decode cX12_meet 106 = .ok (.aload_n 0, 1) := by decide +kernel
theorem dX12_meet_107 : decode cX12_meet 107 = .ok (.getfield 117, 3) := by decide +kernel
theorem dX12_meet_110 : decode cX12_meet 110 = .ok (.iload 6, 2) := by decide +kernel
theorem dX12_meet_112 : decode cX12_meet 112 = .ok (.iaload, 1) := by decide +kernel
theorem dX12_meet_113 : decode cX12_meet 113 = .ok (.if_icmp .le 13, 3) := by decide +kernel
theorem dX12_meet_116 : decode cX12_meet 116 = .ok (.aload_n 0, 1) := by decide +kernel
theorem dX12_meet_117 : decode cX12_meet 117 = .ok (.getfield 77, 3) := by decide +kernel
theorem dX12_meet_120 : decode cX12_meet 120 = .ok (.iload 6, 2) := by decide +kernel
theorem dX12_meet_122 : decode cX12_meet 122 = .ok (.iaload, 1) := by decide +kernel
theorem dX12_meet_123 : decode cX12_meet 123 = .ok (.goto 10, 3) := by decide +kernel
theorem dX12_meet_126 : decode cX12_meet 126 = .ok (.aload_n 0, 1) := by decide +kernel
theorem dX12_meet_127 : decode cX12_meet 127 = .ok (.getfield 117, 3) := by decide +kernel
theorem dX12_meet_130 : decode cX12_meet 130 = .ok (.iload 6, 2) := by decide +kernel
theorem dX12_meet_132 : decode cX12_meet 132 = .ok (.iaload, 1) := by decide +kernel
theorem dX12_meet_133 : decode cX12_meet 133 = .ok (.istore 7, 2) := by decide +kernel
theorem dX12_meet_135 : decode cX12_meet 135 = .ok (.iload 7, 2) := by decide +kernel
theorem dX12_meet_137 : decode cX12_meet 137 = .ok (.iload 5, 2) := by decide +kernel
theorem dX12_meet_139 : decode cX12_meet 139 = .ok (.if_icmp .ge 8, 3) := by decide +kernel
theorem dX12_meet_142 : decode cX12_meet 142 = .ok (.iload 6, 2) := by decide +kernel
theorem dX12_meet_144 : decode cX12_meet 144 = .ok (.goto 5, 3) := by decide +kernel
theorem dX12_meet_147 : decode cX12_meet 147 = .ok (.iload 4, 2) := by decide +kernel
theorem dX12_meet_149 : decode cX12_meet 149 = .ok (.istore 4, 2) := by decide +kernel
theorem dX12_meet_151 : decode cX12_meet 151 = .ok (.iload 7, 2) := by decide +kernel
theorem dX12_meet_153 : decode cX12_meet 153 = .ok (.iload 5, 2) := by decide +kernel
theorem dX12_meet_155 : decode cX12_meet 155 = .ok (.if_icmp .ge 8, 3) := by decide +kernel
theorem dX12_meet_158 : decode cX12_meet 158 = .ok (.iload 7, 2) := by decide +kernel
theorem dX12_meet_160 : decode cX12_meet 160 = .ok (.goto 5, 3) := by decide +kernel
theorem dX12_meet_163 : decode cX12_meet 163 = .ok (.iload 5, 2) := by decide +kernel
theorem dX12_meet_165 : decode cX12_meet 165 = .ok (.istore 5, 2) := by decide +kernel
theorem dX12_meet_167 : decode cX12_meet 167 = .ok (.iinc 6 1, 3) := by decide +kernel
theorem dX12_meet_170 : decode cX12_meet 170 = .ok (.goto (-80), 3) := by decide +kernel
theorem dX12_meet_173 : decode cX12_meet 173 = .ok (.iload 4, 2) := by decide +kernel
theorem dX12_meet_175 : decode cX12_meet 175 = .ok (.ifCond .lt 8, 3) := by decide +kernel
theorem dX12_meet_178 : decode cX12_meet 178 = .ok (.iload_n 3, 1) := by decide +kernel
theorem dX12_meet_179 : decode cX12_meet 179 = .ok (.iconst 1, 1) := by decide +kernel
theorem dX12_meet_180 : decode cX12_meet 180 = .ok (.if_icmp .ne 8, 3) := by decide +kernel
theorem dX12_meet_183 : decode cX12_meet 183 = .ok (.iload 4, 2) := by decide +kernel
theorem dX12_meet_185 : decode cX12_meet 185 = .ok (.goto 5, 3) := by decide +kernel
theorem dX12_meet_188 : decode cX12_meet 188 = .ok (.iload 5, 2) := by decide +kernel
theorem dX12_meet_190 : decode cX12_meet 190 = .ok (.ireturn, 1) := by decide +kernel
theorem dX12_newcomer_0 : decode cX12_newcomer 0 = .ok (.aload_n 0, 1) := by decide +kernel
theorem dX12_newcomer_1 : decode cX12_newcomer 1 = .ok (.iconst 0, 1) := by decide +kernel
theorem dX12_newcomer_2 : decode cX12_newcomer 2 = .ok (.putfield 1, 3) := by decide +kernel
theorem dX12_newcomer_5 : decode cX12_newcomer 5 = .ok (.aload_n 0, 1) := by decide +kernel
theorem dX12_newcomer_6 : decode cX12_newcomer 6 = .ok (.invokevirtual 235, 3) := by decide +kernel
theorem dX12_newcomer_9 : decode cX12_newcomer 9 = .ok (.istore 6, 2) := by decide +kernel
theorem dX12_newcomer_11 : decode cX12_newcomer 11 = .ok (.iload 6, 2) := by decide +kernel
theorem dX12_newcomer_13 : decode cX12_newcomer 13 = .ok (.bipush 12, 2) := by decide +kernel
theorem dX12_newcomer_15 : decode cX12_newcomer 15 = .ok (.if_icmp .eq 41, 3) := by decide +kernel
theorem dX12_newcomer_18 : decode cX12_newcomer 18 = .ok (.aload_n 0, 1) := by decide +kernel
theorem dX12_newcomer_19 : decode cX12_newcomer 19 = .ok (.iload_n 3, 1) := by decide +kernel
theorem dX12_newcomer_20 : decode cX12_newcomer 20 = .ok (.iload 4, 2) := by decide +kernel
theorem dX12_newcomer_22 : decode cX12_newcomer 22 = .ok (.invokevirtual 298, 3) := by decide +kernel
theorem dX12_newcomer_25 : decode cX12_newcomer 25 = .ok (.ifCond .eq 31, 3) := by decide +kernel
theorem dX12_newcomer_28 : decode cX12_newcomer 28 = .ok (.iload_n 1, 1) := by decide +kernel
theorem dX12_newcomer_29 : decode cX12_newcomer 29 = .ok (.iload 6, 2) := by decide +kernel
theorem dX12_newcomer_31 : decode cX12_newcomer 31 = .ok (.invokestatic 312, 3) := by decide +kernel
theorem dX12_newcomer_34 : decode cX12_newcomer 34 = .ok (.ifCond .eq 22, 3) := by decide +kernel
theorem dX12_newcomer_37 : decode cX12_newcomer 37 = .ok (.iload_n 2, 1) := by decide +kernel
theorem dX12_newcomer_38 : decode cX12_newcomer 38 = .ok (.iload 6, 2) := by decide +kernel
theorem dX12_newcomer_40 : decode cX12_newcomer 40 = .ok (.invokestatic 312, 3) := by decide +kernel
theorem dX12_newcomer_43 : decode cX12_newcomer 43 = .ok (.ifCond .eq 13, 3) := by decide +kernel
theorem dX12_newcomer_46 : decode cX12_newcomer 46 = .ok (.iload 5, 2) := by decide +kernel
theorem dX12_newcomer_48 : decode cX12_newcomer 48 = .ok (.iconst 0, 1) := by decide +kernel
theorem dX12_newcomer_49 : decode cX12_newcomer 49 = .ok (.iconst 1, 1) := by decide +kernel
theorem dX12_newcomer_50 : decode cX12_newcomer 50 = .ok (.invokestatic 263, 3) := by decide +kernel
theorem dX12_newcomer_53 : decode cX12_newcomer 53 = .ok (.ifCond .ne 5, 3) := by decide +kernel
theorem dX12_newcomer_56 : decode cX12_newcomer 56 = .ok (.iconst (-1), 1) := by decide +kernel
theorem dX12_newcomer_57 : decode cX12_newcomer 57 = .ok (.ireturn, 1) := by decide +kernel
theorem dX12_newcomer_58 : decode cX12_newcomer 58 = .ok (.aload_n 0, 1) := by decide +kernel
theorem dX12_newcomer_59 : decode cX12_newcomer 59 = .ok (.iconst 0, 1) := by decide +kernel
theorem dX12_newcomer_60 : decode cX12_newcomer 60 = .ok (.iconst 1, 1) := by decide +kernel
theorem dX12_newcomer_61 : decode cX12_newcomer 61 = .ok (.invokevirtual 181, 3) := by decide +kernel
theorem dX12_newcomer_64 : decode cX12_newcomer 64 = .ok (.aload_n 0, 1) := by decide +kernel
theorem dX12_newcomer_65 : decode cX12_newcomer 65 = .ok (.getfield 65, 3) := by decide +kernel
theorem dX12_newcomer_68 : decode cX12_newcomer 68 = .ok (.iconst 2, 1) := by decide +kernel
theorem dX12_newcomer_69 : decode cX12_newcomer 69 = .ok (.iload 6, 2) := by decide +kernel
theorem dX12_newcomer_71 : decode cX12_newcomer 71 = .ok (.iconst 1, 1) := by decide +kernel
theorem dX12_newcomer_72 : decode cX12_newcomer 72 = .ok (.iadd, 1) := by decide +kernel
theorem dX12_newcomer_73 : decode cX12_newcomer 73 = .ok (.iastore, 1) := by decide +kernel
theorem dX12_newcomer_74 : decode cX12_newcomer 74 = .ok (.iconst 3, 1) := by decide +kernel
theorem dX12_newcomer_75 : decode cX12_newcomer 75 = .ok (.iconst 4, 1) := by decide +kernel
theorem dX12_newcomer_76 : decode cX12_newcomer 76 = .ok (.iload 6, 2) := by decide +kernel
theorem dX12_newcomer_78 : decode cX12_newcomer 78 = .ok (.imul, 1) := by decide +kernel
theorem dX12_newcomer_79 : decode cX12_newcomer 79 = .ok (.iadd, 1) := by decide +kernel
theorem dX12_newcomer_80 : decode cX12_newcomer 80 = .ok (.istore 7, 2) := by decide +kernel
theorem dX12_newcomer_82 : decode cX12_newcomer 82 = .ok (.aload_n 0, 1) := by decide +kernel
theorem dX12_newcomer_83 : decode cX12_newcomer 83 = .ok (.getfield 65, 3) := by decide +kernel
theorem dX12_newcomer_86 : decode cX12_newcomer 86 = .ok (.iload 7, 2) := by decide +kernel
theorem dX12_newcomer_88 : decode cX12_newcomer 88 = .ok (.iconst 1, 1) := by decide +kernel
theorem dX12_newcomer_89 : decode cX12_newcomer 89 = .ok (.iadd, 1) := by decide +kernel
theorem dX12_newcomer_90 : decode cX12_newcomer 90 = .ok (.iconst 0, 1) := by decide +kernel
theorem dX12_newcomer_91 : decode cX12_newcomer 91 = .ok (.iastore, 1) := by decide +kernel
theorem dX12_newcomer_92 : decode cX12_newcomer 92 = .ok (.aload_n 0, 1) := by decide +kernel
theorem dX12_newcomer_93 : decode cX12_newcomer 93 = .ok (.getfield 65, 3) := by decide +kernel
theorem dX12_newcomer_96 : decode cX12_newcomer 96 = .ok (.iload 7, 2) := by decide +kernel
theorem dX12_newcomer_98 : decode cX12_newcomer 98 = .ok (.iconst 2, 1) := by decide +kernel
theorem dX12_newcomer_99 : decode cX12_newcomer 99 = .ok (.iadd, 1) := by decide +kernel
theorem dX12_newcomer_100 : decode cX12_newcomer 100 = .ok (.iconst 0, 1) := by decide +kernel
theorem dX12_newcomer_101 : decode cX12_newcomer 101 = .ok (.iastore, 1) := by decide +kernel
theorem dX12_newcomer_102 : decode cX12_newcomer 102 = .ok (.aload_n 0, 1) := by decide +kernel
theorem dX12_newcomer_103 : decode cX12_newcomer 103 = .ok (.getfield 65, 3) := by decide +kernel
theorem dX12_newcomer_106 : decode cX12_newcomer 106 = .ok (.iload 7, 2) := by decide +kernel
theorem dX12_newcomer_108 : decode cX12_newcomer 108 = .ok (.iconst 3, 1) := by decide +kernel
theorem dX12_newcomer_109 : decode cX12_newcomer 109 = .ok (.iadd, 1) := by decide +kernel
theorem dX12_newcomer_110 : decode cX12_newcomer 110 = .ok (.iload_n 2, 1) := by decide +kernel
theorem dX12_newcomer_111 : decode cX12_newcomer 111 = .ok (.iastore, 1) := by decide +kernel
theorem dX12_newcomer_112 : decode cX12_newcomer 112 = .ok (.iconst 0, 1) := by decide +kernel
theorem dX12_newcomer_113 : decode cX12_newcomer 113 = .ok (.istore 8, 2) := by decide +kernel
theorem dX12_newcomer_115 : decode cX12_newcomer 115 = .ok (.iload 8, 2) := by decide +kernel
theorem dX12_newcomer_117 : decode cX12_newcomer 117 = .ok (.iload 6, 2) := by decide +kernel
theorem dX12_newcomer_119 : decode cX12_newcomer 119 = .ok (.if_icmp .ge 43, 3) := by decide +kernel
theorem dX12_newcomer_122 : decode cX12_newcomer 122 = .ok (.aload_n 0, 1) := by decide +kernel
theorem dX12_newcomer_123 : decode cX12_newcomer 123 = .ok (.getfield 65, 3) := by decide +kernel
theorem dX12_newcomer_126 : decode cX12_newcomer 126 = .ok (.iconst 3, 1) := by decide +kernel
theorem dX12_newcomer_127 : decode cX12_newcomer 127 = .ok (.iconst 4, 1) := by decide +kernel
theorem dX12_newcomer_128 : decode cX12_newcomer 128 = .ok (.iload 8, 2) := by decide +kernel
theorem dX12_newcomer_130 : decode cX12_newcomer 130 = .ok (.imul, 1) := by decide +kernel
theorem dX12_newcomer_131 : decode cX12_newcomer 131 = .ok (.iadd, 1) := by decide +kernel
theorem dX12_newcomer_132 : decode cX12_newcomer 132 = .ok (.iconst 3, 1) := by decide +kernel
theorem dX12_newcomer_133 : decode cX12_newcomer 133 = .ok (.iadd, 1) := by decide +kernel
theorem dX12_newcomer_134 : decode cX12_newcomer 134 = .ok (.dup2, 1) := by decide +kernel
theorem dX12_newcomer_135 : decode cX12_newcomer 135 = .ok (.iaload, 1) := by decide +kernel
theorem dX12_newcomer_136 : decode cX12_newcomer 136 = .ok (.iload_n 1, 1) := by decide +kernel
theorem dX12_newcomer_137 : decode cX12_newcomer 137 = .ok (.iload 8, 2) := by decide +kernel
theorem dX12_newcomer_139 : decode cX12_newcomer 139 = .ok (.ishr, 1) := by decide +kernel
theorem dX12_newcomer_140 : decode cX12_newcomer 140 = .ok (.iconst 1, 1) := by decide +kernel
theorem dX12_newcomer_141 : decode cX12_newcomer 141 = .ok (.iand, 1) := by decide +kernel
theorem dX12_newcomer_142 : decode cX12_newcomer 142 = .ok (.iconst 1, 1) := by decide +kernel
theorem dX12_newcomer_143 : decode cX12_newcomer 143 = .ok (.if_icmp .ne 10, 3) := by decide +kernel
theorem dX12_newcomer_146 : decode cX12_newcomer 146 = .ok (.iconst 1, 1) := by decide +kernel
theorem dX12_newcomer_147 : decode cX12_newcomer 147 = .ok (.iload 6, 2) := by decide +kernel
theorem dX12_newcomer_149 : decode cX12_newcomer 149 = .ok (.ishl, 1) := by decide +kernel
theorem dX12_newcomer_150 : decode cX12_newcomer 150 = .ok (.goto 4, 3) := by decide +kernel
theorem dX12_newcomer_153 : decode cX12_newcomer 153 = .ok (.iconst 0, 1) := by decide +kernel
theorem dX12_newcomer_154 : decode cX12_newcomer 154 = .ok (.ior, 1) := by decide +kernel
theorem dX12_newcomer_155 : decode cX12_newcomer 155 = .ok (.iastore, 1) := by decide +kernel
theorem dX12_newcomer_156 : decode cX12_newcomer 156 = .ok (.iinc 8 1, 3) := by decide +kernel
theorem dX12_newcomer_159 : decode cX12_newcomer 159 = .ok (.goto (-44), 3) := by decide +kernel
theorem dX12_newcomer_162 : decode cX12_newcomer 162 = .ok (.iconst (-1), 1) := by decide +kernel
theorem dX12_newcomer_163 : decode cX12_newcomer 163 = .ok (.istore 8, 2) := by decide +kernel
theorem dX12_newcomer_165 : decode cX12_newcomer 165 = .ok (.ldc_w 279, 3) := by decide +kernel
theorem dX12_newcomer_168 : decode cX12_newcomer 168 = .ok (.istore 9, 2) := by decide +kernel
theorem dX12_newcomer_170 : decode cX12_newcomer 170 = .ok (.iconst 0, 1) := by decide +kernel
theorem dX12_newcomer_171 : decode cX12_newcomer 171 = .ok (.istore 10, 2) := by decide +kernel
theorem dX12_newcomer_173 : decode cX12_newcomer 173 = .ok (.iload 10, 2) := by decide +kernel
theorem dX12_newcomer_175 : decode cX12_newcomer 175 = .ok (.sipush 366, 3) := by decide +kernel
theorem dX12_newcomer_178 : decode cX12_newcomer 178 = .ok (.if_icmp .ge 70, 3) := by decide +kernel
theorem dX12_newcomer_181 : decode cX12_newcomer 181 = .ok (.aload_n 0, 1) := by decide +kernel
theorem dX12_newcomer_182 : decode cX12_newcomer 182 = .ok (.getfield 65, 3) := by decide +kernel
theorem dX12_newcomer_185 : decode cX12_newcomer 185 = .ok (.iload 7, 2) := by decide +kernel
theorem dX12_newcomer_187 : decode cX12_newcomer 187 = .ok (.iload 10, 2) := by decide +kernel
theorem dX12_newcomer_189 : decode cX12_newcomer 189 = .ok (.iastore, 1) := by decide +kernel
theorem dX12_newcomer_190 : decode cX12_newcomer 190 = .ok (.aload_n 0, 1) := by decide +kernel
theorem dX12_newcomer_191 : decode cX12_newcomer 191 = .ok (.iload_n 3, 1) := by decide +kernel
theorem dX12_newcomer_192 : decode cX12_newcomer 192 = .ok (.invokevirtual 301, 3) := by decide +kernel
theorem dX12_newcomer_195 : decode cX12_newcomer 195 = .ok (.aload_n 0, 1) := by decide +kernel
theorem dX12_newcomer_196 : decode cX12_newcomer 196 = .ok (.getfield 77, 3) := by decide +kernel
theorem dX12_newcomer_199 : decode cX12_newcomer 199 = .ok (.iload 4, 2) := by decide +kernel
theorem dX12_newcomer_201 : decode cX12_newcomer 201 = .ok (.iaload, 1) := by decide +kernel
theorem dX12_newcomer_202 : decode cX12_newcomer 202 = .ok (.iload 9, 2) := by decide +kernel
theorem dX12_newcomer_204 : decode cX12_newcomer 204 = .ok (.if_icmp .ge 8, 3) := by decide +kernel
theorem dX12_newcomer_207 : decode cX12_newcomer 207 = .ok (.iload 10, 2) := by decide +kernel
theorem dX12_newcomer_209 : decode cX12_newcomer 209 = .ok (.goto 5, 3) := by decide +kernel
theorem dX12_newcomer_212 : decode cX12_newcomer 212 = .ok (.iload 8, 2) := by decide +kernel
theorem dX12_newcomer_214 : decode cX12_newcomer 214 = .ok (.istore 8, 2) := by decide +kernel
theorem dX12_newcomer_216 : decode cX12_newcomer 216 = .ok (.aload_n 0, 1) := by decide +kernel
theorem dX12_newcomer_217 : decode cX12_newcomer 217 = .ok (.getfield 77, 3) := by decide +kernel
theorem dX12_newcomer_220 : decode cX12_newcomer 220 = .ok (.iload 4, 2) := by decide +kernel
theorem dX12_newcomer_222 : decode cX12_newcomer 222 = .ok (.iaload, 1) := by decide +kernel
theorem dX12_newcomer_223 : decode cX12_newcomer 223 = .ok (.iload 9, 2) := by decide +kernel
theorem dX12_newcomer_225 : decode cX12_newcomer 225 = .ok (.if_icmp .ge 13, 3) := by decide +kernel
theorem dX12_newcomer_228 : decode cX12_newcomer 228 = .ok (.aload_n 0, 1) := by decide +kernel
theorem dX12_newcomer_229 : decode cX12_newcomer 229 = .ok (.getfield 77, 3) := by decide +kernel
theorem dX12_newcomer_232 : decode cX12_newcomer 232 = .ok (.iload 4, 2) := by decide +kernel
theorem dX12_newcomer_234 : decode cX12_newcomer 234 = .ok (.iaload, 1) := by decide +kernel
theorem dX12_newcomer_235 : decode cX12_newcomer 235 = .ok (.goto 5, 3) := by decide +kernel
theorem dX12_newcomer_238 : decode cX12_newcomer 238 = .ok (.iload 9, 2) := by decide +kernel
theorem dX12_newcomer_240 : decode cX12_newcomer 240 = .ok (.istore 9, 2) := by decide +kernel
theorem dX12_newcomer_242 : decode cX12_newcomer 242 = .ok (.iinc 10 1, 3) := by decide +kernel
theorem dX12_newcomer_245 : decode cX12_newcomer 245 = .ok (.goto (-72), 3) := by decide +kernel
theorem dX12_newcomer_248 : decode cX12_newcomer 248 = .ok (.aload_n 0, 1) := by decide +kernel
theorem dX12_newcomer_249 : decode cX12_newcomer 249 = .ok (.iconst 1, 1) := by decide +kernel
theorem dX12_newcomer_250 : decode cX12_newcomer 250 = .ok (.iconst 0, 1) := by decide +kernel
theorem dX12_newcomer_251 : decode cX12_newcomer 251 = .ok (.invokevirtual 181, 3) := by decide +kernel
theorem dX12_newcomer_254 : decode cX12_newcomer 254 = .ok (.iload 8, 2) := by decide +kernel
theorem dX12_newcomer_256 : decode cX12_newcomer 256 = .ok (.ifCond .lt 9, 3) := by decide +kernel
theorem dX12_newcomer_259 : decode cX12_newcomer 259 = .ok (.iload 5, 2) := by decide +kernel
theorem dX12_newcomer_261 : decode cX12_newcomer 261 = .ok (.iconst 1, 1) := by decide +kernel
theorem dX12_newcomer_262 : decode cX12_newcomer 262 = .ok (.if_icmp .ne 8, 3) := by decide +kernel
theorem dX12_newcomer_265 : decode cX12_newcomer 265 = .ok (.iload 8, 2) := by decide +kernel
theorem dX12_newcomer_267 : decode cX12_newcomer 267 = .ok (.goto 5, 3) := by decide +kernel
theorem dX12_newcomer_270 : decode cX12_newcomer 270 = .ok (.iload 9, 2) := by decide +kernel
theorem dX12_newcomer_272 : decode cX12_newcomer 272 = .ok (.ireturn, 1) := by decide +kernel
