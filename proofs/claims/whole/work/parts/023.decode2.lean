theorem dX10_allAgree_38 : decode cX10_allAgree 38 = .ok (.iload_n 2, 1) := by decide +kernel
theorem dX10_allAgree_39 : decode cX10_allAgree 39 = .ok (.iaload, 1) := by decide +kernel
theorem dX10_allAgree_40 : decode cX10_allAgree 40 = .ok (.aload_n 0, 1) := by decide +kernel
theorem dX10_allAgree_41 : decode cX10_allAgree 41 = .ok (.getfield 12, 3) := by decide +kernel
theorem dX10_allAgree_44 : decode cX10_allAgree 44 = .ok (.getfield 93, 3) := by decide +kernel
theorem dX10_allAgree_47 : decode cX10_allAgree 47 = .ok (.iload_n 2, 1) := by decide +kernel
theorem dX10_allAgree_48 : decode cX10_allAgree 48 = .ok (.iaload, 1) := by decide +kernel
theorem dX10_allAgree_49 : decode cX10_allAgree 49 = .ok (.iload_n 3, 1) := by decide +kernel
theorem dX10_allAgree_50 : decode cX10_allAgree 50 = .ok (.invokevirtual 96, 3) := by decide +kernel
theorem dX10_allAgree_53 : decode cX10_allAgree 53 = .ok (.aload_n 1, 1) := by decide +kernel
theorem dX10_allAgree_54 : decode cX10_allAgree 54 = .ok (.iload_n 2, 1) := by decide +kernel
theorem dX10_allAgree_55 : decode cX10_allAgree 55 = .ok (.aload_n 0, 1) := by decide +kernel
theorem dX10_allAgree_56 : decode cX10_allAgree 56 = .ok (.getfield 33, 3) := by decide +kernel
theorem dX10_allAgree_59 : decode cX10_allAgree 59 = .ok (.invokevirtual 132, 3) := by decide +kernel
theorem dX10_allAgree_62 : decode cX10_allAgree 62 = .ok (.ifCond .ne 5, 3) := by decide +kernel
theorem dX10_allAgree_65 : decode cX10_allAgree 65 = .ok (.iconst 0, 1) := by decide +kernel
theorem dX10_allAgree_66 : decode cX10_allAgree 66 = .ok (.ireturn, 1) := by decide +kernel
theorem dX10_allAgree_67 : decode cX10_allAgree 67 = .ok (.iinc 2 1, 3) := by decide +kernel
theorem dX10_allAgree_70 : decode cX10_allAgree 70 = .ok (.goto (-68), 3) := by decide +kernel
theorem dX10_allAgree_73 : decode cX10_allAgree 73 = .ok (.iconst 1, 1) := by decide +kernel
theorem dX10_allAgree_74 : decode cX10_allAgree 74 = .ok (.ireturn, 1) := by decide +kernel
theorem dX10_markTurns_0 : decode cX10_markTurns 0 = .ok (.iconst 0, 1) := by decide +kernel
theorem dX10_markTurns_1 : decode cX10_markTurns 1 = .ok (.istore_n 2, 1) := by decide +kernel
theorem dX10_markTurns_2 : decode cX10_markTurns 2 = .ok (.iload_n 2, 1) := by decide +kernel
theorem dX10_markTurns_3 : decode cX10_markTurns 3 = .ok (.sipush 366, 3) := by decide +kernel
theorem dX10_markTurns_6 : decode cX10_markTurns 6 = .ok (.if_icmp .ge 16, 3) := by decide +kernel
theorem dX10_markTurns_9 : decode cX10_markTurns 9 = .ok (.aload_n 0, 1) := by decide +kernel
theorem dX10_markTurns_10 : decode cX10_markTurns 10 = .ok (.getfield 37, 3) := by decide +kernel
theorem dX10_markTurns_13 : decode cX10_markTurns 13 = .ok (.iload_n 2, 1) := by decide +kernel
theorem dX10_markTurns_14 : decode cX10_markTurns 14 = .ok (.iconst 0, 1) := by decide +kernel
theorem dX10_markTurns_15 : decode cX10_markTurns 15 = .ok (.bastore, 1) := by decide +kernel
theorem dX10_markTurns_16 : decode cX10_markTurns 16 = .ok (.iinc 2 1, 3) := by decide +kernel
theorem dX10_markTurns_19 : decode cX10_markTurns 19 = .ok (.goto (-17), 3) := by decide +kernel
theorem dX10_markTurns_22 : decode cX10_markTurns 22 = .ok (.aload_n 0, 1) := by decide +kernel
theorem dX10_markTurns_23 : decode cX10_markTurns 23 = .ok (.getfield 37, 3) := by decide +kernel
theorem dX10_markTurns_26 : decode cX10_markTurns 26 = .ok (.bipush 59, 2) := by decide +kernel
theorem dX10_markTurns_28 : decode cX10_markTurns 28 = .ok (.iconst 1, 1) := by decide +kernel
theorem dX10_markTurns_29 : decode cX10_markTurns 29 = .ok (.bastore, 1) := by decide +kernel
theorem dX10_markTurns_30 : decode cX10_markTurns 30 = .ok (.iconst 0, 1) := by decide +kernel
theorem dX10_markTurns_31 : decode cX10_markTurns 31 = .ok (.istore_n 2, 1) := by decide +kernel
theorem dX10_markTurns_32 : decode cX10_markTurns 32 = .ok (.iload_n 2, 1) := by decide +kernel
theorem dX10_markTurns_33 : decode cX10_markTurns 33 = .ok (.aload_n 1, 1) := by decide +kernel
theorem dX10_markTurns_34 : decode cX10_markTurns 34 = .ok (.getfield 58, 3) := by decide +kernel
theorem dX10_markTurns_37 : decode cX10_markTurns 37 = .ok (.if_icmp .ge 43, 3) := by decide +kernel
theorem dX10_markTurns_40 : decode cX10_markTurns 40 = .ok (.aload_n 0, 1) := by decide +kernel
theorem dX10_markTurns_41 : decode cX10_markTurns 41 = .ok (.getfield 37, 3) := by decide +kernel
theorem dX10_markTurns_44 : decode cX10_markTurns 44 = .ok (.aload_n 1, 1) := by decide +kernel
theorem dX10_markTurns_45 : decode cX10_markTurns 45 = .ok (.getfield 119, 3) := by decide +kernel
theorem dX10_markTurns_48 : decode cX10_markTurns 48 = .ok (.iload_n 2, 1) := by decide +kernel
theorem dX10_markTurns_49 : decode cX10_markTurns 49 = .ok (.iaload, 1) := by decide +kernel
theorem dX10_markTurns_50 : decode cX10_markTurns 50 = .ok (.iconst 1, 1) := by decide +kernel
theorem dX10_markTurns_51 : decode cX10_markTurns 51 = .ok (.bastore, 1) := by decide +kernel
theorem dX10_markTurns_52 : decode cX10_markTurns 52 = .ok (.aload_n 1, 1) := by decide +kernel
theorem dX10_markTurns_53 : decode cX10_markTurns 53 = .ok (.getfield 136, 3) := by decide +kernel
theorem dX10_markTurns_56 : decode cX10_markTurns 56 = .ok (.iload_n 2, 1) := by decide +kernel
theorem dX10_markTurns_57 : decode cX10_markTurns 57 = .ok (.iaload, 1) := by decide +kernel
theorem dX10_markTurns_58 : decode cX10_markTurns 58 = .ok (.iconst (-1), 1) := by decide +kernel
theorem dX10_markTurns_59 : decode cX10_markTurns 59 = .ok (.if_icmp .eq 15, 3) := by decide +kernel
theorem dX10_markTurns_62 : decode cX10_markTurns 62 = .ok (.aload_n 0, 1) := by decide +kernel
theorem dX10_markTurns_63 : decode cX10_markTurns 63 = .ok (.getfield 37, 3) := by decide +kernel
theorem dX10_markTurns_66 : decode cX10_markTurns 66 = .ok (.aload_n 1, 1) := by decide +kernel
theorem dX10_markTurns_67 : decode cX10_markTurns 67 = .ok (.getfield 136, 3) := by decide +kernel
theorem dX10_markTurns_70 : decode cX10_markTurns 70 = .ok (.iload_n 2, 1) := by decide +kernel
theorem dX10_markTurns_71 : decode cX10_markTurns 71 = .ok (.iaload, 1) := by decide +kernel
theorem dX10_markTurns_72 : decode cX10_markTurns 72 = .ok (.iconst 1, 1) := by decide +kernel
theorem dX10_markTurns_73 : decode cX10_markTurns 73 = .ok (.bastore, 1) := by decide +kernel
theorem dX10_markTurns_74 : decode cX10_markTurns 74 = .ok (.iinc 2 1, 3) := by decide +kernel
theorem dX10_markTurns_77 : decode cX10_markTurns 77 = .ok (.goto (-45), 3) := by decide +kernel
theorem dX10_markTurns_80 : decode cX10_markTurns 80 = .ok (.iconst 0, 1) := by decide +kernel
theorem dX10_markTurns_81 : decode cX10_markTurns 81 = .ok (.istore_n 2, 1) := by decide +kernel
theorem dX10_markTurns_82 : decode cX10_markTurns 82 = .ok (.iload_n 2, 1) := by decide +kernel
theorem dX10_markTurns_83 : decode cX10_markTurns 83 = .ok (.aload_n 1, 1) := by decide +kernel
theorem dX10_markTurns_84 : decode cX10_markTurns 84 = .ok (.getfield 139, 3) := by decide +kernel
theorem dX10_markTurns_87 : decode cX10_markTurns 87 = .ok (.if_icmp .ge 41, 3) := by decide +kernel
theorem dX10_markTurns_90 : decode cX10_markTurns 90 = .ok (.aload_n 0, 1) := by decide +kernel
theorem dX10_markTurns_91 : decode cX10_markTurns 91 = .ok (.getfield 37, 3) := by decide +kernel
theorem dX10_markTurns_94 : decode cX10_markTurns 94 = .ok (.aload_n 1, 1) := by decide +kernel
theorem dX10_markTurns_95 : decode cX10_markTurns 95 = .ok (.getfield 142, 3) := by decide +kernel
theorem dX10_markTurns_98 : decode cX10_markTurns 98 = .ok (.iload_n 2, 1) := by decide +kernel
theorem dX10_markTurns_99 : decode cX10_markTurns 99 = .ok (.iaload, 1) := by decide +kernel
theorem dX10_markTurns_100 : decode cX10_markTurns 100 = .ok (.sipush 366, 3) := by decide +kernel
theorem dX10_markTurns_103 : decode cX10_markTurns 103 = .ok (.irem, 1) := by decide +kernel
theorem dX10_markTurns_104 : decode cX10_markTurns 104 = .ok (.iconst 1, 1) := by decide +kernel
theorem dX10_markTurns_105 : decode cX10_markTurns 105 = .ok (.bastore, 1) := by decide +kernel
theorem dX10_markTurns_106 : decode cX10_markTurns 106 = .ok (.aload_n 0, 1) := by decide +kernel
theorem dX10_markTurns_107 : decode cX10_markTurns 107 = .ok (.getfield 37, 3) := by decide +kernel
theorem dX10_markTurns_110 : decode cX10_markTurns 110 = .ok (.aload_n 1, 1) := by decide +kernel
theorem dX10_markTurns_111 : decode cX10_markTurns 111 = .ok (.getfield 145, 3) := by decide +kernel
theorem dX10_markTurns_114 : decode cX10_markTurns 114 = .ok (.iload_n 2, 1) := by decide +kernel
theorem dX10_markTurns_115 : decode cX10_markTurns 115 = .ok (.iaload, 1) := by decide +kernel
theorem dX10_markTurns_116 : decode cX10_markTurns 116 = .ok (.sipush 366, 3) := by decide +kernel
theorem dX10_markTurns_119 : decode cX10_markTurns 119 = .ok (.irem, 1) := by decide +kernel
theorem dX10_markTurns_120 : decode cX10_markTurns 120 = .ok (.iconst 1, 1) := by decide +kernel
theorem dX10_markTurns_121 : decode cX10_markTurns 121 = .ok (.bastore, 1) := by decide +kernel
theorem dX10_markTurns_122 : decode cX10_markTurns 122 = .ok (.iinc 2 1, 3) := by decide +kernel
theorem dX10_markTurns_125 : decode cX10_markTurns 125 = .ok (.goto (-43), 3) := by decide +kernel
theorem dX10_markTurns_128 : decode cX10_markTurns 128 = .ok (.iconst 0, 1) := by decide +kernel
theorem dX10_markTurns_129 : decode cX10_markTurns 129 = .ok (.istore_n 2, 1) := by decide +kernel
theorem dX10_markTurns_130 : decode cX10_markTurns 130 = .ok (.iload_n 2, 1) := by decide +kernel
theorem dX10_markTurns_131 : decode cX10_markTurns 131 = .ok (.aload_n 1, 1) := by decide +kernel
theorem dX10_markTurns_132 : decode cX10_markTurns 132 = .ok (.getfield 126, 3) := by decide +kernel
theorem dX10_markTurns_135 : decode cX10_markTurns 135 = .ok (.if_icmp .ge 25, 3) := by decide +kernel
theorem dX10_markTurns_138 : decode cX10_markTurns 138 = .ok (.aload_n 0, 1) := by decide +kernel
theorem dX10_markTurns_139 : decode cX10_markTurns 139 = .ok (.getfield 37, 3) := by decide +kernel
theorem dX10_markTurns_142 : decode cX10_markTurns 142 = .ok (.aload_n 1, 1) := by decide +kernel
theorem dX10_markTurns_143 : decode cX10_markTurns 143 = .ok (.getfield 93, 3) := by decide +kernel
theorem dX10_markTurns_146 : decode cX10_markTurns 146 = .ok (.iload_n 2, 1) := by decide +kernel
theorem dX10_markTurns_147 : decode cX10_markTurns 147 = .ok (.iaload, 1) := by decide +kernel
theorem dX10_markTurns_148 : decode cX10_markTurns 148 = .ok (.sipush 366, 3) := by decide +kernel
theorem dX10_markTurns_151 : decode cX10_markTurns 151 = .ok (.irem, 1) := by decide +kernel
theorem dX10_markTurns_152 : decode cX10_markTurns 152 = .ok (.iconst 1, 1) := by decide +kernel
theorem dX10_markTurns_153 : decode cX10_markTurns 153 = .ok (.bastore, 1) := by decide +kernel
theorem dX10_markTurns_154 : decode cX10_markTurns 154 = .ok (.iinc 2 1, 3) := by decide +kernel
theorem dX10_markTurns_157 : decode cX10_markTurns 157 = .ok (.goto (-27), 3) := by decide +kernel
theorem dX10_markTurns_160 : decode cX10_markTurns 160 = .ok (.return_, 1) := by decide +kernel
theorem dX10_isUnlikeDayBefore_0 : decode cX10_isUnlikeDayBefore 0 = .ok (.iload_n 1, 1) := by decide +kernel
theorem dX10_isUnlikeDayBefore_1 : decode cX10_isUnlikeDayBefore 1 = .ok (.ifCond .eq 23, 3) := by decide +kernel
theorem dX10_isUnlikeDayBefore_4 : decode cX10_isUnlikeDayBefore 4 = .ok (.aload_n 0, 1) := by decide +kernel
theorem dX10_isUnlikeDayBefore_5 : decode cX10_isUnlikeDayBefore 5 = .ok (.getfield 37, 3) := by decide +kernel
theorem dX10_isUnlikeDayBefore_8 : decode cX10_isUnlikeDayBefore 8 = .ok (.iload_n 1, 1) := by decide +kernel
theorem dX10_isUnlikeDayBefore_9 : decode cX10_isUnlikeDayBefore 9 = .ok (.baload, 1) := by decide +kernel
theorem dX10_isUnlikeDayBefore_10 : decode cX10_isUnlikeDayBefore 10 = .ok (.ifCond .ne 14, 3) := by decide +kernel
theorem dX10_isUnlikeDayBefore_13 : decode cX10_isUnlikeDayBefore 13 = .ok (.aload_n 0, 1) := by decide +kernel
theorem dX10_isUnlikeDayBefore_14 : decode cX10_isUnlikeDayBefore 14 = .ok (.getfield 37, 3) := by decide +kernel
theorem dX10_isUnlikeDayBefore_17 : decode cX10_isUnlikeDayBefore 17 = .ok (.iload_n 1, 1) := by decide +kernel
theorem dX10_isUnlikeDayBefore_18 : decode cX10_isUnlikeDayBefore 18 = .ok (.iconst 1, 1) := by decide +kernel
theorem dX10_isUnlikeDayBefore_19 : decode cX10_isUnlikeDayBefore 19 = .ok (.isub, 1) := by decide +kernel
theorem dX10_isUnlikeDayBefore_20 : decode cX10_isUnlikeDayBefore 20 = .ok (.baload, 1) := by decide +kernel
theorem dX10_isUnlikeDayBefore_21 : decode cX10_isUnlikeDayBefore 21 = .ok (.ifCond .eq 7, 3) := by decide +kernel
theorem dX10_isUnlikeDayBefore_24 : decode cX10_isUnlikeDayBefore 24 = .ok (.iconst 1, 1) := by decide +kernel
theorem dX10_isUnlikeDayBefore_25 : decode cX10_isUnlikeDayBefore 25 = .ok (.goto 4, 3) := by decide +kernel
theorem dX10_isUnlikeDayBefore_28 : decode cX10_isUnlikeDayBefore 28 = .ok (.iconst 0, 1) := by decide +kernel
theorem dX10_isUnlikeDayBefore_29 : decode cX10_isUnlikeDayBefore 29 = .ok (.ireturn, 1) := by decide +kernel
theorem dX11_init_0 : decode cX11_init 0 = .ok (.aload_n 0, 1) := by decide +kernel
theorem dX11_init_1 : decode cX11_init 1 = .ok (.invokespecial 3, 3) := by decide +kernel
theorem dX11_init_4 : decode cX11_init 4 = .ok (.aload_n 0, 1) := by decide +kernel
theorem dX11_init_5 : decode cX11_init 5 = .ok (.new 9, 3) := by decide +kernel
theorem dX11_init_8 : decode cX11_init 8 = .ok (.dup, 1) := by decide +kernel
theorem dX11_init_9 : decode cX11_init 9 = .ok (.invokespecial 11, 3) := by decide +kernel
theorem dX11_init_12 : decode cX11_init 12 = .ok (.putfield 12, 3) := by decide +kernel
theorem dX11_init_15 : decode cX11_init 15 = .ok (.aload_n 0, 1) := by decide +kernel
theorem dX11_init_16 : decode cX11_init 16 = .ok (.new 16, 3) := by decide +kernel
theorem dX11_init_19 : decode cX11_init 19 = .ok (.dup, 1) := by decide +kernel
theorem dX11_init_20 : decode cX11_init 20 = .ok (.invokespecial 18, 3) := by decide +kernel
theorem dX11_init_23 : decode cX11_init 23 = .ok (.putfield 19, 3) := by decide +kernel
theorem dX11_init_26 : decode cX11_init 26 = .ok (.aload_n 0, 1) := by decide +kernel
theorem dX11_init_27 : decode cX11_init 27 = .ok (.new 23, 3) := by decide +kernel
theorem dX11_init_30 : decode cX11_init 30 = .ok (.dup, 1) := by decide +kernel
theorem dX11_init_31 : decode cX11_init 31 = .ok (.bipush 24, 2) := by decide +kernel
theorem dX11_init_33 : decode cX11_init 33 = .ok (.invokespecial 25, 3) := by decide +kernel
theorem dX11_init_36 : decode cX11_init 36 = .ok (.putfield 28, 3) := by decide +kernel
theorem dX11_init_39 : decode cX11_init 39 = .ok (.aload_n 0, 1) := by decide +kernel
theorem dX11_init_40 : decode cX11_init 40 = .ok (.iconst 4, 1) := by decide +kernel
theorem dX11_init_41 : decode cX11_init 41 = .ok (.anewarray 32, 3) := by decide +kernel
theorem dX11_init_44 : decode cX11_init 44 = .ok (.putfield 34, 3) := by decide +kernel
theorem dX11_init_47 : decode cX11_init 47 = .ok (.iconst 0, 1) := by decide +kernel
theorem dX11_init_48 : decode cX11_init 48 = .ok (.istore_n 1, 1) := by decide +kernel
theorem dX11_init_49 : decode cX11_init 49 = .ok (.iload_n 1, 1) := by decide +kernel
theorem dX11_init_50 : decode cX11_init 50 = .ok (.iconst 4, 1) := by decide +kernel
theorem dX11_init_51 : decode cX11_init 51 = .ok (.if_icmp .ge 22, 3) := by decide +kernel
theorem dX11_init_54 : decode cX11_init 54 = .ok (.aload_n 0, 1) := by decide +kernel
theorem dX11_init_55 : decode cX11_init 55 = .ok (.getfield 34, 3) := by decide +kernel
theorem dX11_init_58 : decode cX11_init 58 = .ok (.iload_n 1, 1) := by decide +kernel
theorem dX11_init_59 : decode cX11_init 59 = .ok (.new 32, 3) := by decide +kernel
theorem dX11_init_62 : decode cX11_init 62 = .ok (.dup, 1) := by decide +kernel
theorem dX11_init_63 : decode cX11_init 63 = .ok (.invokespecial 38, 3) := by decide +kernel
theorem dX11_init_66 : decode cX11_init 66 = .ok (.aastore, 1) := by decide +kernel
theorem dX11_init_67 : decode cX11_init 67 = .ok (.iinc 1 1, 3) := by decide +kernel
theorem dX11_init_70 : decode cX11_init 70 = .ok (.goto (-21), 3) := by decide +kernel
theorem dX11_init_73 : decode cX11_init 73 = .ok (.aload_n 0, 1) := by decide +kernel
theorem dX11_init_74 : decode cX11_init 74 = .ok (.new 32, 3) := by decide +kernel
theorem dX11_init_77 : decode cX11_init 77 = .ok (.dup, 1) := by decide +kernel
theorem dX11_init_78 : decode cX11_init 78 = .ok (.invokespecial 38, 3) := by decide +kernel
theorem dX11_init_81 : decode cX11_init 81 = .ok (.putfield 39, 3) := by decide +kernel
theorem dX11_init_84 : decode cX11_init 84 = .ok (.aload_n 0, 1) := by decide +kernel
theorem dX11_init_85 : decode cX11_init 85 = .ok (.new 43, 3) := by decide +kernel
theorem dX11_init_88 : decode cX11_init 88 = .ok (.dup, 1) := by decide +kernel
theorem dX11_init_89 : decode cX11_init 89 = .ok (.invokespecial 45, 3) := by decide +kernel
theorem dX11_init_92 : decode cX11_init 92 = .ok (.putfield 46, 3) := by decide +kernel
theorem dX11_init_95 : decode cX11_init 95 = .ok (.aload_n 0, 1) := by decide +kernel
theorem dX11_init_96 : decode cX11_init 96 = .ok (.new 50, 3) := by decide +kernel
theorem dX11_init_99 : decode cX11_init 99 = .ok (.dup, 1) := by decide +kernel
theorem dX11_init_100 : decode cX11_init 100 = .ok (.invokespecial 52, 3) := by decide +kernel
theorem dX11_init_103 : decode cX11_init 103 = .ok (.putfield 53, 3) := by decide +kernel
theorem dX11_init_106 : decode cX11_init 106 = .ok (.aload_n 0, 1) := by decide +kernel
theorem dX11_init_107 : decode cX11_init 107 = .ok (.new 57, 3) := by decide +kernel
theorem dX11_init_110 : decode cX11_init 110 = .ok (.dup, 1) := by decide +kernel
theorem dX11_init_111 : decode cX11_init 111 = .ok (.invokespecial 59, 3) := by decide +kernel
theorem dX11_init_114 : decode cX11_init 114 = .ok (.putfield 60, 3) := by decide +kernel
theorem dX11_init_117 : decode cX11_init 117 = .ok (.aload_n 0, 1) := by decide +kernel
theorem dX11_init_118 : decode cX11_init 118 = .ok (.new 64, 3) := by decide +kernel
theorem dX11_init_121 : decode cX11_init 121 = .ok (.dup, 1) := by decide +kernel
theorem dX11_init_122 : decode cX11_init 122 = .ok (.invokespecial 66, 3) := by decide +kernel
theorem dX11_init_125 : decode cX11_init 125 = .ok (.putfield 67, 3) := by decide +kernel
theorem dX11_init_128 : decode cX11_init 128 = .ok (.aload_n 0, 1) := by decide +kernel
theorem dX11_init_129 : decode cX11_init 129 = .ok (.new 71, 3) := by decide +kernel
theorem dX11_init_132 : decode cX11_init 132 = .ok (.dup, 1) := by decide +kernel
theorem dX11_init_133 : decode cX11_init 133 = .ok (.invokespecial 73, 3) := by decide +kernel
theorem dX11_init_136 : decode cX11_init 136 = .ok (.putfield 74, 3) := by decide +kernel
theorem dX11_init_139 : decode cX11_init 139 = .ok (.aload_n 0, 1) := by decide +kernel
theorem dX11_init_140 : decode cX11_init 140 = .ok (.new 78, 3) := by decide +kernel
theorem dX11_init_143 : decode cX11_init 143 = .ok (.dup, 1) := by decide +kernel
theorem dX11_init_144 : decode cX11_init 144 = .ok (.invokespecial 80, 3) := by decide +kernel
theorem dX11_init_147 : decode cX11_init 147 = .ok (.putfield 81, 3) := by decide +kernel
theorem dX11_init_150 : decode cX11_init 150 = .ok (.return_, 1) := by decide +kernel
theorem dX11_feed_0 : decode cX11_feed 0 = .ok (.aload_n 0, 1) := by decide +kernel
theorem dX11_feed_1 : decode cX11_feed 1 = .ok (.lload_n 1, 1) := by decide +kernel
theorem dX11_feed_2 : decode cX11_feed 2 = .ok (.invokevirtual 85, 3) := by decide +kernel
theorem dX11_feed_5 : decode cX11_feed 5 = .ok (.aload_n 0, 1) := by decide +kernel
theorem dX11_feed_6 : decode cX11_feed 6 = .ok (.lload_n 3, 1) := by decide +kernel
theorem dX11_feed_7 : decode cX11_feed 7 = .ok (.invokevirtual 85, 3) := by decide +kernel
theorem dX11_feed_10 : decode cX11_feed 10 = .ok (.aload_n 0, 1) := by decide +kernel
theorem dX11_feed_11 : decode cX11_feed 11 = .ok (.lload 5, 2) := by decide +kernel
theorem dX11_feed_13 : decode cX11_feed 13 = .ok (.invokevirtual 85, 3) := by decide +kernel
theorem dX11_feed_16 : decode cX11_feed 16 = .ok (.aload_n 0, 1) := by decide +kernel
theorem dX11_feed_17 : decode cX11_feed 17 = .ok (.getfield 12, 3) := by decide +kernel
theorem dX11_feed_20 : decode cX11_feed 20 = .ok (.getfield 89, 3) := by decide +kernel
theorem dX11_feed_23 : decode cX11_feed 23 = .ok (.getfield 93, 3) := by decide +kernel
theorem dX11_feed_26 : decode cX11_feed 26 = .ok (.ireturn, 1) := by decide +kernel
theorem dX11_putSigns_0 : decode cX11_putSigns 0 = .ok (.bipush 56, 2) := by decide +kernel
theorem dX11_putSigns_2 : decode cX11_putSigns 2 = .ok (.istore_n 3, 1) := by decide +kernel
theorem dX11_putSigns_3 : decode cX11_putSigns 3 = .ok (.iload_n 3, 1) := by decide +kernel
theorem dX11_putSigns_4 : decode cX11_putSigns 4 = .ok (.ifCond .lt 27, 3) := by decide +kernel
theorem dX11_putSigns_7 : decode cX11_putSigns 7 = .ok (.aload_n 0, 1) := by decide +kernel
theorem dX11_putSigns_8 : decode cX11_putSigns 8 = .ok (.getfield 12, 3) := by decide +kernel
theorem dX11_putSigns_11 : decode cX11_putSigns 11 = .ok (.getfield 89, 3) := by decide +kernel
theorem dX11_putSigns_14 : decode cX11_putSigns 14 = .ok (.lload_n 1, 1) := by decide +kernel
theorem dX11_putSigns_15 : decode cX11_putSigns 15 = .ok (.iload_n 3, 1) := by decide +kernel
theorem dX11_putSigns_16 : decode cX11_putSigns 16 = .ok (.lushr, 1) := by decide +kernel
theorem dX11_putSigns_17 : decode cX11_putSigns 17 = .ok (.l2i, 1) := by decide +kernel
theorem dX11_putSigns_18 : decode cX11_putSigns 18 = .ok (.sipush 255, 3) := by decide +kernel
theorem dX11_putSigns_21 : decode cX11_putSigns 21 = .ok (.iand, 1) := by decide +kernel
theorem dX11_putSigns_22 : decode cX11_putSigns 22 = .ok (.invokevirtual 99, 3) := by decide +kernel
theorem dX11_putSigns_25 : decode cX11_putSigns 25 = .ok (.iinc 3 (-8), 3) := by decide +kernel
theorem dX11_putSigns_28 : decode cX11_putSigns 28 = .ok (.goto (-25), 3) := by decide +kernel
theorem dX11_putSigns_31 : decode cX11_putSigns 31 = .ok (.return_, 1) := by decide +kernel
theorem dX11_town_0 : decode cX11_town 0 = .ok (.aload_n 0, 1) := by decide +kernel
theorem dX11_town_1 : decode cX11_town 1 = .ok (.getfield 12, 3) := by decide +kernel
theorem dX11_town_4 : decode cX11_town 4 = .ok (.invokevirtual 102, 3) := by decide +kernel
theorem dX11_town_7 : decode cX11_town 7 = .ok (.istore_n 1, 1) := by decide +kernel
theorem dX11_town_8 : decode cX11_town 8 = .ok (.iload_n 1, 1) := by decide +kernel
theorem dX11_town_9 : decode cX11_town 9 = .ok (.ifCond .ne 35, 3) := by decide +kernel
theorem dX11_town_12 : decode cX11_town 12 = .ok (.aload_n 0, 1) := by decide +kernel
theorem dX11_town_13 : decode cX11_town 13 = .ok (.getfield 19, 3) := by decide +kernel
theorem dX11_town_16 : decode cX11_town 16 = .ok (.aload_n 0, 1) := by decide +kernel
theorem dX11_town_17 : decode cX11_town 17 = .ok (.getfield 12, 3) := by decide +kernel
theorem dX11_town_20 : decode cX11_town 20 = .ok (.getfield 106, 3) := by decide +kernel
theorem dX11_town_23 : decode cX11_town 23 = .ok (.invokevirtual 109, 3) := by decide +kernel
theorem dX11_town_26 : decode cX11_town 26 = .ok (.aload_n 0, 1) := by decide +kernel
theorem dX11_town_27 : decode cX11_town 27 = .ok (.getfield 67, 3) := by decide +kernel
theorem dX11_town_30 : decode cX11_town 30 = .ok (.invokevirtual 113, 3) := by decide +kernel
theorem dX11_town_33 : decode cX11_town 33 = .ok (.aload_n 0, 1) := by decide +kernel
theorem dX11_town_34 : decode cX11_town 34 = .ok (.getfield 74, 3) := by decide +kernel
theorem dX11_town_37 : decode cX11_town 37 = .ok (.invokevirtual 116, 3) := by decide +kernel
theorem dX11_town_40 : decode cX11_town 40 = .ok (.aload_n 0, 1) := by decide +kernel
theorem dX11_town_41 : decode cX11_town 41 = .ok (.invokevirtual 117, 3) := by decide +kernel
theorem dX11_town_44 : decode cX11_town 44 = .ok (.iload_n 1, 1) := by decide +kernel
theorem dX11_town_45 : decode cX11_town 45 = .ok (.ireturn, 1) := by decide +kernel
theorem dX11_law_0 : decode cX11_law 0 = .ok (.aload_n 0, 1) := by decide +kernel
theorem dX11_law_1 : decode cX11_law 1 = .ok (.getfield 19, 3) := by decide +kernel
theorem dX11_law_4 : decode cX11_law 4 = .ok (.iload_n 1, 1) := by decide +kernel
theorem dX11_law_5 : decode cX11_law 5 = .ok (.putfield 120, 3) := by decide +kernel
theorem dX11_law_8 : decode cX11_law 8 = .ok (.aload_n 0, 1) := by decide +kernel
theorem dX11_law_9 : decode cX11_law 9 = .ok (.invokevirtual 117, 3) := by decide +kernel
theorem dX11_law_12 : decode cX11_law 12 = .ok (.iconst 1, 1) := by decide +kernel
theorem dX11_law_13 : decode cX11_law 13 = .ok (.ireturn, 1) := by decide +kernel
theorem dX11_forgetWorkedOut_0 : decode cX11_forgetWorkedOut 0 = .ok (.aload_n 0, 1) := by decide +kernel
theorem dX11_forgetWorkedOut_1 : decode cX11_forgetWorkedOut 1 = .ok (.iconst 0, 1) := by decide +kernel
theorem dX11_forgetWorkedOut_2 : decode cX11_forgetWorkedOut 2 = .ok (.putfield 124, 3) := by decide +kernel
theorem dX11_forgetWorkedOut_5 : decode cX11_forgetWorkedOut 5 = .ok (.aload_n 0, 1) := by decide +kernel
theorem dX11_forgetWorkedOut_6 : decode cX11_forgetWorkedOut 6 = .ok (.getfield 81, 3) := by decide +kernel
theorem dX11_forgetWorkedOut_9 : decode cX11_forgetWorkedOut 9 = .ok (.invokevirtual 127, 3) := by decide +kernel
theorem dX11_forgetWorkedOut_12 : decode cX11_forgetWorkedOut 12 = .ok (.return_, 1) := by decide +kernel
theorem dX11_person_0 : decode cX11_person 0 = .ok (.aload_n 0, 1) := by decide +kernel
theorem dX11_person_1 : decode cX11_person 1 = .ok (.iload_n 1, 1) := by decide +kernel
theorem dX11_person_2 : decode cX11_person 2 = .ok (.invokevirtual 130, 3) := by decide +kernel
theorem dX11_person_5 : decode cX11_person 5 = .ok (.ifCond .ne 5, 3) := by decide +kernel
theorem dX11_person_8 : decode cX11_person 8 = .ok (.iconst (-1), 1) := by decide +kernel
theorem dX11_person_9 : decode cX11_person 9 = .ok (.ireturn, 1) := by decide +kernel
theorem dX11_person_10 : decode cX11_person 10 = .ok (.iload_n 2, 1) := by decide +kernel
theorem dX11_person_11 : decode cX11_person 11 = .ok (.tableswitch 83 0 4 #[33, 43, 53, 63, 73], 33) := by decide +kernel
theorem dX11_person_44 : decode cX11_person 44 = .ok (.aload_n 0, 1) := by decide +kernel
theorem dX11_person_45 : decode cX11_person 45 = .ok (.getfield 19, 3) := by decide +kernel
theorem dX11_person_48 : decode cX11_person 48 = .ok (.getfield 134, 3) := by decide +kernel
theorem dX11_person_51 : decode cX11_person 51 = .ok (.iload_n 1, 1) := by decide +kernel
theorem dX11_person_52 : decode cX11_person 52 = .ok (.iaload, 1) := by decide +kernel
theorem dX11_person_53 : decode cX11_person 53 = .ok (.ireturn, 1) := by decide +kernel
theorem dX11_person_54 : decode cX11_person 54 = .ok (.aload_n 0, 1) := by decide +kernel
theorem dX11_person_55 : decode cX11_person 55 = .ok (.getfield 19, 3) := by decide +kernel
theorem dX11_person_58 : decode cX11_person 58 = .ok (.getfield 138, 3) := by decide +kernel
theorem dX11_person_61 : decode cX11_person 61 = .ok (.iload_n 1, 1) := by decide +kernel
theorem dX11_person_62 : decode cX11_person 62 = .ok (.iaload, 1) := by decide +kernel
theorem dX11_person_63 : decode cX11_person 63 = .ok (.ireturn, 1) := by decide +kernel
theorem dX11_person_64 : decode cX11_person 64 = .ok (.aload_n 0, 1) := by decide +kernel
theorem dX11_person_65 : decode cX11_person 65 = .ok (.getfield 19, 3) := by decide +kernel
theorem dX11_person_68 : decode cX11_person 68 = .ok (.getfield 141, 3) := by decide +kernel
theorem dX11_person_71 : decode cX11_person 71 = .ok (.iload_n 1, 1) := by decide +kernel
theorem dX11_person_72 : decode cX11_person 72 = .ok (.iaload, 1) := by decide +kernel
theorem dX11_person_73 : decode cX11_person 73 = .ok (.ireturn, 1) := by decide +kernel
theorem dX11_person_74 : decode cX11_person 74 = .ok (.aload_n 0, 1) := by decide +kernel
theorem dX11_person_75 : decode cX11_person 75 = .ok (.getfield 19, 3) := by decide +kernel
theorem dX11_person_78 : decode cX11_person 78 = .ok (.getfield 144, 3) := by decide +kernel
theorem dX11_person_81 : decode cX11_person 81 = .ok (.iload_n 1, 1) := by decide +kernel
theorem dX11_person_82 : decode cX11_person 82 = .ok (.iaload, 1) := by decide +kernel
theorem dX11_person_83 : decode cX11_person 83 = .ok (.ireturn, 1) := by decide +kernel
theorem dX11_person_84 : decode cX11_person 84 = .ok (.aload_n 0, 1) := by decide +kernel
theorem dX11_person_85 : decode cX11_person 85 = .ok (.getfield 19, 3) := by decide +kernel
theorem dX11_person_88 : decode cX11_person 88 = .ok (.getfield 147, 3) := by decide +kernel
theorem dX11_person_91 : decode cX11_person 91 = .ok (.iload_n 1, 1) := by decide +kernel
theorem dX11_person_92 : decode cX11_person 92 = .ok (.iaload, 1) := by decide +kernel
theorem dX11_person_93 : decode cX11_person 93 = .ok (.ireturn, 1) := by decide +kernel
theorem dX11_person_94 : decode cX11_person 94 = .ok (.iconst (-1), 1) := by decide +kernel
theorem dX11_person_95 : decode cX11_person 95 = .ok (.ireturn, 1) := by decide +kernel
theorem dX11_date_0 : decode cX11_date 0 = .ok (.iload_n 1, 1) := by decide +kernel
theorem dX11_date_1 : decode cX11_date 1 = .ok (.ifCond .lt 20, 3) := by decide +kernel
theorem dX11_date_4 : decode cX11_date 4 = .ok (.iload_n 1, 1) := by decide +kernel
theorem dX11_date_5 : decode cX11_date 5 = .ok (.bipush 12, 2) := by decide +kernel
theorem dX11_date_7 : decode cX11_date 7 = .ok (.if_icmp .ge 14, 3) := by decide +kernel
theorem dX11_date_10 : decode cX11_date 10 = .ok (.iload_n 2, 1) := by decide +kernel
theorem dX11_date_11 : decode cX11_date 11 = .ok (.ifCond .lt 10, 3) := by decide +kernel
theorem dX11_date_14 : decode cX11_date 14 = .ok (.iload_n 2, 1) := by decide +kernel
theorem dX11_date_15 : decode cX11_date 15 = .ok (.sipush 366, 3) := by decide +kernel
theorem dX11_date_18 : decode cX11_date 18 = .ok (.if_icmp .lt 5, 3) := by decide +kernel
theorem dX11_date_21 : decode cX11_date 21 = .ok (.iconst (-1), 1) := by decide +kernel
theorem dX11_date_22 : decode cX11_date 22 = .ok (.ireturn, 1) := by decide +kernel
theorem dX11_date_23 : decode cX11_date 23 = .ok (.aload_n 0, 1) := by decide +kernel
theorem dX11_date_24 : decode cX11_date 24 = .ok (.getfield 19, 3) := by decide +kernel
theorem dX11_date_27 : decode cX11_date 27 = .ok (.iload_n 1, 1) := by decide +kernel
theorem dX11_date_28 : decode cX11_date 28 = .ok (.iload_n 2, 1) := by decide +kernel
theorem dX11_date_29 : decode cX11_date 29 = .ok (.invokevirtual 150, 3) := by decide +kernel
theorem dX11_date_32 : decode cX11_date 32 = .ok (.ifCond .eq 13, 3) := by decide +kernel
theorem dX11_date_35 : decode cX11_date 35 = .ok (.iload_n 1, 1) := by decide +kernel
theorem dX11_date_36 : decode cX11_date 36 = .ok (.sipush 366, 3) := by decide +kernel
theorem dX11_date_39 : decode cX11_date 39 = .ok (.imul, 1) := by decide +kernel
theorem dX11_date_40 : decode cX11_date 40 = .ok (.iload_n 2, 1) := by decide +kernel
theorem dX11_date_41 : decode cX11_date 41 = .ok (.iadd, 1) := by decide +kernel
theorem dX11_date_42 : decode cX11_date 42 = .ok (.goto 4, 3) := by decide +kernel
theorem dX11_date_45 : decode cX11_date 45 = .ok (.iconst (-1), 1) := by decide +kernel
theorem dX11_date_46 : decode cX11_date 46 = .ok (.ireturn, 1) := by decide +kernel
theorem dX11_free_0 : decode cX11_free 0 = .ok (.aload_n 0, 1) := by decide +kernel
theorem dX11_free_1 : decode cX11_free 1 = .ok (.iload_n 1, 1) := by decide +kernel
theorem dX11_free_2 : decode cX11_free 2 = .ok (.invokevirtual 130, 3) := by decide +kernel
theorem dX11_free_5 : decode cX11_free 5 = .ok (.ifCond .eq 11, 3) := by decide +kernel
theorem dX11_free_8 : decode cX11_free 8 = .ok (.aload_n 0, 1) := by decide +kernel
theorem dX11_free_9 : decode cX11_free 9 = .ok (.iload_n 2, 1) := by decide +kernel
theorem dX11_free_10 : decode cX11_free 10 = .ok (.invokevirtual 154, 3) := by decide +kernel
theorem dX11_free_13 : decode cX11_free 13 = .ok (.ifCond .ne 5, 3) := by decide +kernel
theorem dX11_free_16 : decode cX11_free 16 = .ok (.iconst (-1), 1) := by decide +kernel
theorem dX11_free_17 : decode cX11_free 17 = .ok (.ireturn, 1) := by decide +kernel
theorem dX11_free_18 : decode cX11_free 18 = .ok (.aload_n 0, 1) := by decide +kernel
theorem dX11_free_19 : decode cX11_free 19 = .ok (.getfield 19, 3) := by decide +kernel
theorem dX11_free_22 : decode cX11_free 22 = .ok (.iload_n 1, 1) := by decide +kernel
theorem dX11_free_23 : decode cX11_free 23 = .ok (.iload_n 2, 1) := by decide +kernel
theorem dX11_free_24 : decode cX11_free 24 = .ok (.sipush 366, 3) := by decide +kernel
theorem dX11_free_27 : decode cX11_free 27 = .ok (.irem, 1) := by decide +kernel
theorem dX11_free_28 : decode cX11_free 28 = .ok (.invokevirtual 157, 3) := by decide +kernel
theorem dX11_free_31 : decode cX11_free 31 = .ok (.istore_n 3, 1) := by decide +kernel
theorem dX11_free_32 : decode cX11_free 32 = .ok (.iload_n 3, 1) := by decide +kernel
theorem dX11_free_33 : decode cX11_free 33 = .ok (.ifCond .eq 22, 3) := by decide +kernel
theorem dX11_free_36 : decode cX11_free 36 = .ok (.aload_n 0, 1) := by decide +kernel
theorem dX11_free_37 : decode cX11_free 37 = .ok (.getfield 19, 3) := by decide +kernel
theorem dX11_free_40 : decode cX11_free 40 = .ok (.iload_n 2, 1) := by decide +kernel
theorem dX11_free_41 : decode cX11_free 41 = .ok (.invokevirtual 160, 3) := by decide +kernel
theorem dX11_free_44 : decode cX11_free 44 = .ok (.iload_n 1, 1) := by decide +kernel
theorem dX11_free_45 : decode cX11_free 45 = .ok (.invokestatic 164, 3) := by decide +kernel
theorem dX11_free_48 : decode cX11_free 48 = .ok (.ifCond .ne 7, 3) := by decide +kernel
theorem dX11_free_51 : decode cX11_free 51 = .ok (.iconst 1, 1) := by decide +kernel
theorem dX11_free_52 : decode cX11_free 52 = .ok (.goto 4, 3) := by decide +kernel
theorem dX11_free_55 : decode cX11_free 55 = .ok (.iconst 0, 1) := by decide +kernel
theorem dX11_free_56 : decode cX11_free 56 = .ok (.ireturn, 1) := by decide +kernel
theorem dX11_away_0 : decode cX11_away 0 = .ok (.aload_n 0, 1) := by decide +kernel
theorem dX11_away_1 : decode cX11_away 1 = .ok (.iload_n 1, 1) := by decide +kernel
theorem dX11_away_2 : decode cX11_away 2 = .ok (.invokevirtual 130, 3) := by decide +kernel
theorem dX11_away_5 : decode cX11_away 5 = .ok (.ifCond .eq 11, 3) := by decide +kernel
theorem dX11_away_8 : decode cX11_away 8 = .ok (.aload_n 0, 1) := by decide +kernel
theorem dX11_away_9 : decode cX11_away 9 = .ok (.iload_n 2, 1) := by decide +kernel
theorem dX11_away_10 : decode cX11_away 10 = .ok (.invokevirtual 154, 3) := by decide +kernel
theorem dX11_away_13 : decode cX11_away 13 = .ok (.ifCond .ne 5, 3) := by decide +kernel
theorem dX11_away_16 : decode cX11_away 16 = .ok (.iconst (-1), 1) := by decide +kernel
theorem dX11_away_17 : decode cX11_away 17 = .ok (.ireturn, 1) := by decide +kernel
theorem dX11_away_18 : decode cX11_away 18 = .ok (.aload_n 0, 1) := by decide +kernel
theorem dX11_away_19 : decode cX11_away 19 = .ok (.getfield 19, 3) := by decide +kernel
theorem dX11_away_22 : decode cX11_away 22 = .ok (.iload_n 2, 1) := by decide +kernel
theorem dX11_away_23 : decode cX11_away 23 = .ok (.invokevirtual 160, 3) := by decide +kernel
theorem dX11_away_26 : decode cX11_away 26 = .ok (.iload_n 1, 1) := by decide +kernel
theorem dX11_away_27 : decode cX11_away 27 = .ok (.invokestatic 164, 3) := by decide +kernel
theorem dX11_away_30 : decode cX11_away 30 = .ok (.ifCond .eq 7, 3) := by decide +kernel
theorem dX11_away_33 : decode cX11_away 33 = .ok (.iconst 1, 1) := by decide +kernel
theorem dX11_away_34 : decode cX11_away 34 = .ok (.goto 4, 3) := by decide +kernel
theorem dX11_away_37 : decode cX11_away 37 = .ok (.iconst 0, 1) := by decide +kernel
theorem dX11_away_38 : decode cX11_away 38 = .ok (.ireturn, 1) := by decide +kernel
theorem dX11_soonest_0 : decode cX11_soonest 0 = .ok (.aload_n 0, 1) := by decide +kernel
theorem dX11_soonest_1 : decode cX11_soonest 1 = .ok (.iload_n 1, 1) := by decide +kernel
theorem dX11_soonest_2 : decode cX11_soonest 2 = .ok (.invokevirtual 167, 3) := by decide +kernel
theorem dX11_soonest_5 : decode cX11_soonest 5 = .ok (.ifCond .eq 11, 3) := by decide +kernel
theorem dX11_soonest_8 : decode cX11_soonest 8 = .ok (.aload_n 0, 1) := by decide +kernel
theorem dX11_soonest_9 : decode cX11_soonest 9 = .ok (.iload_n 2, 1) := by decide +kernel
theorem dX11_soonest_10 : decode cX11_soonest 10 = .ok (.invokevirtual 130, 3) := by decide +kernel
theorem dX11_soonest_13 : decode cX11_soonest 13 = .ok (.ifCond .ne 5, 3) := by decide +kernel
theorem dX11_soonest_16 : decode cX11_soonest 16 = .ok (.iconst (-1), 1) := by decide +kernel
theorem dX11_soonest_17 : decode cX11_soonest 17 = .ok (.ireturn, 1) := by decide +kernel
theorem dX11_soonest_18 : decode cX11_soonest 18 = .ok (.aload_n 0, 1) := by decide +kernel
theorem dX11_soonest_19 : decode cX11_soonest 19 = .ok (.invokevirtual 170, 3) := by decide +kernel
theorem dX11_soonest_22 : decode cX11_soonest 22 = .ok (.aload_n 0, 1) := by decide +kernel
theorem dX11_soonest_23 : decode cX11_soonest 23 = .ok (.getfield 34, 3) := by decide +kernel
theorem dX11_soonest_26 : decode cX11_soonest 26 = .ok (.iload_n 1, 1) := by decide +kernel
theorem dX11_soonest_27 : decode cX11_soonest 27 = .ok (.aaload, 1) := by decide +kernel
theorem dX11_soonest_28 : decode cX11_soonest 28 = .ok (.iload_n 2, 1) := by decide +kernel
theorem dX11_soonest_29 : decode cX11_soonest 29 = .ok (.invokevirtual 173, 3) := by decide +kernel
theorem dX11_soonest_32 : decode cX11_soonest 32 = .ok (.ireturn, 1) := by decide +kernel
theorem dX11_by_0 : decode cX11_by 0 = .ok (.aload_n 0, 1) := by decide +kernel
theorem dX11_by_1 : decode cX11_by 1 = .ok (.iload_n 1, 1) := by decide +kernel
theorem dX11_by_2 : decode cX11_by 2 = .ok (.invokevirtual 167, 3) := by decide +kernel
theorem dX11_by_5 : decode cX11_by 5 = .ok (.ifCond .eq 11, 3) := by decide +kernel
theorem dX11_by_8 : decode cX11_by 8 = .ok (.aload_n 0, 1) := by decide +kernel
theorem dX11_by_9 : decode cX11_by 9 = .ok (.iload_n 2, 1) := by decide +kernel
theorem dX11_by_10 : decode cX11_by 10 = .ok (.invokevirtual 130, 3) := by decide +kernel
theorem dX11_by_13 : decode cX11_by 13 = .ok (.ifCond .ne 5, 3) := by decide +kernel
theorem dX11_by_16 : decode cX11_by 16 = .ok (.iconst (-1), 1) := by decide +kernel
theorem dX11_by_17 : decode cX11_by 17 = .ok (.ireturn, 1) := by decide +kernel
theorem dX11_by_18 : decode cX11_by 18 = .ok (.aload_n 0, 1) := by decide +kernel
theorem dX11_by_19 : decode cX11_by 19 = .ok (.invokevirtual 170, 3) := by decide +kernel
theorem dX11_by_22 : decode cX11_by 22 = .ok (.aload_n 0, 1) := by decide +kernel
theorem dX11_by_23 : decode cX11_by 23 = .ok (.getfield 34, 3) := by decide +kernel
theorem dX11_by_26 : decode cX11_by 26 = .ok (.iload_n 1, 1) := by decide +kernel
theorem dX11_by_27 : decode cX11_by 27 = .ok (.aaload, 1) := by decide +kernel
theorem dX11_by_28 : decode cX11_by 28 = .ok (.getfield 176, 3) := by decide +kernel
theorem dX11_by_31 : decode cX11_by 31 = .ok (.iload_n 2, 1) := by decide +kernel
theorem dX11_by_32 : decode cX11_by 32 = .ok (.iaload, 1) := by decide +kernel
theorem dX11_by_33 : decode cX11_by 33 = .ok (.ireturn, 1) := by decide +kernel
theorem dX11_hands_0 : decode cX11_hands 0 = .ok (.aload_n 0, 1) := by decide +kernel
theorem dX11_hands_1 : decode cX11_hands 1 = .ok (.iload_n 1, 1) := by decide +kernel
theorem dX11_hands_2 : decode cX11_hands 2 = .ok (.invokevirtual 167, 3) := by decide +kernel
theorem dX11_hands_5 : decode cX11_hands 5 = .ok (.ifCond .eq 11, 3) := by decide +kernel
theorem dX11_hands_8 : decode cX11_hands 8 = .ok (.aload_n 0, 1) := by decide +kernel
theorem dX11_hands_9 : decode cX11_hands 9 = .ok (.iload_n 2, 1) := by decide +kernel
theorem dX11_hands_10 : decode cX11_hands 10 = .ok (.invokevirtual 130, 3) := by decide +kernel
theorem dX11_hands_13 : decode cX11_hands 13 = .ok (.ifCond .ne 5, 3) := by decide +kernel
theorem dX11_hands_16 : decode cX11_hands 16 = .ok (.iconst (-1), 1) := by decide +kernel
theorem dX11_hands_17 : decode cX11_hands 17 = .ok (.ireturn, 1) := by decide +kernel
theorem dX11_hands_18 : decode cX11_hands 18 = .ok (.aload_n 0, 1) := by decide +kernel
theorem dX11_hands_19 : decode cX11_hands 19 = .ok (.invokevirtual 170, 3) := by decide +kernel
theorem dX11_hands_22 : decode cX11_hands 22 = .ok (.aload_n 0, 1) := by decide +kernel
theorem dX11_hands_23 : decode cX11_hands 23 = .ok (.getfield 34, 3) := by decide +kernel
theorem dX11_hands_26 : decode cX11_hands 26 = .ok (.iload_n 1, 1) := by decide +kernel
theorem dX11_hands_27 : decode cX11_hands 27 = .ok (.aaload, 1) := by decide +kernel
theorem dX11_hands_28 : decode cX11_hands 28 = .ok (.getfield 179, 3) := by decide +kernel
theorem dX11_hands_31 : decode cX11_hands 31 = .ok (.iload_n 2, 1) := by decide +kernel
theorem dX11_hands_32 : decode cX11_hands 32 = .ok (.iaload, 1) := by decide +kernel
theorem dX11_hands_33 : decode cX11_hands 33 = .ok (.ireturn, 1) := by decide +kernel
theorem dX11_ways_0 : decode cX11_ways 0 = .ok (.aload_n 0, 1) := by decide +kernel
theorem dX11_ways_1 : decode cX11_ways 1 = .ok (.iload_n 1, 1) := by decide +kernel
theorem dX11_ways_2 : decode cX11_ways 2 = .ok (.invokevirtual 167, 3) := by decide +kernel
theorem dX11_ways_5 : decode cX11_ways 5 = .ok (.ifCond .eq 11, 3) := by decide +kernel
theorem dX11_ways_8 : decode cX11_ways 8 = .ok (.aload_n 0, 1) := by decide +kernel
theorem dX11_ways_9 : decode cX11_ways 9 = .ok (.iload_n 2, 1) := by decide +kernel
theorem dX11_ways_10 : decode cX11_ways 10 = .ok (.invokevirtual 130, 3) := by decide +kernel
theorem dX11_ways_13 : decode cX11_ways 13 = .ok (.ifCond .ne 5, 3) := by decide +kernel
theorem dX11_ways_16 : decode cX11_ways 16 = .ok (.iconst (-1), 1) := by decide +kernel
theorem dX11_ways_17 : decode cX11_ways 17 = .ok (.ireturn, 1) := by decide +kernel
theorem dX11_ways_18 : decode cX11_ways 18 = .ok (.aload_n 0, 1) := by decide +kernel
theorem dX11_ways_19 : decode cX11_ways 19 = .ok (.invokevirtual 170, 3) := by decide +kernel
theorem dX11_ways_22 : decode cX11_ways 22 = .ok (.aload_n 0, 1) := by decide +kernel
theorem dX11_ways_23 : decode cX11_ways 23 = .ok (.getfield 34, 3) := by decide +kernel
theorem dX11_ways_26 : decode cX11_ways 26 = .ok (.iload_n 1, 1) := by decide +kernel
theorem dX11_ways_27 : decode cX11_ways 27 = .ok (.aaload, 1) := by decide +kernel
theorem dX11_ways_28 : decode cX11_ways 28 = .ok (.getfield 182, 3) := by decide +kernel
theorem dX11_ways_31 : decode cX11_ways 31 = .ok (.iload_n 2, 1) := by decide +kernel
theorem dX11_ways_32 : decode cX11_ways 32 = .ok (.iaload, 1) := by decide +kernel
theorem dX11_ways_33 : decode cX11_ways 33 = .ok (.ireturn, 1) := by decide +kernel
theorem dX11_cant_0 : decode cX11_cant 0 = .ok (.aload_n 0, 1) := by decide +kernel
theorem dX11_cant_1 : decode cX11_cant 1 = .ok (.iload_n 1, 1) := by decide +kernel
theorem dX11_cant_2 : decode cX11_cant 2 = .ok (.invokevirtual 167, 3) := by decide +kernel
theorem dX11_cant_5 : decode cX11_cant 5 = .ok (.ifCond .eq 11, 3) := by decide +kernel
theorem dX11_cant_8 : decode cX11_cant 8 = .ok (.aload_n 0, 1) := by decide +kernel
theorem dX11_cant_9 : decode cX11_cant 9 = .ok (.iload_n 2, 1) := by decide +kernel
theorem dX11_cant_10 : decode cX11_cant 10 = .ok (.invokevirtual 185, 3) := by decide +kernel
theorem dX11_cant_13 : decode cX11_cant 13 = .ok (.ifCond .ne 5, 3) := by decide +kernel
theorem dX11_cant_16 : decode cX11_cant 16 = .ok (.iconst (-1), 1) := by decide +kernel
theorem dX11_cant_17 : decode cX11_cant 17 = .ok (.ireturn, 1) := by decide +kernel
theorem dX11_cant_18 : decode cX11_cant 18 = .ok (.aload_n 0, 1) := by decide +kernel
theorem dX11_cant_19 : decode cX11_cant 19 = .ok (.getfield 19, 3) := by decide +kernel
theorem dX11_cant_22 : decode cX11_cant 22 = .ok (.invokevirtual 188, 3) := by decide +kernel
theorem dX11_cant_25 : decode cX11_cant 25 = .ok (.aload_n 0, 1) := by decide +kernel
theorem dX11_cant_26 : decode cX11_cant 26 = .ok (.iload_n 1, 1) := by decide +kernel
theorem dX11_cant_27 : decode cX11_cant 27 = .ok (.iload_n 2, 1) := by decide +kernel
theorem dX11_cant_28 : decode cX11_cant 28 = .ok (.invokevirtual 191, 3) := by decide +kernel
theorem dX11_cant_31 : decode cX11_cant 31 = .ok (.iconst (-1), 1) := by decide +kernel
theorem dX11_cant_32 : decode cX11_cant 32 = .ok (.ixor, 1) := by decide +kernel
theorem dX11_cant_33 : decode cX11_cant 33 = .ok (.iand, 1) := by decide +kernel
theorem dX11_cant_34 : decode cX11_cant 34 = .ok (.ireturn, 1) := by decide +kernel
theorem dX11_all_0 : decode cX11_all 0 = .ok (.aload_n 0, 1) := by decide +kernel
theorem dX11_all_1 : decode cX11_all 1 = .ok (.iload_n 1, 1) := by decide +kernel
theorem dX11_all_2 : decode cX11_all 2 = .ok (.invokevirtual 167, 3) := by decide +kernel
theorem dX11_all_5 : decode cX11_all 5 = .ok (.ifCond .ne 5, 3) := by decide +kernel
theorem dX11_all_8 : decode cX11_all 8 = .ok (.iconst (-1), 1) := by decide +kernel
theorem dX11_all_9 : decode cX11_all 9 = .ok (.ireturn, 1) := by decide +kernel
theorem dX11_all_10 : decode cX11_all 10 = .ok (.aload_n 0, 1) := by decide +kernel
theorem dX11_all_11 : decode cX11_all 11 = .ok (.invokevirtual 170, 3) := by decide +kernel
theorem dX11_all_14 : decode cX11_all 14 = .ok (.iconst (-1), 1) := by decide +kernel
theorem dX11_all_15 : decode cX11_all 15 = .ok (.istore_n 2, 1) := by decide +kernel
theorem dX11_all_16 : decode cX11_all 16 = .ok (.iconst 0, 1) := by decide +kernel
theorem dX11_all_17 : decode cX11_all 17 = .ok (.istore_n 3, 1) := by decide +kernel
theorem dX11_all_18 : decode cX11_all 18 = .ok (.iload_n 3, 1) := by decide +kernel
theorem dX11_all_19 : decode cX11_all 19 = .ok (.aload_n 0, 1) := by decide +kernel
theorem dX11_all_20 : decode cX11_all 20 = .ok (.getfield 19, 3) := by decide +kernel
theorem dX11_all_23 : decode cX11_all 23 = .ok (.getfield 195, 3) := by decide +kernel
theorem dX11_all_26 : decode cX11_all 26 = .ok (.if_icmp .ge 36, 3) := by decide +kernel
theorem dX11_all_29 : decode cX11_all 29 = .ok (.aload_n 0, 1) := by decide +kernel
theorem dX11_all_30 : decode cX11_all 30 = .ok (.getfield 34, 3) := by decide +kernel
theorem dX11_all_33 : decode cX11_all 33 = .ok (.iload_n 1, 1) := by decide +kernel
theorem dX11_all_34 : decode cX11_all 34 = .ok (.aaload, 1) := by decide +kernel
theorem dX11_all_35 : decode cX11_all 35 = .ok (.iload_n 3, 1) := by decide +kernel
theorem dX11_all_36 : decode cX11_all 36 = .ok (.invokevirtual 173, 3) := by decide +kernel
theorem dX11_all_39 : decode cX11_all 39 = .ok (.istore 4, 2) := by decide +kernel
theorem dX11_all_41 : decode cX11_all 41 = .ok (.iload 4, 2) := by decide +kernel
theorem dX11_all_43 : decode cX11_all 43 = .ok (.iconst (-1), 1) := by decide +kernel
theorem dX11_all_44 : decode cX11_all 44 = .ok (.if_icmp .ne 5, 3) := by decide +kernel
theorem dX11_all_47 : decode cX11_all 47 = .ok (.iconst (-1), 1) := by decide +kernel
theorem dX11_all_48 : decode cX11_all 48 = .ok (.ireturn, 1) := by decide +kernel
theorem dX11_all_49 : decode cX11_all 49 = .ok (.iload_n 2, 1) := by decide +kernel
theorem dX11_all_50 : decode cX11_all 50 = .ok (.iload 4, 2) := by decide +kernel
theorem dX11_all_52 : decode cX11_all 52 = .ok (.invokestatic 198, 3) := by decide +kernel
theorem dX11_all_55 : decode cX11_all 55 = .ok (.istore_n 2, 1) := by decide +kernel
theorem dX11_all_56 : decode cX11_all 56 = .ok (.iinc 3 1, 3) := by decide +kernel
theorem dX11_all_59 : decode cX11_all 59 = .ok (.goto (-41), 3) := by decide +kernel
theorem dX11_all_62 : decode cX11_all 62 = .ok (.iload_n 2, 1) := by decide +kernel
theorem dX11_all_63 : decode cX11_all 63 = .ok (.ireturn, 1) := by decide +kernel
theorem dX11_knows_0 : decode cX11_knows 0 = .ok (.aload_n 0, 1) := by decide +kernel
theorem dX11_knows_1 : decode cX11_knows 1 = .ok (.iload_n 1, 1) := by decide +kernel
theorem dX11_knows_2 : decode cX11_knows 2 = .ok (.invokevirtual 167, 3) := by decide +kernel
theorem dX11_knows_5 : decode cX11_knows 5 = .ok (.ifCond .eq 11, 3) := by decide +kernel
theorem dX11_knows_8 : decode cX11_knows 8 = .ok (.aload_n 0, 1) := by decide +kernel
theorem dX11_knows_9 : decode cX11_knows 9 = .ok (.iload_n 2, 1) := by decide +kernel
theorem dX11_knows_10 : decode cX11_knows 10 = .ok (.invokevirtual 185, 3) := by decide +kernel
theorem dX11_knows_13 : decode cX11_knows 13 = .ok (.ifCond .ne 5, 3) := by decide +kernel
theorem dX11_knows_16 : decode cX11_knows 16 = .ok (.iconst (-1), 1) := by decide +kernel
theorem dX11_knows_17 : decode cX11_knows 17 = .ok (.ireturn, 1) := by decide +kernel
theorem dX11_knows_18 : decode cX11_knows 18 = .ok (.aload_n 0, 1) := by decide +kernel
theorem dX11_knows_19 : decode cX11_knows 19 = .ok (.iload_n 1, 1) := by decide +kernel
theorem dX11_knows_20 : decode cX11_knows 20 = .ok (.iload_n 2, 1) := by decide +kernel
theorem dX11_knows_21 : decode cX11_knows 21 = .ok (.invokevirtual 191, 3) := by decide +kernel
theorem dX11_knows_24 : decode cX11_knows 24 = .ok (.ireturn, 1) := by decide +kernel
theorem dX11_knowersBehind_0 : decode cX11_knowersBehind 0 = .ok (.aload_n 0, 1) := by decide +kernel
theorem dX11_knowersBehind_1 : decode cX11_knowersBehind 1 = .ok (.invokevirtual 170, 3) := by decide +kernel
theorem dX11_knowersBehind_4 : decode cX11_knowersBehind 4 = .ok (.iconst 0, 1) := by decide +kernel
theorem dX11_knowersBehind_5 : decode cX11_knowersBehind 5 = .ok (.istore_n 3, 1) := by decide +kernel
theorem dX11_knowersBehind_6 : decode cX11_knowersBehind 6 = .ok (.iconst 0, 1) := by decide +kernel
theorem dX11_knowersBehind_7 : decode cX11_knowersBehind 7 = .ok (.istore 4, 2) := by decide +kernel
theorem dX11_knowersBehind_9 : decode cX11_knowersBehind 9 = .ok (.iload 4, 2) := by decide +kernel
theorem dX11_knowersBehind_11 : decode cX11_knowersBehind 11 = .ok (.aload_n 0, 1) := by decide +kernel
theorem dX11_knowersBehind_12 : decode cX11_knowersBehind 12 = .ok (.getfield 19, 3) := by decide +kernel
theorem dX11_knowersBehind_15 : decode cX11_knowersBehind 15 = .ok (.getfield 195, 3) := by decide +kernel
theorem dX11_knowersBehind_18 : decode cX11_knowersBehind 18 = .ok (.if_icmp .ge 31, 3) := by decide +kernel
theorem dX11_knowersBehind_21 : decode cX11_knowersBehind 21 = .ok (.aload_n 0, 1) := by decide +kernel
theorem dX11_knowersBehind_22 : decode cX11_knowersBehind 22 = .ok (.getfield 34, 3) := by decide +kernel
theorem dX11_knowersBehind_25 : decode cX11_knowersBehind 25 = .ok (.iload_n 1, 1) := by decide +kernel
theorem dX11_knowersBehind_26 : decode cX11_knowersBehind 26 = .ok (.aaload, 1) := by decide +kernel
theorem dX11_knowersBehind_27 : decode cX11_knowersBehind 27 = .ok (.iload 4, 2) := by decide +kernel
theorem dX11_knowersBehind_29 : decode cX11_knowersBehind 29 = .ok (.iload_n 2, 1) := by decide +kernel
theorem dX11_knowersBehind_30 : decode cX11_knowersBehind 30 = .ok (.invokevirtual 203, 3) := by decide +kernel
theorem dX11_knowersBehind_33 : decode cX11_knowersBehind 33 = .ok (.ifCond .eq 10, 3) := by decide +kernel
theorem dX11_knowersBehind_36 : decode cX11_knowersBehind 36 = .ok (.iload_n 3, 1) := by decide +kernel
theorem dX11_knowersBehind_37 : decode cX11_knowersBehind 37 = .ok (.iconst 1, 1) := by decide +kernel
theorem dX11_knowersBehind_38 : decode cX11_knowersBehind 38 = .ok (.iload 4, 2) := by decide +kernel
theorem dX11_knowersBehind_40 : decode cX11_knowersBehind 40 = .ok (.ishl, 1) := by decide +kernel
theorem dX11_knowersBehind_41 : decode cX11_knowersBehind 41 = .ok (.ior, 1) := by decide +kernel
theorem dX11_knowersBehind_42 : decode cX11_knowersBehind 42 = .ok (.istore_n 3, 1) := by decide +kernel
theorem dX11_knowersBehind_43 : decode cX11_knowersBehind 43 = .ok (.iinc 4 1, 3) := by decide +kernel
theorem dX11_knowersBehind_46 : decode cX11_knowersBehind 46 = .ok (.goto (-37), 3) := by decide +kernel
theorem dX11_knowersBehind_49 : decode cX11_knowersBehind 49 = .ok (.iload_n 3, 1) := by decide +kernel
theorem dX11_knowersBehind_50 : decode cX11_knowersBehind 50 = .ok (.ireturn, 1) := by decide +kernel
theorem dX11_letIn_0 : decode cX11_letIn 0 = .ok (.aload_n 0, 1) := by decide +kernel
theorem dX11_letIn_1 : decode cX11_letIn 1 = .ok (.iload_n 1, 1) := by decide +kernel
theorem dX11_letIn_2 : decode cX11_letIn 2 = .ok (.invokevirtual 167, 3) := by decide +kernel
theorem dX11_letIn_5 : decode cX11_letIn 5 = .ok (.ifCond .eq 37, 3) := by decide +kernel
theorem dX11_letIn_8 : decode cX11_letIn 8 = .ok (.aload_n 0, 1) := by decide +kernel
theorem dX11_letIn_9 : decode cX11_letIn 9 = .ok (.iload_n 2, 1) := by decide +kernel
theorem dX11_letIn_10 : decode cX11_letIn 10 = .ok (.invokevirtual 130, 3) := by decide +kernel
theorem dX11_letIn_13 : decode cX11_letIn 13 = .ok (.ifCond .eq 29, 3) := by decide +kernel
theorem dX11_letIn_16 : decode cX11_letIn 16 = .ok (.aload_n 0, 1) := by decide +kernel
theorem dX11_letIn_17 : decode cX11_letIn 17 = .ok (.iload_n 3, 1) := by decide +kernel
theorem dX11_letIn_18 : decode cX11_letIn 18 = .ok (.invokevirtual 185, 3) := by decide +kernel
theorem dX11_letIn_21 : decode cX11_letIn 21 = .ok (.ifCond .eq 21, 3) := by decide +kernel
theorem dX11_letIn_24 : decode cX11_letIn 24 = .ok (.aload_n 0, 1) := by decide +kernel
theorem dX11_letIn_25 : decode cX11_letIn 25 = .ok (.iload 4, 2) := by decide +kernel
theorem dX11_letIn_27 : decode cX11_letIn 27 = .ok (.invokevirtual 206, 3) := by decide +kernel
theorem dX11_letIn_30 : decode cX11_letIn 30 = .ok (.ifCond .eq 12, 3) := by decide +kernel
theorem dX11_letIn_33 : decode cX11_letIn 33 = .ok (.aload_n 0, 1) := by decide +kernel
theorem dX11_letIn_34 : decode cX11_letIn 34 = .ok (.iload 5, 2) := by decide +kernel
theorem dX11_letIn_36 : decode cX11_letIn 36 = .ok (.invokevirtual 185, 3) := by decide +kernel
theorem dX11_letIn_39 : decode cX11_letIn 39 = .ok (.ifCond .ne 5, 3) := by decide +kernel
theorem dX11_letIn_42 : decode cX11_letIn 42 = .ok (.iconst (-1), 1) := by decide +kernel
theorem dX11_letIn_43 : decode cX11_letIn 43 = .ok (.ireturn, 1) := by decide +kernel
theorem dX11_letIn_44 : decode cX11_letIn 44 = .ok (.aload_n 0, 1) := by decide +kernel
theorem dX11_letIn_45 : decode cX11_letIn 45 = .ok (.invokevirtual 170, 3) := by decide +kernel
theorem dX11_letIn_48 : decode cX11_letIn 48 = .ok (.aload_n 0, 1) := by decide +kernel
theorem dX11_letIn_49 : decode cX11_letIn 49 = .ok (.getfield 19, 3) := by decide +kernel
theorem dX11_letIn_52 : decode cX11_letIn 52 = .ok (.getfield 209, 3) := by decide +kernel
theorem dX11_letIn_55 : decode cX11_letIn 55 = .ok (.iload_n 1, 1) := by decide +kernel
theorem dX11_letIn_56 : decode cX11_letIn 56 = .ok (.iaload, 1) := by decide +kernel
theorem dX11_letIn_57 : decode cX11_letIn 57 = .ok (.istore 6, 2) := by decide +kernel
theorem dX11_letIn_59 : decode cX11_letIn 59 = .ok (.aload_n 0, 1) := by decide +kernel
theorem dX11_letIn_60 : decode cX11_letIn 60 = .ok (.getfield 19, 3) := by decide +kernel
theorem dX11_letIn_63 : decode cX11_letIn 63 = .ok (.getfield 212, 3) := by decide +kernel
theorem dX11_letIn_66 : decode cX11_letIn 66 = .ok (.iload_n 1, 1) := by decide +kernel
theorem dX11_letIn_67 : decode cX11_letIn 67 = .ok (.iaload, 1) := by decide +kernel
theorem dX11_letIn_68 : decode cX11_letIn 68 = .ok (.istore 7, 2) := by decide +kernel
theorem dX11_letIn_70 : decode cX11_letIn 70 = .ok (.iload 7, 2) := by decide +kernel
theorem dX11_letIn_72 : decode cX11_letIn 72 = .ok (.iload_n 3, 1) := by decide +kernel
theorem dX11_letIn_73 : decode cX11_letIn 73 = .ok (.if_icmp .gt 20, 3) := by decide +kernel
theorem dX11_letIn_76 : decode cX11_letIn 76 = .ok (.iload 4, 2) := by decide +kernel
theorem dX11_letIn_78 : decode cX11_letIn 78 = .ok (.iload 6, 2) := by decide +kernel
theorem dX11_letIn_80 : decode cX11_letIn 80 = .ok (.invokestatic 164, 3) := by decide +kernel
theorem dX11_letIn_83 : decode cX11_letIn 83 = .ok (.ifCond .eq 12, 3) := by decide +kernel
theorem dX11_letIn_86 : decode cX11_letIn 86 = .ok (.iload 7, 2) := by decide +kernel
theorem dX11_letIn_88 : decode cX11_letIn 88 = .ok (.iload 5, 2) := by decide +kernel
theorem dX11_letIn_90 : decode cX11_letIn 90 = .ok (.if_icmp .ge 5, 3) := by decide +kernel
theorem dX11_letIn_93 : decode cX11_letIn 93 = .ok (.iconst (-1), 1) := by decide +kernel
theorem dX11_letIn_94 : decode cX11_letIn 94 = .ok (.ireturn, 1) := by decide +kernel
theorem dX11_letIn_95 : decode cX11_letIn 95 = .ok (.aload_n 0, 1) := by decide +kernel
theorem dX11_letIn_96 : decode cX11_letIn 96 = .ok (.getfield 46, 3) := by decide +kernel
theorem dX11_letIn_99 : decode cX11_letIn 99 = .ok (.iload 4, 2) := by decide +kernel
theorem dX11_letIn_101 : decode cX11_letIn 101 = .ok (.iload 5, 2) := by decide +kernel
theorem dX11_letIn_103 : decode cX11_letIn 103 = .ok (.invokevirtual 215, 3) := by decide +kernel
theorem dX11_letIn_106 : decode cX11_letIn 106 = .ok (.aload_n 0, 1) := by decide +kernel
theorem dX11_letIn_107 : decode cX11_letIn 107 = .ok (.getfield 46, 3) := by decide +kernel
theorem dX11_letIn_110 : decode cX11_letIn 110 = .ok (.aload_n 0, 1) := by decide +kernel
theorem dX11_letIn_111 : decode cX11_letIn 111 = .ok (.getfield 28, 3) := by decide +kernel
theorem dX11_letIn_114 : decode cX11_letIn 114 = .ok (.iload 6, 2) := by decide +kernel
theorem dX11_letIn_116 : decode cX11_letIn 116 = .ok (.iload 7, 2) := by decide +kernel
theorem dX11_letIn_118 : decode cX11_letIn 118 = .ok (.iload_n 2, 1) := by decide +kernel
theorem dX11_letIn_119 : decode cX11_letIn 119 = .ok (.iload_n 3, 1) := by decide +kernel
theorem dX11_letIn_120 : decode cX11_letIn 120 = .ok (.invokevirtual 219, 3) := by decide +kernel
theorem dX11_letIn_123 : decode cX11_letIn 123 = .ok (.ireturn, 1) := by decide +kernel
theorem dX11_cut_0 : decode cX11_cut 0 = .ok (.aload_n 0, 1) := by decide +kernel
theorem dX11_cut_1 : decode cX11_cut 1 = .ok (.iload_n 1, 1) := by decide +kernel
theorem dX11_cut_2 : decode cX11_cut 2 = .ok (.invokevirtual 167, 3) := by decide +kernel
theorem dX11_cut_5 : decode cX11_cut 5 = .ok (.ifCond .eq 32, 3) := by decide +kernel
theorem dX11_cut_8 : decode cX11_cut 8 = .ok (.aload_n 0, 1) := by decide +kernel
theorem dX11_cut_9 : decode cX11_cut 9 = .ok (.iload_n 2, 1) := by decide +kernel
theorem dX11_cut_10 : decode cX11_cut 10 = .ok (.invokevirtual 130, 3) := by decide +kernel
theorem dX11_cut_13 : decode cX11_cut 13 = .ok (.ifCond .eq 24, 3) := by decide +kernel
theorem dX11_cut_16 : decode cX11_cut 16 = .ok (.aload_n 0, 1) := by decide +kernel
theorem dX11_cut_17 : decode cX11_cut 17 = .ok (.iload_n 3, 1) := by decide +kernel
theorem dX11_cut_18 : decode cX11_cut 18 = .ok (.invokevirtual 185, 3) := by decide +kernel
theorem dX11_cut_21 : decode cX11_cut 21 = .ok (.ifCond .eq 16, 3) := by decide +kernel
theorem dX11_cut_24 : decode cX11_cut 24 = .ok (.iload_n 2, 1) := by decide +kernel
theorem dX11_cut_25 : decode cX11_cut 25 = .ok (.aload_n 0, 1) := by decide +kernel
theorem dX11_cut_26 : decode cX11_cut 26 = .ok (.getfield 19, 3) := by decide +kernel
theorem dX11_cut_29 : decode cX11_cut 29 = .ok (.getfield 209, 3) := by decide +kernel
theorem dX11_cut_32 : decode cX11_cut 32 = .ok (.iload_n 1, 1) := by decide +kernel
theorem dX11_cut_33 : decode cX11_cut 33 = .ok (.iaload, 1) := by decide +kernel
theorem dX11_cut_34 : decode cX11_cut 34 = .ok (.if_icmp .ne 5, 3) := by decide +kernel
theorem dX11_cut_37 : decode cX11_cut 37 = .ok (.iconst (-1), 1) := by decide +kernel
theorem dX11_cut_38 : decode cX11_cut 38 = .ok (.ireturn, 1) := by decide +kernel
theorem dX11_cut_39 : decode cX11_cut 39 = .ok (.aload_n 0, 1) := by decide +kernel
theorem dX11_cut_40 : decode cX11_cut 40 = .ok (.invokevirtual 170, 3) := by decide +kernel
theorem dX11_cut_43 : decode cX11_cut 43 = .ok (.aload_n 0, 1) := by decide +kernel
theorem dX11_cut_44 : decode cX11_cut 44 = .ok (.getfield 53, 3) := by decide +kernel
theorem dX11_cut_47 : decode cX11_cut 47 = .ok (.aload_n 0, 1) := by decide +kernel
theorem dX11_cut_48 : decode cX11_cut 48 = .ok (.getfield 28, 3) := by decide +kernel
theorem dX11_cut_51 : decode cX11_cut 51 = .ok (.aload_n 0, 1) := by decide +kernel
theorem dX11_cut_52 : decode cX11_cut 52 = .ok (.getfield 19, 3) := by decide +kernel
theorem dX11_cut_55 : decode cX11_cut 55 = .ok (.getfield 209, 3) := by decide +kernel
theorem dX11_cut_58 : decode cX11_cut 58 = .ok (.iload_n 1, 1) := by decide +kernel
theorem dX11_cut_59 : decode cX11_cut 59 = .ok (.iaload, 1) := by decide +kernel
theorem dX11_cut_60 : decode cX11_cut 60 = .ok (.aload_n 0, 1) := by decide +kernel
theorem dX11_cut_61 : decode cX11_cut 61 = .ok (.getfield 19, 3) := by decide +kernel
theorem dX11_cut_64 : decode cX11_cut 64 = .ok (.getfield 212, 3) := by decide +kernel
theorem dX11_cut_67 : decode cX11_cut 67 = .ok (.iload_n 1, 1) := by decide +kernel
theorem dX11_cut_68 : decode cX11_cut 68 = .ok (.iaload, 1) := by decide +kernel
theorem dX11_cut_69 : decode cX11_cut 69 = .ok (.iload_n 2, 1) := by decide +kernel
theorem dX11_cut_70 : decode cX11_cut 70 = .ok (.iload_n 3, 1) := by decide +kernel
theorem dX11_cut_71 : decode cX11_cut 71 = .ok (.invokevirtual 223, 3) := by decide +kernel
theorem dX11_cut_74 : decode cX11_cut 74 = .ok (.ireturn, 1) := by decide +kernel
theorem dX11_meet_0 : decode cX11_meet 0 = .ok (.aload_n 0, 1) := by decide +kernel
theorem dX11_meet_1 : decode cX11_meet 1 = .ok (.iload_n 1, 1) := by decide +kernel
theorem dX11_meet_2 : decode cX11_meet 2 = .ok (.invokevirtual 167, 3) := by decide +kernel
theorem dX11_meet_5 : decode cX11_meet 5 = .ok (.ifCond .eq 23, 3) := by decide +kernel
theorem dX11_meet_8 : decode cX11_meet 8 = .ok (.aload_n 0, 1) := by decide +kernel
theorem dX11_meet_9 : decode cX11_meet 9 = .ok (.iload_n 2, 1) := by decide +kernel
theorem dX11_meet_10 : decode cX11_meet 10 = .ok (.invokevirtual 167, 3) := by decide +kernel
theorem dX11_meet_13 : decode cX11_meet 13 = .ok (.ifCond .eq 15, 3) := by decide +kernel
theorem dX11_meet_16 : decode cX11_meet 16 = .ok (.iload_n 1, 1) := by decide +kernel
theorem dX11_meet_17 : decode cX11_meet 17 = .ok (.iload_n 2, 1) := by decide +kernel
theorem dX11_meet_18 : decode cX11_meet 18 = .ok (.if_icmp .eq 10, 3) := by decide +kernel
theorem dX11_meet_21 : decode cX11_meet 21 = .ok (.iload_n 3, 1) := by decide +kernel
theorem dX11_meet_22 : decode cX11_meet 22 = .ok (.invokestatic 224, 3) := by decide +kernel
theorem dX11_meet_25 : decode cX11_meet 25 = .ok (.ifCond .ne 5, 3) := by decide +kernel
theorem dX11_meet_28 : decode cX11_meet 28 = .ok (.iconst (-1), 1) := by decide +kernel
theorem dX11_meet_29 : decode cX11_meet 29 = .ok (.ireturn, 1) := by decide +kernel
theorem dX11_meet_30 : decode cX11_meet 30 = .ok (.aload_n 0, 1) := by decide +kernel
theorem dX11_meet_31 : decode cX11_meet 31 = .ok (.invokevirtual 170, 3) := by decide +kernel
theorem dX11_meet_34 : decode cX11_meet 34 = .ok (.iconst (-1), 1) := by decide +kernel
theorem dX11_meet_35 : decode cX11_meet 35 = .ok (.istore 4, 2) := by decide +kernel
theorem dX11_meet_37 : decode cX11_meet 37 = .ok (.iconst (-1), 1) := by decide +kernel
theorem dX11_meet_38 : decode cX11_meet 38 = .ok (.istore 5, 2) := by decide +kernel
theorem dX11_meet_40 : decode cX11_meet 40 = .ok (.iconst 0, 1) := by decide +kernel
theorem dX11_meet_41 : decode cX11_meet 41 = .ok (.istore 6, 2) := by decide +kernel
theorem dX11_meet_43 : decode cX11_meet 43 = .ok (.iload 6, 2) := by decide +kernel
theorem dX11_meet_45 : decode cX11_meet 45 = .ok (.aload_n 0, 1) := by decide +kernel
theorem dX11_meet_46 : decode cX11_meet 46 = .ok (.getfield 19, 3) := by decide +kernel
theorem dX11_meet_49 : decode cX11_meet 49 = .ok (.getfield 195, 3) := by decide +kernel
theorem dX11_meet_52 : decode cX11_meet 52 = .ok (.if_icmp .ge 77, 3) := by decide +kernel
theorem dX11_meet_55 : decode cX11_meet 55 = .ok (.aload_n 0, 1) := by decide +kernel
theorem dX11_meet_56 : decode cX11_meet 56 = .ok (.getfield 34, 3) := by decide +kernel
theorem dX11_meet_59 : decode cX11_meet 59 = .ok (.iload_n 1, 1) := by decide +kernel
theorem dX11_meet_60 : decode cX11_meet 60 = .ok (.aaload, 1) := by decide +kernel
theorem dX11_meet_61 : decode cX11_meet 61 = .ok (.iload 6, 2) := by decide +kernel
theorem dX11_meet_63 : decode cX11_meet 63 = .ok (.invokevirtual 173, 3) := by decide +kernel
theorem dX11_meet_66 : decode cX11_meet 66 = .ok (.istore 7, 2) := by decide +kernel
theorem dX11_meet_68 : decode cX11_meet 68 = .ok (.aload_n 0, 1) := by decide +kernel
theorem dX11_meet_69 : decode cX11_meet 69 = .ok (.getfield 34, 3) := by decide +kernel
theorem dX11_meet_72 : decode cX11_meet 72 = .ok (.iload_n 2, 1) := by decide +kernel
theorem dX11_meet_73 : decode cX11_meet 73 = .ok (.aaload, 1) := by decide +kernel
theorem dX11_meet_74 : decode cX11_meet 74 = .ok (.iload 6, 2) := by decide +kernel
theorem dX11_meet_76 : decode cX11_meet 76 = .ok (.invokevirtual 173, 3) := by decide +kernel
theorem dX11_meet_79 : decode cX11_meet 79 = .ok (.istore 8, 2) := by decide +kernel
theorem dX11_meet_81 : decode cX11_meet 81 = .ok (.iload 7, 2) := by decide +kernel
theorem dX11_meet_83 : decode cX11_meet 83 = .ok (.iload 8, 2) := by decide +kernel
theorem dX11_meet_85 : decode cX11_meet 85 = .ok (.invokestatic 198, 3) := by decide +kernel
theorem dX11_meet_88 : decode cX11_meet 88 = .ok (.istore 9, 2) := by decide +kernel
theorem dX11_meet_90 : decode cX11_meet 90 = .ok (.iload 7, 2) := by decide +kernel
theorem dX11_meet_92 : decode cX11_meet 92 = .ok (.iconst (-1), 1) := by decide +kernel
theorem dX11_meet_93 : decode cX11_meet 93 = .ok (.if_icmp .eq 30, 3) := by decide +kernel
theorem dX11_meet_96 : decode cX11_meet 96 = .ok (.iload 8, 2) := by decide +kernel
theorem dX11_meet_98 : decode cX11_meet 98 = .ok (.iconst (-1), 1) := by decide +kernel
theorem dX11_meet_99 : decode cX11_meet 99 = .ok (.if_icmp .eq 24, 3) := by decide +kernel
theorem dX11_meet_102 : decode cX11_meet 102 = .ok (.iload 4, 2) := by decide +kernel
theorem dX11_meet_104 : decode cX11_meet 104 = .ok (.iconst (-1), 1) := by decide +kernel
theorem dX11_meet_105 : decode cX11_meet 105 = .ok (.if_icmp .eq 10, 3) := by decide +kernel
theorem dX11_meet_108 : decode cX11_meet 108 = .ok (.iload 9, 2) := by decide +kernel
theorem dX11_meet_110 : decode cX11_meet 110 = .ok (.iload 4, 2) := by decide +kernel
theorem dX11_meet_112 : decode cX11_meet 112 = .ok (.if_icmp .ge 11, 3) := by decide +kernel
theorem dX11_meet_115 : decode cX11_meet 115 = .ok (.iload 9, 2) := by decide +kernel
theorem dX11_meet_117 : decode cX11_meet 117 = .ok (.istore 4, 2) := by decide +kernel
theorem dX11_meet_119 : decode cX11_meet 119 = .ok (.iload 6, 2) := by decide +kernel
theorem dX11_meet_121 : decode cX11_meet 121 = .ok (.istore 5, 2) := by decide +kernel
theorem dX11_meet_123 : decode cX11_meet 123 = .ok (.iinc 6 1, 3) := by decide +kernel
theorem dX11_meet_126 : decode cX11_meet 126 = .ok (.goto (-83), 3) := by decide +kernel
theorem dX11_meet_129 : decode cX11_meet 129 = .ok (.iload_n 3, 1) := by decide +kernel
theorem dX11_meet_130 : decode cX11_meet 130 = .ok (.ifCond .ne 8, 3) := by decide +kernel
theorem dX11_meet_133 : decode cX11_meet 133 = .ok (.iload 4, 2) := by decide +kernel
theorem dX11_meet_135 : decode cX11_meet 135 = .ok (.goto 5, 3) := by decide +kernel
theorem dX11_meet_138 : decode cX11_meet 138 = .ok (.iload 5, 2) := by decide +kernel
theorem dX11_meet_140 : decode cX11_meet 140 = .ok (.ireturn, 1) := by decide +kernel
theorem dX11_newcomer_0 : decode cX11_newcomer 0 = .ok (.aload_n 0, 1) := by decide +kernel
theorem dX11_newcomer_1 : decode cX11_newcomer 1 = .ok (.getfield 19, 3) := by decide +kernel
theorem dX11_newcomer_4 : decode cX11_newcomer 4 = .ok (.getfield 195, 3) := by decide +kernel
theorem dX11_newcomer_7 : decode cX11_newcomer 7 = .ok (.bipush 12, 2) := by decide +kernel
theorem dX11_newcomer_9 : decode cX11_newcomer 9 = .ok (.if_icmp .eq 19, 3) := by decide +kernel
theorem dX11_newcomer_12 : decode cX11_newcomer 12 = .ok (.aload_n 0, 1) := by decide +kernel
theorem dX11_newcomer_13 : decode cX11_newcomer 13 = .ok (.iload_n 1, 1) := by decide +kernel
theorem dX11_newcomer_14 : decode cX11_newcomer 14 = .ok (.invokevirtual 206, 3) := by decide +kernel
theorem dX11_newcomer_17 : decode cX11_newcomer 17 = .ok (.ifCond .eq 11, 3) := by decide +kernel
theorem dX11_newcomer_20 : decode cX11_newcomer 20 = .ok (.aload_n 0, 1) := by decide +kernel
theorem dX11_newcomer_21 : decode cX11_newcomer 21 = .ok (.iload_n 2, 1) := by decide +kernel
theorem dX11_newcomer_22 : decode cX11_newcomer 22 = .ok (.invokevirtual 206, 3) := by decide +kernel
theorem dX11_newcomer_25 : decode cX11_newcomer 25 = .ok (.ifCond .ne 5, 3) := by decide +kernel
theorem dX11_newcomer_28 : decode cX11_newcomer 28 = .ok (.iconst (-1), 1) := by decide +kernel
theorem dX11_newcomer_29 : decode cX11_newcomer 29 = .ok (.ireturn, 1) := by decide +kernel
theorem dX11_newcomer_30 : decode cX11_newcomer 30 = .ok (.aload_n 0, 1) := by decide +kernel
theorem dX11_newcomer_31 : decode cX11_newcomer 31 = .ok (.iload_n 3, 1) := by decide +kernel
theorem dX11_newcomer_32 : decode cX11_newcomer 32 = .ok (.invokevirtual 167, 3) := by decide +kernel
theorem dX11_newcomer_35 : decode cX11_newcomer 35 = .ok (.ifCond .eq 20, 3) := by decide +kernel
theorem dX11_newcomer_38 : decode cX11_newcomer 38 = .ok (.aload_n 0, 1) := by decide +kernel
theorem dX11_newcomer_39 : decode cX11_newcomer 39 = .ok (.iload 4, 2) := by decide +kernel
theorem dX11_newcomer_41 : decode cX11_newcomer 41 = .ok (.invokevirtual 130, 3) := by decide +kernel
theorem dX11_newcomer_44 : decode cX11_newcomer 44 = .ok (.ifCond .eq 11, 3) := by decide +kernel
theorem dX11_newcomer_47 : decode cX11_newcomer 47 = .ok (.iload 5, 2) := by decide +kernel
theorem dX11_newcomer_49 : decode cX11_newcomer 49 = .ok (.invokestatic 224, 3) := by decide +kernel
theorem dX11_newcomer_52 : decode cX11_newcomer 52 = .ok (.ifCond .ne 5, 3) := by decide +kernel
theorem dX11_newcomer_55 : decode cX11_newcomer 55 = .ok (.iconst (-1), 1) := by decide +kernel
theorem dX11_newcomer_56 : decode cX11_newcomer 56 = .ok (.ireturn, 1) := by decide +kernel
theorem dX11_newcomer_57 : decode cX11_newcomer 57 = .ok (.aload_n 0, 1) := by decide +kernel
theorem dX11_newcomer_58 : decode cX11_newcomer 58 = .ok (.getfield 81, 3) := by decide +kernel
theorem dX11_newcomer_61 : decode cX11_newcomer 61 = .ok (.aload_n 0, 1) := by decide +kernel
theorem dX11_newcomer_62 : decode cX11_newcomer 62 = .ok (.getfield 19, 3) := by decide +kernel
theorem dX11_newcomer_65 : decode cX11_newcomer 65 = .ok (.iload_n 1, 1) := by decide +kernel
theorem dX11_newcomer_66 : decode cX11_newcomer 66 = .ok (.iload_n 2, 1) := by decide +kernel
theorem dX11_newcomer_67 : decode cX11_newcomer 67 = .ok (.iload_n 3, 1) := by decide +kernel
theorem dX11_newcomer_68 : decode cX11_newcomer 68 = .ok (.iload 4, 2) := by decide +kernel
theorem dX11_newcomer_70 : decode cX11_newcomer 70 = .ok (.invokevirtual 227, 3) := by decide +kernel
theorem dX11_newcomer_73 : decode cX11_newcomer 73 = .ok (.iload 5, 2) := by decide +kernel
theorem dX11_newcomer_75 : decode cX11_newcomer 75 = .ok (.ifCond .ne 13, 3) := by decide +kernel
theorem dX11_newcomer_78 : decode cX11_newcomer 78 = .ok (.aload_n 0, 1) := by decide +kernel
theorem dX11_newcomer_79 : decode cX11_newcomer 79 = .ok (.getfield 81, 3) := by decide +kernel
theorem dX11_newcomer_82 : decode cX11_newcomer 82 = .ok (.getfield 231, 3) := by decide +kernel
theorem dX11_newcomer_85 : decode cX11_newcomer 85 = .ok (.goto 10, 3) := by decide +kernel
theorem dX11_newcomer_88 : decode cX11_newcomer 88 = .ok (.aload_n 0, 1) := by decide +kernel
theorem dX11_newcomer_89 : decode cX11_newcomer 89 = .ok (.getfield 81, 3) := by decide +kernel
theorem dX11_newcomer_92 : decode cX11_newcomer 92 = .ok (.getfield 234, 3) := by decide +kernel
theorem dX11_newcomer_95 : decode cX11_newcomer 95 = .ok (.ireturn, 1) := by decide +kernel
theorem dX11_report_0 : decode cX11_report 0 = .ok (.aload_n 0, 1) := by decide +kernel
theorem dX11_report_1 : decode cX11_report 1 = .ok (.iload_n 1, 1) := by decide +kernel
theorem dX11_report_2 : decode cX11_report 2 = .ok (.invokevirtual 130, 3) := by decide +kernel
theorem dX11_report_5 : decode cX11_report 5 = .ok (.ifCond .eq 31, 3) := by decide +kernel
theorem dX11_report_8 : decode cX11_report 8 = .ok (.aload_n 0, 1) := by decide +kernel
theorem dX11_report_9 : decode cX11_report 9 = .ok (.iload_n 2, 1) := by decide +kernel
theorem dX11_report_10 : decode cX11_report 10 = .ok (.invokevirtual 167, 3) := by decide +kernel
theorem dX11_report_13 : decode cX11_report 13 = .ok (.ifCond .eq 23, 3) := by decide +kernel
theorem dX11_report_16 : decode cX11_report 16 = .ok (.aload_n 0, 1) := by decide +kernel
theorem dX11_report_17 : decode cX11_report 17 = .ok (.iload_n 3, 1) := by decide +kernel
theorem dX11_report_18 : decode cX11_report 18 = .ok (.invokevirtual 185, 3) := by decide +kernel
theorem dX11_report_21 : decode cX11_report 21 = .ok (.ifCond .eq 15, 3) := by decide +kernel
theorem dX11_report_24 : decode cX11_report 24 = .ok (.aload_n 0, 1) := by decide +kernel
theorem dX11_report_25 : decode cX11_report 25 = .ok (.getfield 67, 3) := by decide +kernel
theorem dX11_report_28 : decode cX11_report 28 = .ok (.getfield 237, 3) := by decide +kernel
theorem dX11_report_31 : decode cX11_report 31 = .ok (.bipush 16, 2) := by decide +kernel
theorem dX11_report_33 : decode cX11_report 33 = .ok (.if_icmp .ne 5, 3) := by decide +kernel
theorem dX11_report_36 : decode cX11_report 36 = .ok (.iconst (-1), 1) := by decide +kernel
theorem dX11_report_37 : decode cX11_report 37 = .ok (.ireturn, 1) := by decide +kernel
theorem dX11_report_38 : decode cX11_report 38 = .ok (.aload_n 0, 1) := by decide +kernel
theorem dX11_report_39 : decode cX11_report 39 = .ok (.getfield 67, 3) := by decide +kernel
theorem dX11_report_42 : decode cX11_report 42 = .ok (.iload_n 1, 1) := by decide +kernel
theorem dX11_report_43 : decode cX11_report 43 = .ok (.iload_n 2, 1) := by decide +kernel
theorem dX11_report_44 : decode cX11_report 44 = .ok (.iload_n 3, 1) := by decide +kernel
theorem dX11_report_45 : decode cX11_report 45 = .ok (.iload 4, 2) := by decide +kernel
theorem dX11_report_47 : decode cX11_report 47 = .ok (.invokevirtual 240, 3) := by decide +kernel
theorem dX11_report_50 : decode cX11_report 50 = .ok (.aload_n 0, 1) := by decide +kernel
theorem dX11_report_51 : decode cX11_report 51 = .ok (.getfield 81, 3) := by decide +kernel
theorem dX11_report_54 : decode cX11_report 54 = .ok (.invokevirtual 127, 3) := by decide +kernel
theorem dX11_report_57 : decode cX11_report 57 = .ok (.aload_n 0, 1) := by decide +kernel
theorem dX11_report_58 : decode cX11_report 58 = .ok (.getfield 67, 3) := by decide +kernel
theorem dX11_report_61 : decode cX11_report 61 = .ok (.getfield 237, 3) := by decide +kernel
theorem dX11_report_64 : decode cX11_report 64 = .ok (.ireturn, 1) := by decide +kernel
theorem dX11_clear_0 : decode cX11_clear 0 = .ok (.aload_n 0, 1) := by decide +kernel
theorem dX11_clear_1 : decode cX11_clear 1 = .ok (.getfield 67, 3) := by decide +kernel
theorem dX11_clear_4 : decode cX11_clear 4 = .ok (.invokevirtual 113, 3) := by decide +kernel
theorem dX11_clear_7 : decode cX11_clear 7 = .ok (.aload_n 0, 1) := by decide +kernel
theorem dX11_clear_8 : decode cX11_clear 8 = .ok (.getfield 81, 3) := by decide +kernel
theorem dX11_clear_11 : decode cX11_clear 11 = .ok (.invokevirtual 127, 3) := by decide +kernel
theorem dX11_clear_14 : decode cX11_clear 14 = .ok (.iconst 1, 1) := by decide +kernel
theorem dX11_clear_15 : decode cX11_clear 15 = .ok (.ireturn, 1) := by decide +kernel
theorem dX11_holds_0 : decode cX11_holds 0 = .ok (.aload_n 0, 1) := by decide +kernel
theorem dX11_holds_1 : decode cX11_holds 1 = .ok (.invokevirtual 170, 3) := by decide +kernel
theorem dX11_holds_4 : decode cX11_holds 4 = .ok (.iconst 0, 1) := by decide +kernel
theorem dX11_holds_5 : decode cX11_holds 5 = .ok (.istore_n 1, 1) := by decide +kernel
theorem dX11_holds_6 : decode cX11_holds 6 = .ok (.iload_n 1, 1) := by decide +kernel
theorem dX11_holds_7 : decode cX11_holds 7 = .ok (.aload_n 0, 1) := by decide +kernel
theorem dX11_holds_8 : decode cX11_holds 8 = .ok (.getfield 19, 3) := by decide +kernel
theorem dX11_holds_11 : decode cX11_holds 11 = .ok (.getfield 244, 3) := by decide +kernel
theorem dX11_holds_14 : decode cX11_holds 14 = .ok (.if_icmp .ge 28, 3) := by decide +kernel
theorem dX11_holds_17 : decode cX11_holds 17 = .ok (.aload_n 0, 1) := by decide +kernel
theorem dX11_holds_18 : decode cX11_holds 18 = .ok (.getfield 67, 3) := by decide +kernel
theorem dX11_holds_21 : decode cX11_holds 21 = .ok (.iload_n 1, 1) := by decide +kernel
theorem dX11_holds_22 : decode cX11_holds 22 = .ok (.aload_n 0, 1) := by decide +kernel
theorem dX11_holds_23 : decode cX11_holds 23 = .ok (.getfield 34, 3) := by decide +kernel
theorem dX11_holds_26 : decode cX11_holds 26 = .ok (.iload_n 1, 1) := by decide +kernel
theorem dX11_holds_27 : decode cX11_holds 27 = .ok (.aaload, 1) := by decide +kernel
theorem dX11_holds_28 : decode cX11_holds 28 = .ok (.invokevirtual 247, 3) := by decide +kernel
theorem dX11_holds_31 : decode cX11_holds 31 = .ok (.ifCond .ne 5, 3) := by decide +kernel
theorem dX11_holds_34 : decode cX11_holds 34 = .ok (.iconst 0, 1) := by decide +kernel
theorem dX11_holds_35 : decode cX11_holds 35 = .ok (.ireturn, 1) := by decide +kernel
theorem dX11_holds_36 : decode cX11_holds 36 = .ok (.iinc 1 1, 3) := by decide +kernel
theorem dX11_holds_39 : decode cX11_holds 39 = .ok (.goto (-33), 3) := by decide +kernel
theorem dX11_holds_42 : decode cX11_holds 42 = .ok (.iconst 1, 1) := by decide +kernel
theorem dX11_holds_43 : decode cX11_holds 43 = .ok (.ireturn, 1) := by decide +kernel
theorem dX11_began_0 : decode cX11_began 0 = .ok (.aload_n 0, 1) := by decide +kernel
theorem dX11_began_1 : decode cX11_began 1 = .ok (.iload_n 1, 1) := by decide +kernel
theorem dX11_began_2 : decode cX11_began 2 = .ok (.invokevirtual 167, 3) := by decide +kernel
theorem dX11_began_5 : decode cX11_began 5 = .ok (.ifCond .ne 5, 3) := by decide +kernel
theorem dX11_began_8 : decode cX11_began 8 = .ok (.iconst (-1), 1) := by decide +kernel
theorem dX11_began_9 : decode cX11_began 9 = .ok (.ireturn, 1) := by decide +kernel
theorem dX11_began_10 : decode cX11_began 10 = .ok (.aload_n 0, 1) := by decide +kernel
theorem dX11_began_11 : decode cX11_began 11 = .ok (.invokevirtual 170, 3) := by decide +kernel
theorem dX11_began_14 : decode cX11_began 14 = .ok (.aload_n 0, 1) := by decide +kernel
theorem dX11_began_15 : decode cX11_began 15 = .ok (.getfield 67, 3) := by decide +kernel
theorem dX11_began_18 : decode cX11_began 18 = .ok (.iload_n 1, 1) := by decide +kernel
theorem dX11_began_19 : decode cX11_began 19 = .ok (.invokevirtual 251, 3) := by decide +kernel
theorem dX11_began_22 : decode cX11_began 22 = .ok (.istore_n 2, 1) := by decide +kernel
theorem dX11_began_23 : decode cX11_began 23 = .ok (.iconst 0, 1) := by decide +kernel
theorem dX11_began_24 : decode cX11_began 24 = .ok (.istore_n 3, 1) := by decide +kernel
theorem dX11_began_25 : decode cX11_began 25 = .ok (.iconst 0, 1) := by decide +kernel
theorem dX11_began_26 : decode cX11_began 26 = .ok (.istore 4, 2) := by decide +kernel
theorem dX11_began_28 : decode cX11_began 28 = .ok (.iload 4, 2) := by decide +kernel
theorem dX11_began_30 : decode cX11_began 30 = .ok (.aload_n 0, 1) := by decide +kernel
theorem dX11_began_31 : decode cX11_began 31 = .ok (.getfield 19, 3) := by decide +kernel
theorem dX11_began_34 : decode cX11_began 34 = .ok (.getfield 195, 3) := by decide +kernel
theorem dX11_began_37 : decode cX11_began 37 = .ok (.if_icmp .ge 54, 3) := by decide +kernel
theorem dX11_began_40 : decode cX11_began 40 = .ok (.aload_n 0, 1) := by decide +kernel
theorem dX11_began_41 : decode cX11_began 41 = .ok (.getfield 39, 3) := by decide +kernel
theorem dX11_began_44 : decode cX11_began 44 = .ok (.aload_n 0, 1) := by decide +kernel
theorem dX11_began_45 : decode cX11_began 45 = .ok (.getfield 28, 3) := by decide +kernel
theorem dX11_began_48 : decode cX11_began 48 = .ok (.iload 4, 2) := by decide +kernel
theorem dX11_began_50 : decode cX11_began 50 = .ok (.aload_n 0, 1) := by decide +kernel
theorem dX11_began_51 : decode cX11_began 51 = .ok (.getfield 19, 3) := by decide +kernel
theorem dX11_began_54 : decode cX11_began 54 = .ok (.getfield 212, 3) := by decide +kernel
theorem dX11_began_57 : decode cX11_began 57 = .ok (.iload_n 1, 1) := by decide +kernel
theorem dX11_began_58 : decode cX11_began 58 = .ok (.iaload, 1) := by decide +kernel
theorem dX11_began_59 : decode cX11_began 59 = .ok (.iload_n 2, 1) := by decide +kernel
theorem dX11_began_60 : decode cX11_began 60 = .ok (.invokevirtual 254, 3) := by decide +kernel
theorem dX11_began_63 : decode cX11_began 63 = .ok (.aload_n 0, 1) := by decide +kernel
theorem dX11_began_64 : decode cX11_began 64 = .ok (.getfield 67, 3) := by decide +kernel
theorem dX11_began_67 : decode cX11_began 67 = .ok (.iload_n 1, 1) := by decide +kernel
theorem dX11_began_68 : decode cX11_began 68 = .ok (.aload_n 0, 1) := by decide +kernel
theorem dX11_began_69 : decode cX11_began 69 = .ok (.getfield 39, 3) := by decide +kernel
theorem dX11_began_72 : decode cX11_began 72 = .ok (.invokevirtual 247, 3) := by decide +kernel
theorem dX11_began_75 : decode cX11_began 75 = .ok (.ifCond .eq 10, 3) := by decide +kernel
theorem dX11_began_78 : decode cX11_began 78 = .ok (.iload_n 3, 1) := by decide +kernel
theorem dX11_began_79 : decode cX11_began 79 = .ok (.iconst 1, 1) := by decide +kernel
theorem dX11_began_80 : decode cX11_began 80 = .ok (.iload 4, 2) := by decide +kernel
theorem dX11_began_82 : decode cX11_began 82 = .ok (.ishl, 1) := by decide +kernel
theorem dX11_began_83 : decode cX11_began 83 = .ok (.ior, 1) := by decide +kernel
theorem dX11_began_84 : decode cX11_began 84 = .ok (.istore_n 3, 1) := by decide +kernel
theorem dX11_began_85 : decode cX11_began 85 = .ok (.iinc 4 1, 3) := by decide +kernel
theorem dX11_began_88 : decode cX11_began 88 = .ok (.goto (-60), 3) := by decide +kernel
theorem dX11_began_91 : decode cX11_began 91 = .ok (.iload_n 3, 1) := by decide +kernel
theorem dX11_began_92 : decode cX11_began 92 = .ok (.ireturn, 1) := by decide +kernel
theorem dX11_wrong_0 : decode cX11_wrong 0 = .ok (.iconst 0, 1) := by decide +kernel
theorem dX11_wrong_1 : decode cX11_wrong 1 = .ok (.istore_n 1, 1) := by decide +kernel
theorem dX11_wrong_2 : decode cX11_wrong 2 = .ok (.iconst 0, 1) := by decide +kernel
theorem dX11_wrong_3 : decode cX11_wrong 3 = .ok (.istore_n 2, 1) := by decide +kernel
theorem dX11_wrong_4 : decode cX11_wrong 4 = .ok (.iload_n 2, 1) := by decide +kernel
theorem dX11_wrong_5 : decode cX11_wrong 5 = .ok (.aload_n 0, 1) := by decide +kernel
theorem dX11_wrong_6 : decode cX11_wrong 6 = .ok (.getfield 19, 3) := by decide +kernel
theorem dX11_wrong_9 : decode cX11_wrong 9 = .ok (.getfield 195, 3) := by decide +kernel
theorem dX11_wrong_12 : decode cX11_wrong 12 = .ok (.if_icmp .ge 35, 3) := by decide +kernel
theorem dX11_wrong_15 : decode cX11_wrong 15 = .ok (.aload_n 0, 1) := by decide +kernel
theorem dX11_wrong_16 : decode cX11_wrong 16 = .ok (.getfield 81, 3) := by decide +kernel
theorem dX11_wrong_19 : decode cX11_wrong 19 = .ok (.aload_n 0, 1) := by decide +kernel
theorem dX11_wrong_20 : decode cX11_wrong 20 = .ok (.getfield 19, 3) := by decide +kernel
theorem dX11_wrong_23 : decode cX11_wrong 23 = .ok (.aload_n 0, 1) := by decide +kernel
theorem dX11_wrong_24 : decode cX11_wrong 24 = .ok (.getfield 67, 3) := by decide +kernel
theorem dX11_wrong_27 : decode cX11_wrong 27 = .ok (.iload_n 2, 1) := by decide +kernel
theorem dX11_wrong_28 : decode cX11_wrong 28 = .ok (.invokevirtual 258, 3) := by decide +kernel
theorem dX11_wrong_31 : decode cX11_wrong 31 = .ok (.iconst (-1), 1) := by decide +kernel
theorem dX11_wrong_32 : decode cX11_wrong 32 = .ok (.if_icmp .eq 9, 3) := by decide +kernel
theorem dX11_wrong_35 : decode cX11_wrong 35 = .ok (.iload_n 1, 1) := by decide +kernel
theorem dX11_wrong_36 : decode cX11_wrong 36 = .ok (.iconst 1, 1) := by decide +kernel
theorem dX11_wrong_37 : decode cX11_wrong 37 = .ok (.iload_n 2, 1) := by decide +kernel
theorem dX11_wrong_38 : decode cX11_wrong 38 = .ok (.ishl, 1) := by decide +kernel
theorem dX11_wrong_39 : decode cX11_wrong 39 = .ok (.ior, 1) := by decide +kernel
theorem dX11_wrong_40 : decode cX11_wrong 40 = .ok (.istore_n 1, 1) := by decide +kernel
theorem dX11_wrong_41 : decode cX11_wrong 41 = .ok (.iinc 2 1, 3) := by decide +kernel
theorem dX11_wrong_44 : decode cX11_wrong 44 = .ok (.goto (-40), 3) := by decide +kernel
theorem dX11_wrong_47 : decode cX11_wrong 47 = .ok (.iload_n 1, 1) := by decide +kernel
theorem dX11_wrong_48 : decode cX11_wrong 48 = .ok (.ireturn, 1) := by decide +kernel
theorem dX11_instead_0 : decode cX11_instead 0 = .ok (.aload_n 0, 1) := by decide +kernel
theorem dX11_instead_1 : decode cX11_instead 1 = .ok (.iload_n 1, 1) := by decide +kernel
theorem dX11_instead_2 : decode cX11_instead 2 = .ok (.invokevirtual 130, 3) := by decide +kernel
theorem dX11_instead_5 : decode cX11_instead 5 = .ok (.ifCond .eq 22, 3) := by decide +kernel
theorem dX11_instead_8 : decode cX11_instead 8 = .ok (.aload_n 0, 1) := by decide +kernel
theorem dX11_instead_9 : decode cX11_instead 9 = .ok (.getfield 81, 3) := by decide +kernel
theorem dX11_instead_12 : decode cX11_instead 12 = .ok (.aload_n 0, 1) := by decide +kernel
theorem dX11_instead_13 : decode cX11_instead 13 = .ok (.getfield 19, 3) := by decide +kernel
theorem dX11_instead_16 : decode cX11_instead 16 = .ok (.aload_n 0, 1) := by decide +kernel
theorem dX11_instead_17 : decode cX11_instead 17 = .ok (.getfield 67, 3) := by decide +kernel
theorem dX11_instead_20 : decode cX11_instead 20 = .ok (.iload_n 1, 1) := by decide +kernel
theorem dX11_instead_21 : decode cX11_instead 21 = .ok (.invokevirtual 258, 3) := by decide +kernel
theorem dX11_instead_24 : decode cX11_instead 24 = .ok (.goto 4, 3) := by decide +kernel
theorem dX11_instead_27 : decode cX11_instead 27 = .ok (.iconst (-1), 1) := by decide +kernel
theorem dX11_instead_28 : decode cX11_instead 28 = .ok (.ireturn, 1) := by decide +kernel
theorem dX11_runs_0 : decode cX11_runs 0 = .ok (.iload_n 1, 1) := by decide +kernel
theorem dX11_runs_1 : decode cX11_runs 1 = .ok (.ifCond .lt 29, 3) := by decide +kernel
theorem dX11_runs_4 : decode cX11_runs 4 = .ok (.iload_n 1, 1) := by decide +kernel
theorem dX11_runs_5 : decode cX11_runs 5 = .ok (.sipush 9999, 3) := by decide +kernel
theorem dX11_runs_8 : decode cX11_runs 8 = .ok (.if_icmp .gt 22, 3) := by decide +kernel
theorem dX11_runs_11 : decode cX11_runs 11 = .ok (.iload_n 2, 1) := by decide +kernel
theorem dX11_runs_12 : decode cX11_runs 12 = .ok (.iconst 1, 1) := by decide +kernel
theorem dX11_runs_13 : decode cX11_runs 13 = .ok (.if_icmp .lt 17, 3) := by decide +kernel
theorem dX11_runs_16 : decode cX11_runs 16 = .ok (.iload_n 2, 1) := by decide +kernel
theorem dX11_runs_17 : decode cX11_runs 17 = .ok (.bipush 20, 2) := by decide +kernel
theorem dX11_runs_19 : decode cX11_runs 19 = .ok (.if_icmp .gt 11, 3) := by decide +kernel
theorem dX11_runs_22 : decode cX11_runs 22 = .ok (.iload 6, 2) := by decide +kernel
theorem dX11_runs_24 : decode cX11_runs 24 = .ok (.invokestatic 224, 3) := by decide +kernel
theorem dX11_runs_27 : decode cX11_runs 27 = .ok (.ifCond .ne 5, 3) := by decide +kernel
theorem dX11_runs_30 : decode cX11_runs 30 = .ok (.iconst (-1), 1) := by decide +kernel
theorem dX11_runs_31 : decode cX11_runs 31 = .ok (.ireturn, 1) := by decide +kernel
theorem dX11_runs_32 : decode cX11_runs 32 = .ok (.aload_n 0, 1) := by decide +kernel
theorem dX11_runs_33 : decode cX11_runs 33 = .ok (.iload_n 3, 1) := by decide +kernel
theorem dX11_runs_34 : decode cX11_runs 34 = .ok (.invokevirtual 167, 3) := by decide +kernel
theorem dX11_runs_37 : decode cX11_runs 37 = .ok (.ifCond .eq 21, 3) := by decide +kernel
theorem dX11_runs_40 : decode cX11_runs 40 = .ok (.aload_n 0, 1) := by decide +kernel
theorem dX11_runs_41 : decode cX11_runs 41 = .ok (.iload 4, 2) := by decide +kernel
theorem dX11_runs_43 : decode cX11_runs 43 = .ok (.invokevirtual 130, 3) := by decide +kernel
theorem dX11_runs_46 : decode cX11_runs 46 = .ok (.ifCond .eq 12, 3) := by decide +kernel
theorem dX11_runs_49 : decode cX11_runs 49 = .ok (.aload_n 0, 1) := by decide +kernel
theorem dX11_runs_50 : decode cX11_runs 50 = .ok (.iload 5, 2) := by decide +kernel
theorem dX11_runs_52 : decode cX11_runs 52 = .ok (.invokevirtual 185, 3) := by decide +kernel
theorem dX11_runs_55 : decode cX11_runs 55 = .ok (.ifCond .ne 5, 3) := by decide +kernel
theorem dX11_runs_58 : decode cX11_runs 58 = .ok (.iconst (-1), 1) := by decide +kernel
theorem dX11_runs_59 : decode cX11_runs 59 = .ok (.ireturn, 1) := by decide +kernel
theorem dX11_runs_60 : decode cX11_runs 60 = .ok (.aload_n 0, 1) := by decide +kernel
theorem dX11_runs_61 : decode cX11_runs 61 = .ok (.invokevirtual 170, 3) := by decide +kernel
theorem dX11_runs_64 : decode cX11_runs 64 = .ok (.aload_n 0, 1) := by decide +kernel
theorem dX11_runs_65 : decode cX11_runs 65 = .ok (.getfield 60, 3) := by decide +kernel
theorem dX11_runs_68 : decode cX11_runs 68 = .ok (.iload_n 1, 1) := by decide +kernel
theorem dX11_runs_69 : decode cX11_runs 69 = .ok (.invokevirtual 262, 3) := by decide +kernel
theorem dX11_runs_72 : decode cX11_runs 72 = .ok (.iconst 0, 1) := by decide +kernel
theorem dX11_runs_73 : decode cX11_runs 73 = .ok (.istore 7, 2) := by decide +kernel
theorem dX11_runs_75 : decode cX11_runs 75 = .ok (.iconst 0, 1) := by decide +kernel
theorem dX11_runs_76 : decode cX11_runs 76 = .ok (.istore 8, 2) := by decide +kernel
theorem dX11_runs_78 : decode cX11_runs 78 = .ok (.iconst 0, 1) := by decide +kernel
theorem dX11_runs_79 : decode cX11_runs 79 = .ok (.istore 9, 2) := by decide +kernel
theorem dX11_runs_81 : decode cX11_runs 81 = .ok (.iload 9, 2) := by decide +kernel
theorem dX11_runs_83 : decode cX11_runs 83 = .ok (.iload_n 2, 1) := by decide +kernel
theorem dX11_runs_84 : decode cX11_runs 84 = .ok (.if_icmp .ge 60, 3) := by decide +kernel
theorem dX11_runs_87 : decode cX11_runs 87 = .ok (.aload_n 0, 1) := by decide +kernel
theorem dX11_runs_88 : decode cX11_runs 88 = .ok (.getfield 60, 3) := by decide +kernel
theorem dX11_runs_91 : decode cX11_runs 91 = .ok (.aload_n 0, 1) := by decide +kernel
theorem dX11_runs_92 : decode cX11_runs 92 = .ok (.getfield 19, 3) := by decide +kernel
theorem dX11_runs_95 : decode cX11_runs 95 = .ok (.aload_n 0, 1) := by decide +kernel
theorem dX11_runs_96 : decode cX11_runs 96 = .ok (.getfield 28, 3) := by decide +kernel
theorem dX11_runs_99 : decode cX11_runs 99 = .ok (.iload_n 3, 1) := by decide +kernel
theorem dX11_runs_100 : decode cX11_runs 100 = .ok (.aload_n 0, 1) := by decide +kernel
theorem dX11_runs_101 : decode cX11_runs 101 = .ok (.getfield 39, 3) := by decide +kernel
theorem dX11_runs_104 : decode cX11_runs 104 = .ok (.invokevirtual 265, 3) := by decide +kernel
theorem dX11_runs_107 : decode cX11_runs 107 = .ok (.aload_n 0, 1) := by decide +kernel
theorem dX11_runs_108 : decode cX11_runs 108 = .ok (.getfield 39, 3) := by decide +kernel
theorem dX11_runs_111 : decode cX11_runs 111 = .ok (.iload 4, 2) := by decide +kernel
theorem dX11_runs_113 : decode cX11_runs 113 = .ok (.iload 5, 2) := by decide +kernel
theorem dX11_runs_115 : decode cX11_runs 115 = .ok (.invokevirtual 203, 3) := by decide +kernel
theorem dX11_runs_118 : decode cX11_runs 118 = .ok (.ifCond .eq 20, 3) := by decide +kernel
theorem dX11_runs_121 : decode cX11_runs 121 = .ok (.iinc 7 1, 3) := by decide +kernel
theorem dX11_runs_124 : decode cX11_runs 124 = .ok (.iload 8, 2) := by decide +kernel
theorem dX11_runs_126 : decode cX11_runs 126 = .ok (.aload_n 0, 1) := by decide +kernel
theorem dX11_runs_127 : decode cX11_runs 127 = .ok (.getfield 39, 3) := by decide +kernel
theorem dX11_runs_130 : decode cX11_runs 130 = .ok (.iload 4, 2) := by decide +kernel
theorem dX11_runs_132 : decode cX11_runs 132 = .ok (.invokevirtual 173, 3) := by decide +kernel
theorem dX11_runs_135 : decode cX11_runs 135 = .ok (.iadd, 1) := by decide +kernel
theorem dX11_runs_136 : decode cX11_runs 136 = .ok (.istore 8, 2) := by decide +kernel
theorem dX11_runs_138 : decode cX11_runs 138 = .ok (.iinc 9 1, 3) := by decide +kernel
theorem dX11_runs_141 : decode cX11_runs 141 = .ok (.goto (-60), 3) := by decide +kernel
theorem dX11_runs_144 : decode cX11_runs 144 = .ok (.iload 6, 2) := by decide +kernel
theorem dX11_runs_146 : decode cX11_runs 146 = .ok (.ifCond .ne 8, 3) := by decide +kernel
theorem dX11_runs_149 : decode cX11_runs 149 = .ok (.iload 7, 2) := by decide +kernel
theorem dX11_runs_151 : decode cX11_runs 151 = .ok (.goto 5, 3) := by decide +kernel
theorem dX11_runs_154 : decode cX11_runs 154 = .ok (.iload 8, 2) := by decide +kernel
theorem dX11_runs_156 : decode cX11_runs 156 = .ok (.ireturn, 1) := by decide +kernel
theorem dX11_mark_0 : decode cX11_mark 0 = .ok (.iload_n 1, 1) := by decide +kernel
theorem dX11_mark_1 : decode cX11_mark 1 = .ok (.ifCond .lt 8, 3) := by decide +kernel
theorem dX11_mark_4 : decode cX11_mark 4 = .ok (.iload_n 1, 1) := by decide +kernel
theorem dX11_mark_5 : decode cX11_mark 5 = .ok (.iconst 4, 1) := by decide +kernel
theorem dX11_mark_6 : decode cX11_mark 6 = .ok (.if_icmp .lt 5, 3) := by decide +kernel
theorem dX11_mark_9 : decode cX11_mark 9 = .ok (.iconst 0, 1) := by decide +kernel
theorem dX11_mark_10 : decode cX11_mark 10 = .ok (.ireturn, 1) := by decide +kernel
theorem dX11_mark_11 : decode cX11_mark 11 = .ok (.iload_n 2, 1) := by decide +kernel
theorem dX11_mark_12 : decode cX11_mark 12 = .ok (.ifCond .ne 21, 3) := by decide +kernel
theorem dX11_mark_15 : decode cX11_mark 15 = .ok (.aload_n 0, 1) := by decide +kernel
theorem dX11_mark_16 : decode cX11_mark 16 = .ok (.getfield 74, 3) := by decide +kernel
theorem dX11_mark_19 : decode cX11_mark 19 = .ok (.iload_n 1, 1) := by decide +kernel
theorem dX11_mark_20 : decode cX11_mark 20 = .ok (.aload_n 0, 1) := by decide +kernel
theorem dX11_mark_21 : decode cX11_mark 21 = .ok (.getfield 19, 3) := by decide +kernel
theorem dX11_mark_24 : decode cX11_mark 24 = .ok (.aload_n 0, 1) := by decide +kernel
theorem dX11_mark_25 : decode cX11_mark 25 = .ok (.getfield 67, 3) := by decide +kernel
theorem dX11_mark_28 : decode cX11_mark 28 = .ok (.invokevirtual 269, 3) := by decide +kernel
theorem dX11_mark_31 : decode cX11_mark 31 = .ok (.iconst 1, 1) := by decide +kernel
theorem dX11_mark_32 : decode cX11_mark 32 = .ok (.ireturn, 1) := by decide +kernel
theorem dX11_mark_33 : decode cX11_mark 33 = .ok (.aload_n 0, 1) := by decide +kernel
theorem dX11_mark_34 : decode cX11_mark 34 = .ok (.getfield 74, 3) := by decide +kernel
theorem dX11_mark_37 : decode cX11_mark 37 = .ok (.getfield 273, 3) := by decide +kernel
theorem dX11_mark_40 : decode cX11_mark 40 = .ok (.iload_n 1, 1) := by decide +kernel
theorem dX11_mark_41 : decode cX11_mark 41 = .ok (.baload, 1) := by decide +kernel
theorem dX11_mark_42 : decode cX11_mark 42 = .ok (.ifCond .ne 5, 3) := by decide +kernel
theorem dX11_mark_45 : decode cX11_mark 45 = .ok (.iconst 0, 1) := by decide +kernel
theorem dX11_mark_46 : decode cX11_mark 46 = .ok (.ireturn, 1) := by decide +kernel
theorem dX11_mark_47 : decode cX11_mark 47 = .ok (.aload_n 0, 1) := by decide +kernel
theorem dX11_mark_48 : decode cX11_mark 48 = .ok (.getfield 74, 3) := by decide +kernel
theorem dX11_mark_51 : decode cX11_mark 51 = .ok (.iload_n 1, 1) := by decide +kernel
theorem dX11_mark_52 : decode cX11_mark 52 = .ok (.aload_n 0, 1) := by decide +kernel
theorem dX11_mark_53 : decode cX11_mark 53 = .ok (.getfield 19, 3) := by decide +kernel
theorem dX11_mark_56 : decode cX11_mark 56 = .ok (.aload_n 0, 1) := by decide +kernel
theorem dX11_mark_57 : decode cX11_mark 57 = .ok (.getfield 67, 3) := by decide +kernel
theorem dX11_mark_60 : decode cX11_mark 60 = .ok (.invokevirtual 277, 3) := by decide +kernel
theorem dX11_mark_63 : decode cX11_mark 63 = .ok (.aload_n 0, 1) := by decide +kernel
theorem dX11_mark_64 : decode cX11_mark 64 = .ok (.invokevirtual 117, 3) := by decide +kernel
theorem dX11_mark_67 : decode cX11_mark 67 = .ok (.iconst 1, 1) := by decide +kernel
theorem dX11_mark_68 : decode cX11_mark 68 = .ok (.ireturn, 1) := by decide +kernel
theorem dX11_count_0 : decode cX11_count 0 = .ok (.iload_n 1, 1) := by decide +kernel
theorem dX11_count_1 : decode cX11_count 1 = .ok (.tableswitch 122 0 7 #[47, 55, 63, 71, 79, 87, 103, 111], 47) := by decide +kernel
theorem dX11_count_48 : decode cX11_count 48 = .ok (.aload_n 0, 1) := by decide +kernel
theorem dX11_count_49 : decode cX11_count 49 = .ok (.getfield 19, 3) := by decide +kernel
theorem dX11_count_52 : decode cX11_count 52 = .ok (.getfield 195, 3) := by decide +kernel
theorem dX11_count_55 : decode cX11_count 55 = .ok (.ireturn, 1) := by decide +kernel
theorem dX11_count_56 : decode cX11_count 56 = .ok (.aload_n 0, 1) := by decide +kernel
theorem dX11_count_57 : decode cX11_count 57 = .ok (.getfield 19, 3) := by decide +kernel
theorem dX11_count_60 : decode cX11_count 60 = .ok (.getfield 244, 3) := by decide +kernel
theorem dX11_count_63 : decode cX11_count 63 = .ok (.ireturn, 1) := by decide +kernel
theorem dX11_count_64 : decode cX11_count 64 = .ok (.aload_n 0, 1) := by decide +kernel
theorem dX11_count_65 : decode cX11_count 65 = .ok (.getfield 19, 3) := by decide +kernel
theorem dX11_count_68 : decode cX11_count 68 = .ok (.getfield 280, 3) := by decide +kernel
theorem dX11_count_71 : decode cX11_count 71 = .ok (.ireturn, 1) := by decide +kernel
theorem dX11_count_72 : decode cX11_count 72 = .ok (.aload_n 0, 1) := by decide +kernel
theorem dX11_count_73 : decode cX11_count 73 = .ok (.getfield 19, 3) := by decide +kernel
theorem dX11_count_76 : decode cX11_count 76 = .ok (.getfield 283, 3) := by decide +kernel
theorem dX11_count_79 : decode cX11_count 79 = .ok (.ireturn, 1) := by decide +kernel
theorem dX11_count_80 : decode cX11_count 80 = .ok (.aload_n 0, 1) := by decide +kernel
theorem dX11_count_81 : decode cX11_count 81 = .ok (.getfield 19, 3) := by decide +kernel
theorem dX11_count_84 : decode cX11_count 84 = .ok (.getfield 286, 3) := by decide +kernel
theorem dX11_count_87 : decode cX11_count 87 = .ok (.ireturn, 1) := by decide +kernel
theorem dX11_count_88 : decode cX11_count 88 = .ok (.aload_n 0, 1) := by decide +kernel
theorem dX11_count_89 : decode cX11_count 89 = .ok (.getfield 19, 3) := by decide +kernel
theorem dX11_count_92 : decode cX11_count 92 = .ok (.getfield 120, 3) := by decide +kernel
theorem dX11_count_95 : decode cX11_count 95 = .ok (.ifCond .eq 7, 3) := by decide +kernel
theorem dX11_count_98 : decode cX11_count 98 = .ok (.iconst 1, 1) := by decide +kernel
theorem dX11_count_99 : decode cX11_count 99 = .ok (.goto 4, 3) := by decide +kernel
theorem dX11_count_102 : decode cX11_count 102 = .ok (.iconst 0, 1) := by decide +kernel
theorem dX11_count_103 : decode cX11_count 103 = .ok (.ireturn, 1) := by decide +kernel
theorem dX11_count_104 : decode cX11_count 104 = .ok (.aload_n 0, 1) := by decide +kernel
theorem dX11_count_105 : decode cX11_count 105 = .ok (.getfield 67, 3) := by decide +kernel
theorem dX11_count_108 : decode cX11_count 108 = .ok (.getfield 237, 3) := by decide +kernel
theorem dX11_count_111 : decode cX11_count 111 = .ok (.ireturn, 1) := by decide +kernel
theorem dX11_count_112 : decode cX11_count 112 = .ok (.aload_n 0, 1) := by decide +kernel
theorem dX11_count_113 : decode cX11_count 113 = .ok (.getfield 12, 3) := by decide +kernel
theorem dX11_count_116 : decode cX11_count 116 = .ok (.getfield 89, 3) := by decide +kernel
theorem dX11_count_119 : decode cX11_count 119 = .ok (.getfield 93, 3) := by decide +kernel
theorem dX11_count_122 : decode cX11_count 122 = .ok (.ireturn, 1) := by decide +kernel
theorem dX11_count_123 : decode cX11_count 123 = .ok (.iconst (-1), 1) := by decide +kernel
theorem dX11_count_124 : decode cX11_count 124 = .ok (.ireturn, 1) := by decide +kernel
theorem dX11_bringUpToDate_0 : decode cX11_bringUpToDate 0 = .ok (.aload_n 0, 1) := by decide +kernel
theorem dX11_bringUpToDate_1 : decode cX11_bringUpToDate 1 = .ok (.getfield 124, 3) := by decide +kernel
theorem dX11_bringUpToDate_4 : decode cX11_bringUpToDate 4 = .ok (.ifCond .eq 4, 3) := by decide +kernel
theorem dX11_bringUpToDate_7 : decode cX11_bringUpToDate 7 = .ok (.return_, 1) := by decide +kernel
theorem dX11_bringUpToDate_8 : decode cX11_bringUpToDate 8 = .ok (.aload_n 0, 1) := by decide +kernel
theorem dX11_bringUpToDate_9 : decode cX11_bringUpToDate 9 = .ok (.getfield 28, 3) := by decide +kernel
theorem dX11_bringUpToDate_12 : decode cX11_bringUpToDate 12 = .ok (.aload_n 0, 1) := by decide +kernel
theorem dX11_bringUpToDate_13 : decode cX11_bringUpToDate 13 = .ok (.getfield 19, 3) := by decide +kernel
theorem dX11_bringUpToDate_16 : decode cX11_bringUpToDate 16 = .ok (.invokevirtual 289, 3) := by decide +kernel
theorem dX11_bringUpToDate_19 : decode cX11_bringUpToDate 19 = .ok (.iconst 0, 1) := by decide +kernel
theorem dX11_bringUpToDate_20 : decode cX11_bringUpToDate 20 = .ok (.istore_n 1, 1) := by decide +kernel
theorem dX11_bringUpToDate_21 : decode cX11_bringUpToDate 21 = .ok (.iload_n 1, 1) := by decide +kernel
theorem dX11_bringUpToDate_22 : decode cX11_bringUpToDate 22 = .ok (.aload_n 0, 1) := by decide +kernel
theorem dX11_bringUpToDate_23 : decode cX11_bringUpToDate 23 = .ok (.getfield 19, 3) := by decide +kernel
theorem dX11_bringUpToDate_26 : decode cX11_bringUpToDate 26 = .ok (.getfield 244, 3) := by decide +kernel
theorem dX11_bringUpToDate_29 : decode cX11_bringUpToDate 29 = .ok (.if_icmp .ge 56, 3) := by decide +kernel
theorem dX11_bringUpToDate_32 : decode cX11_bringUpToDate 32 = .ok (.aload_n 0, 1) := by decide +kernel
theorem dX11_bringUpToDate_33 : decode cX11_bringUpToDate 33 = .ok (.getfield 34, 3) := by decide +kernel
theorem dX11_bringUpToDate_36 : decode cX11_bringUpToDate 36 = .ok (.iload_n 1, 1) := by decide +kernel
theorem dX11_bringUpToDate_37 : decode cX11_bringUpToDate 37 = .ok (.aaload, 1) := by decide +kernel
theorem dX11_bringUpToDate_38 : decode cX11_bringUpToDate 38 = .ok (.aload_n 0, 1) := by decide +kernel
theorem dX11_bringUpToDate_39 : decode cX11_bringUpToDate 39 = .ok (.getfield 28, 3) := by decide +kernel
theorem dX11_bringUpToDate_42 : decode cX11_bringUpToDate 42 = .ok (.aload_n 0, 1) := by decide +kernel
theorem dX11_bringUpToDate_43 : decode cX11_bringUpToDate 43 = .ok (.getfield 19, 3) := by decide +kernel
theorem dX11_bringUpToDate_46 : decode cX11_bringUpToDate 46 = .ok (.getfield 209, 3) := by decide +kernel
theorem dX11_bringUpToDate_49 : decode cX11_bringUpToDate 49 = .ok (.iload_n 1, 1) := by decide +kernel
theorem dX11_bringUpToDate_50 : decode cX11_bringUpToDate 50 = .ok (.iaload, 1) := by decide +kernel
theorem dX11_bringUpToDate_51 : decode cX11_bringUpToDate 51 = .ok (.aload_n 0, 1) := by decide +kernel
theorem dX11_bringUpToDate_52 : decode cX11_bringUpToDate 52 = .ok (.getfield 19, 3) := by decide +kernel
theorem dX11_bringUpToDate_55 : decode cX11_bringUpToDate 55 = .ok (.getfield 212, 3) := by decide +kernel
theorem dX11_bringUpToDate_58 : decode cX11_bringUpToDate 58 = .ok (.iload_n 1, 1) := by decide +kernel
theorem dX11_bringUpToDate_59 : decode cX11_bringUpToDate 59 = .ok (.iaload, 1) := by decide +kernel
theorem dX11_bringUpToDate_60 : decode cX11_bringUpToDate 60 = .ok (.sipush 4391, 3) := by decide +kernel
theorem dX11_bringUpToDate_63 : decode cX11_bringUpToDate 63 = .ok (.invokevirtual 254, 3) := by decide +kernel
theorem dX11_bringUpToDate_66 : decode cX11_bringUpToDate 66 = .ok (.aload_n 0, 1) := by decide +kernel
theorem dX11_bringUpToDate_67 : decode cX11_bringUpToDate 67 = .ok (.getfield 34, 3) := by decide +kernel
theorem dX11_bringUpToDate_70 : decode cX11_bringUpToDate 70 = .ok (.iload_n 1, 1) := by decide +kernel
theorem dX11_bringUpToDate_71 : decode cX11_bringUpToDate 71 = .ok (.aaload, 1) := by decide +kernel
theorem dX11_bringUpToDate_72 : decode cX11_bringUpToDate 72 = .ok (.aload_n 0, 1) := by decide +kernel
theorem dX11_bringUpToDate_73 : decode cX11_bringUpToDate 73 = .ok (.getfield 28, 3) := by decide +kernel
theorem dX11_bringUpToDate_76 : decode cX11_bringUpToDate 76 = .ok (.invokevirtual 292, 3) := by decide +kernel
theorem dX11_bringUpToDate_79 : decode cX11_bringUpToDate 79 = .ok (.iinc 1 1, 3) := by decide +kernel
theorem dX11_bringUpToDate_82 : decode cX11_bringUpToDate 82 = .ok (.goto (-61), 3) := by decide +kernel
theorem dX11_bringUpToDate_85 : decode cX11_bringUpToDate 85 = .ok (.aload_n 0, 1) := by decide +kernel
theorem dX11_bringUpToDate_86 : decode cX11_bringUpToDate 86 = .ok (.iconst 1, 1) := by decide +kernel
theorem dX11_bringUpToDate_87 : decode cX11_bringUpToDate 87 = .ok (.putfield 124, 3) := by decide +kernel
theorem dX11_bringUpToDate_90 : decode cX11_bringUpToDate 90 = .ok (.return_, 1) := by decide +kernel
theorem dX11_isPerson_0 : decode cX11_isPerson 0 = .ok (.iload_n 1, 1) := by decide +kernel
theorem dX11_isPerson_1 : decode cX11_isPerson 1 = .ok (.ifCond .lt 18, 3) := by decide +kernel
theorem dX11_isPerson_4 : decode cX11_isPerson 4 = .ok (.iload_n 1, 1) := by decide +kernel
theorem dX11_isPerson_5 : decode cX11_isPerson 5 = .ok (.aload_n 0, 1) := by decide +kernel
theorem dX11_isPerson_6 : decode cX11_isPerson 6 = .ok (.getfield 19, 3) := by decide +kernel
theorem dX11_isPerson_9 : decode cX11_isPerson 9 = .ok (.getfield 195, 3) := by decide +kernel
theorem dX11_isPerson_12 : decode cX11_isPerson 12 = .ok (.if_icmp .ge 7, 3) := by decide +kernel
theorem dX11_isPerson_15 : decode cX11_isPerson 15 = .ok (.iconst 1, 1) := by decide +kernel
theorem dX11_isPerson_16 : decode cX11_isPerson 16 = .ok (.goto 4, 3) := by decide +kernel
theorem dX11_isPerson_19 : decode cX11_isPerson 19 = .ok (.iconst 0, 1) := by decide +kernel
theorem dX11_isPerson_20 : decode cX11_isPerson 20 = .ok (.ireturn, 1) := by decide +kernel
theorem dX11_isSecret_0 : decode cX11_isSecret 0 = .ok (.iload_n 1, 1) := by decide +kernel
theorem dX11_isSecret_1 : decode cX11_isSecret 1 = .ok (.ifCond .lt 18, 3) := by decide +kernel
theorem dX11_isSecret_4 : decode cX11_isSecret 4 = .ok (.iload_n 1, 1) := by decide +kernel
theorem dX11_isSecret_5 : decode cX11_isSecret 5 = .ok (.aload_n 0, 1) := by decide +kernel
theorem dX11_isSecret_6 : decode cX11_isSecret 6 = .ok (.getfield 19, 3) := by decide +kernel
theorem dX11_isSecret_9 : decode cX11_isSecret 9 = .ok (.getfield 244, 3) := by decide +kernel
theorem dX11_isSecret_12 : decode cX11_isSecret 12 = .ok (.if_icmp .ge 7, 3) := by decide +kernel
theorem dX11_isSecret_15 : decode cX11_isSecret 15 = .ok (.iconst 1, 1) := by decide +kernel
theorem dX11_isSecret_16 : decode cX11_isSecret 16 = .ok (.goto 4, 3) := by decide +kernel
theorem dX11_isSecret_19 : decode cX11_isSecret 19 = .ok (.iconst 0, 1) := by decide +kernel
theorem dX11_isSecret_20 : decode cX11_isSecret 20 = .ok (.ireturn, 1) := by decide +kernel
theorem dX11_isDate_0 : decode cX11_isDate 0 = .ok (.iload_n 1, 1) := by decide +kernel
theorem dX11_isDate_1 : decode cX11_isDate 1 = .ok (.ifCond .lt 14, 3) := by decide +kernel
theorem dX11_isDate_4 : decode cX11_isDate 4 = .ok (.iload_n 1, 1) := by decide +kernel
theorem dX11_isDate_5 : decode cX11_isDate 5 = .ok (.sipush 4392, 3) := by decide +kernel
theorem dX11_isDate_8 : decode cX11_isDate 8 = .ok (.if_icmp .ge 7, 3) := by decide +kernel
theorem dX11_isDate_11 : decode cX11_isDate 11 = .ok (.iconst 1, 1) := by decide +kernel
theorem dX11_isDate_12 : decode cX11_isDate 12 = .ok (.goto 4, 3) := by decide +kernel
theorem dX11_isDate_15 : decode cX11_isDate 15 = .ok (.iconst 0, 1) := by decide +kernel
theorem dX11_isDate_16 : decode cX11_isDate 16 = .ok (.ireturn, 1) := by decide +kernel
theorem dX11_isThere_0 : decode cX11_isThere 0 = .ok (.aload_n 0, 1) := by decide +kernel
theorem dX11_isThere_1 : decode cX11_isThere 1 = .ok (.iload_n 1, 1) := by decide +kernel
theorem dX11_isThere_2 : decode cX11_isThere 2 = .ok (.invokevirtual 185, 3) := by decide +kernel
theorem dX11_isThere_5 : decode cX11_isThere 5 = .ok (.ifCond .eq 27, 3) := by decide +kernel
theorem dX11_isThere_8 : decode cX11_isThere 8 = .ok (.aload_n 0, 1) := by decide +kernel
theorem dX11_isThere_9 : decode cX11_isThere 9 = .ok (.getfield 19, 3) := by decide +kernel
theorem dX11_isThere_12 : decode cX11_isThere 12 = .ok (.iload_n 1, 1) := by decide +kernel
theorem dX11_isThere_13 : decode cX11_isThere 13 = .ok (.sipush 366, 3) := by decide +kernel
theorem dX11_isThere_16 : decode cX11_isThere 16 = .ok (.idiv, 1) := by decide +kernel
theorem dX11_isThere_17 : decode cX11_isThere 17 = .ok (.iload_n 1, 1) := by decide +kernel
theorem dX11_isThere_18 : decode cX11_isThere 18 = .ok (.sipush 366, 3) := by decide +kernel
theorem dX11_isThere_21 : decode cX11_isThere 21 = .ok (.irem, 1) := by decide +kernel
theorem dX11_isThere_22 : decode cX11_isThere 22 = .ok (.invokevirtual 150, 3) := by decide +kernel
theorem dX11_isThere_25 : decode cX11_isThere 25 = .ok (.ifCond .eq 7, 3) := by decide +kernel
theorem dX11_isThere_28 : decode cX11_isThere 28 = .ok (.iconst 1, 1) := by decide +kernel
theorem dX11_isThere_29 : decode cX11_isThere 29 = .ok (.goto 4, 3) := by decide +kernel
theorem dX11_isThere_32 : decode cX11_isThere 32 = .ok (.iconst 0, 1) := by decide +kernel
theorem dX11_isThere_33 : decode cX11_isThere 33 = .ok (.ireturn, 1) := by decide +kernel
theorem dX11_isSet_0 : decode cX11_isSet 0 = .ok (.iload_n 1, 1) := by decide +kernel
theorem dX11_isSet_1 : decode cX11_isSet 1 = .ok (.ifCond .lt 18, 3) := by decide +kernel
theorem dX11_isSet_4 : decode cX11_isSet 4 = .ok (.iload_n 1, 1) := by decide +kernel
theorem dX11_isSet_5 : decode cX11_isSet 5 = .ok (.aload_n 0, 1) := by decide +kernel
theorem dX11_isSet_6 : decode cX11_isSet 6 = .ok (.getfield 19, 3) := by decide +kernel
theorem dX11_isSet_9 : decode cX11_isSet 9 = .ok (.invokevirtual 188, 3) := by decide +kernel
theorem dX11_isSet_12 : decode cX11_isSet 12 = .ok (.if_icmp .gt 7, 3) := by decide +kernel
theorem dX11_isSet_15 : decode cX11_isSet 15 = .ok (.iconst 1, 1) := by decide +kernel
theorem dX11_isSet_16 : decode cX11_isSet 16 = .ok (.goto 4, 3) := by decide +kernel
theorem dX11_isSet_19 : decode cX11_isSet 19 = .ok (.iconst 0, 1) := by decide +kernel
theorem dX11_isSet_20 : decode cX11_isSet 20 = .ok (.ireturn, 1) := by decide +kernel
theorem dX11_isOneOfTwo_0 : decode cX11_isOneOfTwo 0 = .ok (.iload_n 0, 1) := by decide +kernel
theorem dX11_isOneOfTwo_1 : decode cX11_isOneOfTwo 1 = .ok (.ifCond .eq 8, 3) := by decide +kernel
theorem dX11_isOneOfTwo_4 : decode cX11_isOneOfTwo 4 = .ok (.iload_n 0, 1) := by decide +kernel
theorem dX11_isOneOfTwo_5 : decode cX11_isOneOfTwo 5 = .ok (.iconst 1, 1) := by decide +kernel
theorem dX11_isOneOfTwo_6 : decode cX11_isOneOfTwo 6 = .ok (.if_icmp .ne 7, 3) := by decide +kernel
theorem dX11_isOneOfTwo_9 : decode cX11_isOneOfTwo 9 = .ok (.iconst 1, 1) := by decide +kernel
theorem dX11_isOneOfTwo_10 : decode cX11_isOneOfTwo 10 = .ok (.goto 4, 3) := by decide +kernel
theorem dX11_isOneOfTwo_13 : decode cX11_isOneOfTwo 13 = .ok (.iconst 0, 1) := by decide +kernel
theorem dX11_isOneOfTwo_14 : decode cX11_isOneOfTwo 14 = .ok (.ireturn, 1) := by decide +kernel
theorem dX11_has_0 : decode cX11_has 0 = .ok (.iload_n 0, 1) := by decide +kernel
theorem dX11_has_1 : decode cX11_has 1 = .ok (.iload_n 1, 1) := by decide +kernel
theorem dX11_has_2 : decode cX11_has 2 = .ok (.ishr, 1) := by decide +kernel
theorem dX11_has_3 : decode cX11_has 3 = .ok (.iconst 1, 1) := by decide +kernel
theorem dX11_has_4 : decode cX11_has 4 = .ok (.iand, 1) := by decide +kernel
theorem dX11_has_5 : decode cX11_has 5 = .ok (.ifCond .eq 7, 3) := by decide +kernel
theorem dX11_has_8 : decode cX11_has 8 = .ok (.iconst 1, 1) := by decide +kernel
theorem dX11_has_9 : decode cX11_has 9 = .ok (.goto 4, 3) := by decide +kernel
theorem dX11_has_12 : decode cX11_has 12 = .ok (.iconst 0, 1) := by decide +kernel
theorem dX11_has_13 : decode cX11_has 13 = .ok (.ireturn, 1) := by decide +kernel
theorem dX12_feed_0 : decode cX12_feed 0 = .ok (.aload_n 0, 1) := by decide +kernel
theorem dX12_feed_1 : decode cX12_feed 1 = .ok (.iconst 0, 1) := by decide +kernel
theorem dX12_feed_2 : decode cX12_feed 2 = .ok (.putfield 1, 3) := by decide +kernel
theorem dX12_feed_5 : decode cX12_feed 5 = .ok (.aload_n 0, 1) := by decide +kernel
theorem dX12_feed_6 : decode cX12_feed 6 = .ok (.lload_n 1, 1) := by decide +kernel
theorem dX12_feed_7 : decode cX12_feed 7 = .ok (.invokevirtual 7, 3) := by decide +kernel
theorem dX12_feed_10 : decode cX12_feed 10 = .ok (.aload_n 0, 1) := by decide +kernel
theorem dX12_feed_11 : decode cX12_feed 11 = .ok (.lload_n 3, 1) := by decide +kernel
theorem dX12_feed_12 : decode cX12_feed 12 = .ok (.invokevirtual 7, 3) := by decide +kernel
theorem dX12_feed_15 : decode cX12_feed 15 = .ok (.aload_n 0, 1) := by decide +kernel
theorem dX12_feed_16 : decode cX12_feed 16 = .ok (.lload 5, 2) := by decide +kernel
theorem dX12_feed_18 : decode cX12_feed 18 = .ok (.invokevirtual 7, 3) := by decide +kernel
theorem dX12_feed_21 : decode cX12_feed 21 = .ok (.aload_n 0, 1) := by decide +kernel
theorem dX12_feed_22 : decode cX12_feed 22 = .ok (.getfield 11, 3) := by decide +kernel
theorem dX12_feed_25 : decode cX12_feed 25 = .ok (.ireturn, 1) := by decide +kernel
theorem dX12_lay_0 : decode cX12_lay 0 = .ok (.bipush 56, 2) := by decide +kernel
theorem dX12_lay_2 : decode cX12_lay 2 = .ok (.istore_n 3, 1) := by decide +kernel
theorem dX12_lay_3 : decode cX12_lay 3 = .ok (.iload_n 3, 1) := by decide +kernel
theorem dX12_lay_4 : decode cX12_lay 4 = .ok (.ifCond .lt 71, 3) := by decide +kernel
theorem dX12_lay_7 : decode cX12_lay 7 = .ok (.lload_n 1, 1) := by decide +kernel
theorem dX12_lay_8 : decode cX12_lay 8 = .ok (.iload_n 3, 1) := by decide +kernel
theorem dX12_lay_9 : decode cX12_lay 9 = .ok (.lshr, 1) := by decide +kernel
theorem dX12_lay_10 : decode cX12_lay 10 = .ok (.l2i, 1) := by decide +kernel
theorem dX12_lay_11 : decode cX12_lay 11 = .ok (.sipush 255, 3) := by decide +kernel
theorem dX12_lay_14 : decode cX12_lay 14 = .ok (.iand, 1) := by decide +kernel
theorem dX12_lay_15 : decode cX12_lay 15 = .ok (.istore 4, 2) := by decide +kernel
theorem dX12_lay_17 : decode cX12_lay 17 = .ok (.iload 4, 2) := by decide +kernel
theorem dX12_lay_19 : decode cX12_lay 19 = .ok (.bipush 10, 2) := by decide +kernel
theorem dX12_lay_21 : decode cX12_lay 21 = .ok (.if_icmp .eq 17, 3) := by decide +kernel
theorem dX12_lay_24 : decode cX12_lay 24 = .ok (.iload 4, 2) := by decide +kernel
theorem dX12_lay_26 : decode cX12_lay 26 = .ok (.bipush 32, 2) := by decide +kernel
theorem dX12_lay_28 : decode cX12_lay 28 = .ok (.if_icmp .lt 41, 3) := by decide +kernel
theorem dX12_lay_31 : decode cX12_lay 31 = .ok (.iload 4, 2) := by decide +kernel
theorem dX12_lay_33 : decode cX12_lay 33 = .ok (.bipush 126, 2) := by decide +kernel
theorem dX12_lay_35 : decode cX12_lay 35 = .ok (.if_icmp .gt 34, 3) := by decide +kernel
theorem dX12_lay_38 : decode cX12_lay 38 = .ok (.aload_n 0, 1) := by decide +kernel
theorem dX12_lay_39 : decode cX12_lay 39 = .ok (.getfield 11, 3) := by decide +kernel
theorem dX12_lay_42 : decode cX12_lay 42 = .ok (.sipush 1000, 3) := by decide +kernel
theorem dX12_lay_45 : decode cX12_lay 45 = .ok (.if_icmp .ge 24, 3) := by decide +kernel
theorem dX12_lay_48 : decode cX12_lay 48 = .ok (.aload_n 0, 1) := by decide +kernel
theorem dX12_lay_49 : decode cX12_lay 49 = .ok (.getfield 14, 3) := by decide +kernel
theorem dX12_lay_52 : decode cX12_lay 52 = .ok (.aload_n 0, 1) := by decide +kernel
theorem dX12_lay_53 : decode cX12_lay 53 = .ok (.getfield 11, 3) := by decide +kernel
theorem dX12_lay_56 : decode cX12_lay 56 = .ok (.iload 4, 2) := by decide +kernel
theorem dX12_lay_58 : decode cX12_lay 58 = .ok (.iastore, 1) := by decide +kernel
theorem dX12_lay_59 : decode cX12_lay 59 = .ok (.aload_n 0, 1) := by decide +kernel
theorem dX12_lay_60 : decode cX12_lay 60 = .ok (.dup, 1) := by decide +kernel
theorem dX12_lay_61 : decode cX12_lay 61 = .ok (.getfield 11, 3) := by decide +kernel
theorem dX12_lay_64 : decode cX12_lay 64 = .ok (.iconst 1, 1) := by decide +kernel
theorem dX12_lay_65 : decode cX12_lay 65 = .ok (.iadd, 1) := by decide +kernel
theorem dX12_lay_66 : decode cX12_lay 66 = .ok (.putfield 11, 3) := by decide +kernel
theorem dX12_lay_69 : decode cX12_lay 69 = .ok (.iinc 3 (-8), 3) := by decide +kernel
theorem dX12_lay_72 : decode cX12_lay 72 = .ok (.goto (-69), 3) := by decide +kernel
theorem dX12_lay_75 : decode cX12_lay 75 = .ok (.return_, 1) := by decide +kernel
theorem dX12_init_0 : decode cX12_init 0 = .ok (.aload_n 0, 1) := by decide +kernel
theorem dX12_init_1 : decode cX12_init 1 = .ok (.invokespecial 18, 3) := by decide +kernel
theorem dX12_init_4 : decode cX12_init 4 = .ok (.aload_n 0, 1) := by decide +kernel
theorem dX12_init_5 : decode cX12_init 5 = .ok (.sipush 1000, 3) := by decide +kernel
theorem dX12_init_8 : decode cX12_init 8 = .ok (.newarray .int, 2) := by decide +kernel
theorem dX12_init_10 : decode cX12_init 10 = .ok (.putfield 14, 3) := by decide +kernel
theorem dX12_init_13 : decode cX12_init 13 = .ok (.aload_n 0, 1) := by decide +kernel
theorem dX12_init_14 : decode cX12_init 14 = .ok (.sipush 1002, 3) := by decide +kernel
theorem dX12_init_17 : decode cX12_init 17 = .ok (.newarray .int, 2) := by decide +kernel
theorem dX12_init_19 : decode cX12_init 19 = .ok (.putfield 24, 3) := by decide +kernel
theorem dX12_init_22 : decode cX12_init 22 = .ok (.aload_n 0, 1) := by decide +kernel
theorem dX12_init_23 : decode cX12_init 23 = .ok (.sipush 1002, 3) := by decide +kernel
theorem dX12_init_26 : decode cX12_init 26 = .ok (.newarray .int, 2) := by decide +kernel
theorem dX12_init_28 : decode cX12_init 28 = .ok (.putfield 27, 3) := by decide +kernel
theorem dX12_init_31 : decode cX12_init 31 = .ok (.aload_n 0, 1) := by decide +kernel
theorem dX12_init_32 : decode cX12_init 32 = .ok (.sipush 1002, 3) := by decide +kernel
theorem dX12_init_35 : decode cX12_init 35 = .ok (.newarray .long, 2) := by decide +kernel
theorem dX12_init_37 : decode cX12_init 37 = .ok (.putfield 30, 3) := by decide +kernel
theorem dX12_init_40 : decode cX12_init 40 = .ok (.aload_n 0, 1) := by decide +kernel
theorem dX12_init_41 : decode cX12_init 41 = .ok (.bipush 14, 2) := by decide +kernel
theorem dX12_init_43 : decode cX12_init 43 = .ok (.newarray .long, 2) := by decide +kernel
theorem dX12_init_45 : decode cX12_init 45 = .ok (.dup, 1) := by decide +kernel
theorem dX12_init_46 : decode cX12_init 46 = .ok (.iconst 0, 1) := by decide +kernel
theorem dX12_init_47 : decode cX12_init 47 = .ok (.ldc2_w 34, 3) := by decide +kernel
theorem dX12_init_50 : decode cX12_init 50 = .ok (.lastore, 1) := by decide +kernel
theorem dX12_init_51 : decode cX12_init 51 = .ok (.dup, 1) := by decide +kernel
theorem dX12_init_52 : decode cX12_init 52 = .ok (.iconst 1, 1) := by decide +kernel
theorem dX12_init_53 : decode cX12_init 53 = .ok (.ldc2_w 36, 3) := by decide +kernel
theorem dX12_init_56 : decode cX12_init 56 = .ok (.lastore, 1) := by decide +kernel
theorem dX12_init_57 : decode cX12_init 57 = .ok (.dup, 1) := by decide +kernel
theorem dX12_init_58 : decode cX12_init 58 = .ok (.iconst 2, 1) := by decide +kernel
theorem dX12_init_59 : decode cX12_init 59 = .ok (.ldc2_w 38, 3) := by decide +kernel
theorem dX12_init_62 : decode cX12_init 62 = .ok (.lastore, 1) := by decide +kernel
theorem dX12_init_63 : decode cX12_init 63 = .ok (.dup, 1) := by decide +kernel
theorem dX12_init_64 : decode cX12_init 64 = .ok (.iconst 3, 1) := by decide +kernel
theorem dX12_init_65 : decode cX12_init 65 = .ok (.ldc2_w 40, 3) := by decide +kernel
theorem dX12_init_68 : decode cX12_init 68 = .ok (.lastore, 1) := by decide +kernel
theorem dX12_init_69 : decode cX12_init 69 = .ok (.dup, 1) := by decide +kernel
theorem dX12_init_70 : decode cX12_init 70 = .ok (.iconst 4, 1) := by decide +kernel
theorem dX12_init_71 : decode cX12_init 71 = .ok (.ldc2_w 42, 3) := by decide +kernel
theorem dX12_init_74 : decode cX12_init 74 = .ok (.lastore, 1) := by decide +kernel
theorem dX12_init_75 : decode cX12_init 75 = .ok (.dup, 1) := by decide +kernel
theorem dX12_init_76 : decode cX12_init 76 = .ok (.iconst 5, 1) := by decide +kernel
theorem dX12_init_77 : decode cX12_init 77 = .ok (.ldc2_w 44, 3) := by decide +kernel
theorem dX12_init_80 : decode cX12_init 80 = .ok (.lastore, 1) := by decide +kernel
theorem dX12_init_81 : decode cX12_init 81 = .ok (.dup, 1) := by decide +kernel
theorem dX12_init_82 : decode cX12_init 82 = .ok (.bipush 6, 2) := by decide +kernel
theorem dX12_init_84 : decode cX12_init 84 = .ok (.ldc2_w 46, 3) := by decide +kernel
theorem dX12_init_87 : decode cX12_init 87 = .ok (.lastore, 1) := by decide +kernel
theorem dX12_init_88 : decode cX12_init 88 = .ok (.dup, 1) := by decide +kernel
theorem dX12_init_89 : decode cX12_init 89 = .ok (.bipush 7, 2) := by decide +kernel
theorem dX12_init_91 : decode cX12_init 91 = .ok (.ldc2_w 48, 3) := by decide +kernel
theorem dX12_init_94 : decode cX12_init 94 = .ok (.lastore, 1) := by decide +kernel
theorem dX12_init_95 : decode cX12_init 95 = .ok (.dup, 1) := by decide +kernel
theorem dX12_init_96 : decode cX12_init 96 = .ok (.bipush 8, 2) := by decide +kernel
theorem dX12_init_98 : decode cX12_init 98 = .ok (.ldc2_w 50, 3) := by decide +kernel
theorem dX12_init_101 : decode cX12_init 101 = .ok (.lastore, 1) := by decide +kernel
theorem dX12_init_102 : decode cX12_init 102 = .ok (.dup, 1) := by decide +kernel
theorem dX12_init_103 : decode cX12_init 103 = .ok (.bipush 9, 2) := by decide +kernel
theorem dX12_init_105 : decode cX12_init 105 = .ok (.ldc2_w 52, 3) := by decide +kernel
theorem dX12_init_108 : decode cX12_init 108 = .ok (.lastore, 1) := by decide +kernel
theorem dX12_init_109 : decode cX12_init 109 = .ok (.dup, 1) := by decide +kernel
theorem dX12_init_110 : decode cX12_init 110 = .ok (.bipush 10, 2) := by decide +kernel
theorem dX12_init_112 : decode cX12_init 112 = .ok (.ldc2_w 54, 3) := by decide +kernel
theorem dX12_init_115 : decode cX12_init 115 = .ok (.lastore, 1) := by decide +kernel
theorem dX12_init_116 : decode cX12_init 116 = .ok (.dup, 1) := by decide +kernel
theorem dX12_init_117 : decode cX12_init 117 = .ok (.bipush 11, 2) := by decide +kernel
theorem dX12_init_119 : decode cX12_init 119 = .ok (.ldc2_w 56, 3) := by decide +kernel
theorem dX12_init_122 : decode cX12_init 122 = .ok (.lastore, 1) := by decide +kernel
theorem dX12_init_123 : decode cX12_init 123 = .ok (.dup, 1) := by decide +kernel
theorem dX12_init_124 : decode cX12_init 124 = .ok (.bipush 12, 2) := by decide +kernel
theorem dX12_init_126 : decode cX12_init 126 = .ok (.ldc2_w 58, 3) := by decide +kernel
theorem dX12_init_129 : decode cX12_init 129 = .ok (.lastore, 1) := by decide +kernel
theorem dX12_init_130 : decode cX12_init 130 = .ok (.dup, 1) := by decide +kernel
theorem dX12_init_131 : decode cX12_init 131 = .ok (.bipush 13, 2) := by decide +kernel
theorem dX12_init_133 : decode cX12_init 133 = .ok (.ldc2_w 60, 3) := by decide +kernel
theorem dX12_init_136 : decode cX12_init 136 = .ok (.lastore, 1) := by decide +kernel
theorem dX12_init_137 : decode cX12_init 137 = .ok (.putfield 62, 3) := by decide +kernel
theorem dX12_init_140 : decode cX12_init 140 = .ok (.aload_n 0, 1) := by decide +kernel
theorem dX12_init_141 : decode cX12_init 141 = .ok (.sipush 1020, 3) := by decide +kernel
theorem dX12_init_144 : decode cX12_init 144 = .ok (.newarray .int, 2) := by decide +kernel
theorem dX12_init_146 : decode cX12_init 146 = .ok (.putfield 65, 3) := by decide +kernel
theorem dX12_init_149 : decode cX12_init 149 = .ok (.aload_n 0, 1) := by decide +kernel
theorem dX12_init_150 : decode cX12_init 150 = .ok (.bipush 16, 2) := by decide +kernel
theorem dX12_init_152 : decode cX12_init 152 = .ok (.newarray .long, 2) := by decide +kernel
theorem dX12_init_154 : decode cX12_init 154 = .ok (.putfield 68, 3) := by decide +kernel
theorem dX12_init_157 : decode cX12_init 157 = .ok (.aload_n 0, 1) := by decide +kernel
theorem dX12_init_158 : decode cX12_init 158 = .ok (.bipush 16, 2) := by decide +kernel
theorem dX12_init_160 : decode cX12_init 160 = .ok (.newarray .int, 2) := by decide +kernel
theorem dX12_init_162 : decode cX12_init 162 = .ok (.putfield 71, 3) := by decide +kernel
theorem dX12_init_165 : decode cX12_init 165 = .ok (.aload_n 0, 1) := by decide +kernel
theorem dX12_init_166 : decode cX12_init 166 = .ok (.bipush 24, 2) := by decide +kernel
theorem dX12_init_168 : decode cX12_init 168 = .ok (.newarray .int, 2) := by decide +kernel
theorem dX12_init_170 : decode cX12_init 170 = .ok (.putfield 74, 3) := by decide +kernel
theorem dX12_init_173 : decode cX12_init 173 = .ok (.aload_n 0, 1) := by decide +kernel
theorem dX12_init_174 : decode cX12_init 174 = .ok (.bipush 12, 2) := by decide +kernel
theorem dX12_init_176 : decode cX12_init 176 = .ok (.newarray .int, 2) := by decide +kernel
theorem dX12_init_178 : decode cX12_init 178 = .ok (.putfield 77, 3) := by decide +kernel
theorem dX12_init_181 : decode cX12_init 181 = .ok (.aload_n 0, 1) := by decide +kernel
theorem dX12_init_182 : decode cX12_init 182 = .ok (.bipush 12, 2) := by decide +kernel
theorem dX12_init_184 : decode cX12_init 184 = .ok (.newarray .int, 2) := by decide +kernel
theorem dX12_init_186 : decode cX12_init 186 = .ok (.putfield 80, 3) := by decide +kernel
theorem dX12_init_189 : decode cX12_init 189 = .ok (.aload_n 0, 1) := by decide +kernel
theorem dX12_init_190 : decode cX12_init 190 = .ok (.sipush 144, 3) := by decide +kernel
theorem dX12_init_193 : decode cX12_init 193 = .ok (.newarray .int, 2) := by decide +kernel
theorem dX12_init_195 : decode cX12_init 195 = .ok (.putfield 83, 3) := by decide +kernel
theorem dX12_init_198 : decode cX12_init 198 = .ok (.aload_n 0, 1) := by decide +kernel
theorem dX12_init_199 : decode cX12_init 199 = .ok (.sipush 288, 3) := by decide +kernel
theorem dX12_init_202 : decode cX12_init 202 = .ok (.newarray .int, 2) := by decide +kernel
theorem dX12_init_204 : decode cX12_init 204 = .ok (.putfield 86, 3) := by decide +kernel
theorem dX12_init_207 : decode cX12_init 207 = .ok (.aload_n 0, 1) := by decide +kernel
theorem dX12_init_208 : decode cX12_init 208 = .ok (.sipush 288, 3) := by decide +kernel
theorem dX12_init_211 : decode cX12_init 211 = .ok (.newarray .int, 2) := by decide +kernel
theorem dX12_init_213 : decode cX12_init 213 = .ok (.putfield 89, 3) := by decide +kernel
theorem dX12_init_216 : decode cX12_init 216 = .ok (.aload_n 0, 1) := by decide +kernel
theorem dX12_init_217 : decode cX12_init 217 = .ok (.sipush 288, 3) := by decide +kernel
theorem dX12_init_220 : decode cX12_init 220 = .ok (.newarray .boolean, 2) := by decide +kernel
theorem dX12_init_222 : decode cX12_init 222 = .ok (.putfield 92, 3) := by decide +kernel
theorem dX12_init_225 : decode cX12_init 225 = .ok (.aload_n 0, 1) := by decide +kernel
theorem dX12_init_226 : decode cX12_init 226 = .ok (.sipush 288, 3) := by decide +kernel
theorem dX12_init_229 : decode cX12_init 229 = .ok (.newarray .int, 2) := by decide +kernel
theorem dX12_init_231 : decode cX12_init 231 = .ok (.putfield 96, 3) := by decide +kernel
theorem dX12_init_234 : decode cX12_init 234 = .ok (.aload_n 0, 1) := by decide +kernel
theorem dX12_init_235 : decode cX12_init 235 = .ok (.sipush 288, 3) := by decide +kernel
theorem dX12_init_238 : decode cX12_init 238 = .ok (.newarray .int, 2) := by decide +kernel
theorem dX12_init_240 : decode cX12_init 240 = .ok (.putfield 99, 3) := by decide +kernel
theorem dX12_init_243 : decode cX12_init 243 = .ok (.aload_n 0, 1) := by decide +kernel
theorem dX12_init_244 : decode cX12_init 244 = .ok (.sipush 576, 3) := by decide +kernel
theorem dX12_init_247 : decode cX12_init 247 = .ok (.newarray .int, 2) := by decide +kernel
theorem dX12_init_249 : decode cX12_init 249 = .ok (.putfield 102, 3) := by decide +kernel
theorem dX12_init_252 : decode cX12_init 252 = .ok (.aload_n 0, 1) := by decide +kernel
theorem dX12_init_253 : decode cX12_init 253 = .ok (.sipush 576, 3) := by decide +kernel
theorem dX12_init_256 : decode cX12_init 256 = .ok (.newarray .int, 2) := by decide +kernel
theorem dX12_init_258 : decode cX12_init 258 = .ok (.putfield 105, 3) := by decide +kernel
theorem dX12_init_261 : decode cX12_init 261 = .ok (.aload_n 0, 1) := by decide +kernel
theorem dX12_init_262 : decode cX12_init 262 = .ok (.sipush 288, 3) := by decide +kernel
theorem dX12_init_265 : decode cX12_init 265 = .ok (.newarray .boolean, 2) := by decide +kernel
theorem dX12_init_267 : decode cX12_init 267 = .ok (.putfield 108, 3) := by decide +kernel
theorem dX12_init_270 : decode cX12_init 270 = .ok (.aload_n 0, 1) := by decide +kernel
theorem dX12_init_271 : decode cX12_init 271 = .ok (.sipush 288, 3) := by decide +kernel
theorem dX12_init_274 : decode cX12_init 274 = .ok (.newarray .int, 2) := by decide +kernel
theorem dX12_init_276 : decode cX12_init 276 = .ok (.putfield 111, 3) := by decide +kernel
theorem dX12_init_279 : decode cX12_init 279 = .ok (.aload_n 0, 1) := by decide +kernel
theorem dX12_init_280 : decode cX12_init 280 = .ok (.sipush 288, 3) := by decide +kernel
theorem dX12_init_283 : decode cX12_init 283 = .ok (.newarray .int, 2) := by decide +kernel
theorem dX12_init_285 : decode cX12_init 285 = .ok (.putfield 114, 3) := by decide +kernel
theorem dX12_init_288 : decode cX12_init 288 = .ok (.aload_n 0, 1) := by decide +kernel
theorem dX12_init_289 : decode cX12_init 289 = .ok (.bipush 12, 2) := by decide +kernel
theorem dX12_init_291 : decode cX12_init 291 = .ok (.newarray .int, 2) := by decide +kernel
theorem dX12_init_293 : decode cX12_init 293 = .ok (.putfield 117, 3) := by decide +kernel
theorem dX12_init_296 : decode cX12_init 296 = .ok (.aload_n 0, 1) := by decide +kernel
theorem dX12_init_297 : decode cX12_init 297 = .ok (.iconst 4, 1) := by decide +kernel
theorem dX12_init_298 : decode cX12_init 298 = .ok (.newarray .boolean, 2) := by decide +kernel
theorem dX12_init_300 : decode cX12_init 300 = .ok (.putfield 120, 3) := by decide +kernel
theorem dX12_init_303 : decode cX12_init 303 = .ok (.aload_n 0, 1) := by decide +kernel
theorem dX12_init_304 : decode cX12_init 304 = .ok (.iconst 0, 1) := by decide +kernel
theorem dX12_init_305 : decode cX12_init 305 = .ok (.putfield 1, 3) := by decide +kernel
theorem dX12_init_308 : decode cX12_init 308 = .ok (.return_, 1) := by decide +kernel
theorem dX12_isLetter_0 : decode cX12_isLetter 0 = .ok (.iload_n 0, 1) := by decide +kernel
theorem dX12_isLetter_1 : decode cX12_isLetter 1 = .ok (.bipush 97, 2) := by decide +kernel
theorem dX12_isLetter_3 : decode cX12_isLetter 3 = .ok (.if_icmp .lt 13, 3) := by decide +kernel
theorem dX12_isLetter_6 : decode cX12_isLetter 6 = .ok (.iload_n 0, 1) := by decide +kernel
theorem dX12_isLetter_7 : decode cX12_isLetter 7 = .ok (.bipush 122, 2) := by decide +kernel
theorem dX12_isLetter_9 : decode cX12_isLetter 9 = .ok (.if_icmp .gt 7, 3) := by decide +kernel
theorem dX12_isLetter_12 : decode cX12_isLetter 12 = .ok (.iconst 1, 1) := by decide +kernel
theorem dX12_isLetter_13 : decode cX12_isLetter 13 = .ok (.goto 4, 3) := by decide +kernel
theorem dX12_isLetter_16 : decode cX12_isLetter 16 = .ok (.iconst 0, 1) := by decide +kernel
theorem dX12_isLetter_17 : decode cX12_isLetter 17 = .ok (.ireturn, 1) := by decide +kernel
theorem dX12_isDigit_0 : decode cX12_isDigit 0 = .ok (.iload_n 0, 1) := by decide +kernel
theorem dX12_isDigit_1 : decode cX12_isDigit 1 = .ok (.bipush 48, 2) := by decide +kernel
theorem dX12_isDigit_3 : decode cX12_isDigit 3 = .ok (.if_icmp .lt 13, 3) := by decide +kernel
theorem dX12_isDigit_6 : decode cX12_isDigit 6 = .ok (.iload_n 0, 1) := by decide +kernel
theorem dX12_isDigit_7 : decode cX12_isDigit 7 = .ok (.bipush 57, 2) := by decide +kernel
theorem dX12_isDigit_9 : decode cX12_isDigit 9 = .ok (.if_icmp .gt 7, 3) := by decide +kernel
theorem dX12_isDigit_12 : decode cX12_isDigit 12 = .ok (.iconst 1, 1) := by decide +kernel
theorem dX12_isDigit_13 : decode cX12_isDigit 13 = .ok (.goto 4, 3) := by decide +kernel
theorem dX12_isDigit_16 : decode cX12_isDigit 16 = .ok (.iconst 0, 1) := by decide +kernel
theorem dX12_isDigit_17 : decode cX12_isDigit 17 = .ok (.ireturn, 1) := by decide +kernel
theorem dX12_rank_0 : decode cX12_rank 0 = .ok (.iload_n 0, 1) := by decide +kernel
theorem dX12_rank_1 : decode cX12_rank 1 = .ok (.invokestatic 123, 3) := by decide +kernel
theorem dX12_rank_4 : decode cX12_rank 4 = .ok (.ifCond .eq 10, 3) := by decide +kernel
theorem dX12_rank_7 : decode cX12_rank 7 = .ok (.iload_n 0, 1) := by decide +kernel
theorem dX12_rank_8 : decode cX12_rank 8 = .ok (.bipush 96, 2) := by decide +kernel
theorem dX12_rank_10 : decode cX12_rank 10 = .ok (.isub, 1) := by decide +kernel
theorem dX12_rank_11 : decode cX12_rank 11 = .ok (.goto 7, 3) := by decide +kernel
theorem dX12_rank_14 : decode cX12_rank 14 = .ok (.iload_n 0, 1) := by decide +kernel
theorem dX12_rank_15 : decode cX12_rank 15 = .ok (.bipush 21, 2) := by decide +kernel
theorem dX12_rank_17 : decode cX12_rank 17 = .ok (.isub, 1) := by decide +kernel
theorem dX12_rank_18 : decode cX12_rank 18 = .ok (.ireturn, 1) := by decide +kernel
theorem dX12_isSignOf_0 : decode cX12_isSignOf 0 = .ok (.iload_n 0, 1) := by decide +kernel
theorem dX12_isSignOf_1 : decode cX12_isSignOf 1 = .ok (.bipush 40, 2) := by decide +kernel
theorem dX12_isSignOf_3 : decode cX12_isSignOf 3 = .ok (.if_icmp .eq 45, 3) := by decide +kernel
theorem dX12_isSignOf_6 : decode cX12_isSignOf 6 = .ok (.iload_n 0, 1) := by decide +kernel
theorem dX12_isSignOf_7 : decode cX12_isSignOf 7 = .ok (.bipush 41, 2) := by decide +kernel
theorem dX12_isSignOf_9 : decode cX12_isSignOf 9 = .ok (.if_icmp .eq 39, 3) := by decide +kernel
theorem dX12_isSignOf_12 : decode cX12_isSignOf 12 = .ok (.iload_n 0, 1) := by decide +kernel
theorem dX12_isSignOf_13 : decode cX12_isSignOf 13 = .ok (.bipush 59, 2) := by decide +kernel
theorem dX12_isSignOf_15 : decode cX12_isSignOf 15 = .ok (.if_icmp .eq 33, 3) := by decide +kernel
theorem dX12_isSignOf_18 : decode cX12_isSignOf 18 = .ok (.iload_n 0, 1) := by decide +kernel
theorem dX12_isSignOf_19 : decode cX12_isSignOf 19 = .ok (.bipush 61, 2) := by decide +kernel
theorem dX12_isSignOf_21 : decode cX12_isSignOf 21 = .ok (.if_icmp .eq 27, 3) := by decide +kernel
theorem dX12_isSignOf_24 : decode cX12_isSignOf 24 = .ok (.iload_n 0, 1) := by decide +kernel
theorem dX12_isSignOf_25 : decode cX12_isSignOf 25 = .ok (.bipush 60, 2) := by decide +kernel
theorem dX12_isSignOf_27 : decode cX12_isSignOf 27 = .ok (.if_icmp .eq 21, 3) := by decide +kernel
theorem dX12_isSignOf_30 : decode cX12_isSignOf 30 = .ok (.iload_n 0, 1) := by decide +kernel
theorem dX12_isSignOf_31 : decode cX12_isSignOf 31 = .ok (.bipush 43, 2) := by decide +kernel
theorem dX12_isSignOf_33 : decode cX12_isSignOf 33 = .ok (.if_icmp .eq 15, 3) := by decide +kernel
theorem dX12_isSignOf_36 : decode cX12_isSignOf 36 = .ok (.iload_n 0, 1) := by decide +kernel
theorem dX12_isSignOf_37 : decode cX12_isSignOf 37 = .ok (.bipush 45, 2) := by decide +kernel
