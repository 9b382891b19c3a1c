theorem dX0_init_0 : decode cX0_init 0 = .ok (.aload_n 0, 1) := by decide +kernel
theorem dX0_init_1 : decode cX0_init 1 = .ok (.invokespecial 1, 3) := by decide +kernel
theorem dX0_init_4 : decode cX0_init 4 = .ok (.return_, 1) := by decide +kernel
theorem dX0_start_0 : decode cX0_start 0 = .ok (.aload_n 0, 1) := by decide +kernel
theorem dX0_start_1 : decode cX0_start 1 = .ok (.iload_n 1, 1) := by decide +kernel
theorem dX0_start_2 : decode cX0_start 2 = .ok (.i2l, 1) := by decide +kernel
theorem dX0_start_3 : decode cX0_start 3 = .ok (.putfield 7, 3) := by decide +kernel
theorem dX0_start_6 : decode cX0_start 6 = .ok (.return_, 1) := by decide +kernel
theorem dX0_liveThrough_0 : decode cX0_liveThrough 0 = .ok (.aload 4, 2) := by decide +kernel
theorem dX0_liveThrough_2 : decode cX0_liveThrough 2 = .ok (.aload_n 1, 1) := by decide +kernel
theorem dX0_liveThrough_3 : decode cX0_liveThrough 3 = .ok (.getfield 13, 3) := by decide +kernel
theorem dX0_liveThrough_6 : decode cX0_liveThrough 6 = .ok (.iload_n 3, 1) := by decide +kernel
theorem dX0_liveThrough_7 : decode cX0_liveThrough 7 = .ok (.iaload, 1) := by decide +kernel
theorem dX0_liveThrough_8 : decode cX0_liveThrough 8 = .ok (.aload_n 1, 1) := by decide +kernel
theorem dX0_liveThrough_9 : decode cX0_liveThrough 9 = .ok (.getfield 19, 3) := by decide +kernel
theorem dX0_liveThrough_12 : decode cX0_liveThrough 12 = .ok (.iload_n 3, 1) := by decide +kernel
theorem dX0_liveThrough_13 : decode cX0_liveThrough 13 = .ok (.iaload, 1) := by decide +kernel
theorem dX0_liveThrough_14 : decode cX0_liveThrough 14 = .ok (.invokevirtual 22, 3) := by decide +kernel
theorem dX0_liveThrough_17 : decode cX0_liveThrough 17 = .ok (.iconst 0, 1) := by decide +kernel
theorem dX0_liveThrough_18 : decode cX0_liveThrough 18 = .ok (.istore 5, 2) := by decide +kernel
theorem dX0_liveThrough_20 : decode cX0_liveThrough 20 = .ok (.iload 5, 2) := by decide +kernel
theorem dX0_liveThrough_22 : decode cX0_liveThrough 22 = .ok (.aload_n 2, 1) := by decide +kernel
theorem dX0_liveThrough_23 : decode cX0_liveThrough 23 = .ok (.getfield 28, 3) := by decide +kernel
theorem dX0_liveThrough_26 : decode cX0_liveThrough 26 = .ok (.if_icmp .ge 48, 3) := by decide +kernel
theorem dX0_liveThrough_29 : decode cX0_liveThrough 29 = .ok (.aload_n 0, 1) := by decide +kernel
theorem dX0_liveThrough_30 : decode cX0_liveThrough 30 = .ok (.invokevirtual 34, 3) := by decide +kernel
theorem dX0_liveThrough_33 : decode cX0_liveThrough 33 = .ok (.aload_n 1, 1) := by decide +kernel
theorem dX0_liveThrough_34 : decode cX0_liveThrough 34 = .ok (.getfield 38, 3) := by decide +kernel
theorem dX0_liveThrough_37 : decode cX0_liveThrough 37 = .ok (.aload_n 2, 1) := by decide +kernel
theorem dX0_liveThrough_38 : decode cX0_liveThrough 38 = .ok (.getfield 41, 3) := by decide +kernel
theorem dX0_liveThrough_41 : decode cX0_liveThrough 41 = .ok (.iload 5, 2) := by decide +kernel
theorem dX0_liveThrough_43 : decode cX0_liveThrough 43 = .ok (.iaload, 1) := by decide +kernel
theorem dX0_liveThrough_44 : decode cX0_liveThrough 44 = .ok (.iaload, 1) := by decide +kernel
theorem dX0_liveThrough_45 : decode cX0_liveThrough 45 = .ok (.if_icmp .ge 7, 3) := by decide +kernel
theorem dX0_liveThrough_48 : decode cX0_liveThrough 48 = .ok (.iconst 1, 1) := by decide +kernel
theorem dX0_liveThrough_49 : decode cX0_liveThrough 49 = .ok (.goto 4, 3) := by decide +kernel
theorem dX0_liveThrough_52 : decode cX0_liveThrough 52 = .ok (.iconst 0, 1) := by decide +kernel
theorem dX0_liveThrough_53 : decode cX0_liveThrough 53 = .ok (.istore 6, 2) := by decide +kernel
theorem dX0_liveThrough_55 : decode cX0_liveThrough 55 = .ok (.iload 6, 2) := by decide +kernel
theorem dX0_liveThrough_57 : decode cX0_liveThrough 57 = .ok (.ifCond .ne 11, 3) := by decide +kernel
theorem dX0_liveThrough_60 : decode cX0_liveThrough 60 = .ok (.aload 4, 2) := by decide +kernel
theorem dX0_liveThrough_62 : decode cX0_liveThrough 62 = .ok (.aload_n 2, 1) := by decide +kernel
theorem dX0_liveThrough_63 : decode cX0_liveThrough 63 = .ok (.iload 5, 2) := by decide +kernel
theorem dX0_liveThrough_65 : decode cX0_liveThrough 65 = .ok (.invokevirtual 44, 3) := by decide +kernel
theorem dX0_liveThrough_68 : decode cX0_liveThrough 68 = .ok (.iinc 5 1, 3) := by decide +kernel
theorem dX0_liveThrough_71 : decode cX0_liveThrough 71 = .ok (.goto (-51), 3) := by decide +kernel
theorem dX0_liveThrough_74 : decode cX0_liveThrough 74 = .ok (.return_, 1) := by decide +kernel
theorem dX0_drawPercent_0 : decode cX0_drawPercent 0 = .ok (.aload_n 0, 1) := by decide +kernel
theorem dX0_drawPercent_1 : decode cX0_drawPercent 1 = .ok (.aload_n 0, 1) := by decide +kernel
theorem dX0_drawPercent_2 : decode cX0_drawPercent 2 = .ok (.getfield 7, 3) := by decide +kernel
theorem dX0_drawPercent_5 : decode cX0_drawPercent 5 = .ok (.ldc2_w 48, 3) := by decide +kernel
theorem dX0_drawPercent_8 : decode cX0_drawPercent 8 = .ok (.lmul, 1) := by decide +kernel
theorem dX0_drawPercent_9 : decode cX0_drawPercent 9 = .ok (.ldc2_w 50, 3) := by decide +kernel
theorem dX0_drawPercent_12 : decode cX0_drawPercent 12 = .ok (.ladd, 1) := by decide +kernel
theorem dX0_drawPercent_13 : decode cX0_drawPercent 13 = .ok (.ldc2_w 52, 3) := by decide +kernel
theorem dX0_drawPercent_16 : decode cX0_drawPercent 16 = .ok (.lrem, 1) := by decide +kernel
theorem dX0_drawPercent_17 : decode cX0_drawPercent 17 = .ok (.putfield 7, 3) := by decide +kernel
theorem dX0_drawPercent_20 : decode cX0_drawPercent 20 = .ok (.aload_n 0, 1) := by decide +kernel
theorem dX0_drawPercent_21 : decode cX0_drawPercent 21 = .ok (.getfield 7, 3) := by decide +kernel
theorem dX0_drawPercent_24 : decode cX0_drawPercent 24 = .ok (.ldc2_w 54, 3) := by decide +kernel
theorem dX0_drawPercent_27 : decode cX0_drawPercent 27 = .ok (.ldiv, 1) := by decide +kernel
theorem dX0_drawPercent_28 : decode cX0_drawPercent 28 = .ok (.ldc2_w 56, 3) := by decide +kernel
theorem dX0_drawPercent_31 : decode cX0_drawPercent 31 = .ok (.lrem, 1) := by decide +kernel
theorem dX0_drawPercent_32 : decode cX0_drawPercent 32 = .ok (.l2i, 1) := by decide +kernel
theorem dX0_drawPercent_33 : decode cX0_drawPercent 33 = .ok (.ireturn, 1) := by decide +kernel
theorem dX1_init_0 : decode cX1_init 0 = .ok (.aload_n 0, 1) := by decide +kernel
theorem dX1_init_1 : decode cX1_init 1 = .ok (.invokespecial 3, 3) := by decide +kernel
theorem dX1_init_4 : decode cX1_init 4 = .ok (.aload_n 0, 1) := by decide +kernel
theorem dX1_init_5 : decode cX1_init 5 = .ok (.iload_n 1, 1) := by decide +kernel
theorem dX1_init_6 : decode cX1_init 6 = .ok (.newarray .int, 2) := by decide +kernel
theorem dX1_init_8 : decode cX1_init 8 = .ok (.putfield 9, 3) := by decide +kernel
theorem dX1_init_11 : decode cX1_init 11 = .ok (.aload_n 0, 1) := by decide +kernel
theorem dX1_init_12 : decode cX1_init 12 = .ok (.iload_n 1, 1) := by decide +kernel
theorem dX1_init_13 : decode cX1_init 13 = .ok (.bipush 12, 2) := by decide +kernel
theorem dX1_init_15 : decode cX1_init 15 = .ok (.imul, 1) := by decide +kernel
theorem dX1_init_16 : decode cX1_init 16 = .ok (.newarray .int, 2) := by decide +kernel
theorem dX1_init_18 : decode cX1_init 18 = .ok (.putfield 15, 3) := by decide +kernel
theorem dX1_init_21 : decode cX1_init 21 = .ok (.aload_n 0, 1) := by decide +kernel
theorem dX1_init_22 : decode cX1_init 22 = .ok (.iload_n 1, 1) := by decide +kernel
theorem dX1_init_23 : decode cX1_init 23 = .ok (.bipush 12, 2) := by decide +kernel
theorem dX1_init_25 : decode cX1_init 25 = .ok (.imul, 1) := by decide +kernel
theorem dX1_init_26 : decode cX1_init 26 = .ok (.newarray .int, 2) := by decide +kernel
theorem dX1_init_28 : decode cX1_init 28 = .ok (.putfield 18, 3) := by decide +kernel
theorem dX1_init_31 : decode cX1_init 31 = .ok (.aload_n 0, 1) := by decide +kernel
theorem dX1_init_32 : decode cX1_init 32 = .ok (.iload_n 1, 1) := by decide +kernel
theorem dX1_init_33 : decode cX1_init 33 = .ok (.bipush 12, 2) := by decide +kernel
theorem dX1_init_35 : decode cX1_init 35 = .ok (.imul, 1) := by decide +kernel
theorem dX1_init_36 : decode cX1_init 36 = .ok (.newarray .int, 2) := by decide +kernel
theorem dX1_init_38 : decode cX1_init 38 = .ok (.putfield 21, 3) := by decide +kernel
theorem dX1_init_41 : decode cX1_init 41 = .ok (.return_, 1) := by decide +kernel
theorem dX1_openAll_0 : decode cX1_openAll 0 = .ok (.aload_n 0, 1) := by decide +kernel
theorem dX1_openAll_1 : decode cX1_openAll 1 = .ok (.iconst 0, 1) := by decide +kernel
theorem dX1_openAll_2 : decode cX1_openAll 2 = .ok (.putfield 24, 3) := by decide +kernel
theorem dX1_openAll_5 : decode cX1_openAll 5 = .ok (.iconst 0, 1) := by decide +kernel
theorem dX1_openAll_6 : decode cX1_openAll 6 = .ok (.istore_n 2, 1) := by decide +kernel
theorem dX1_openAll_7 : decode cX1_openAll 7 = .ok (.iload_n 2, 1) := by decide +kernel
theorem dX1_openAll_8 : decode cX1_openAll 8 = .ok (.aload_n 1, 1) := by decide +kernel
theorem dX1_openAll_9 : decode cX1_openAll 9 = .ok (.getfield 28, 3) := by decide +kernel
theorem dX1_openAll_12 : decode cX1_openAll 12 = .ok (.if_icmp .ge 38, 3) := by decide +kernel
theorem dX1_openAll_15 : decode cX1_openAll 15 = .ok (.aload_n 0, 1) := by decide +kernel
theorem dX1_openAll_16 : decode cX1_openAll 16 = .ok (.aload_n 1, 1) := by decide +kernel
theorem dX1_openAll_17 : decode cX1_openAll 17 = .ok (.getfield 33, 3) := by decide +kernel
theorem dX1_openAll_20 : decode cX1_openAll 20 = .ok (.iload_n 2, 1) := by decide +kernel
theorem dX1_openAll_21 : decode cX1_openAll 21 = .ok (.iaload, 1) := by decide +kernel
theorem dX1_openAll_22 : decode cX1_openAll 22 = .ok (.iload_n 2, 1) := by decide +kernel
theorem dX1_openAll_23 : decode cX1_openAll 23 = .ok (.invokevirtual 36, 3) := by decide +kernel
theorem dX1_openAll_26 : decode cX1_openAll 26 = .ok (.aload_n 1, 1) := by decide +kernel
theorem dX1_openAll_27 : decode cX1_openAll 27 = .ok (.getfield 40, 3) := by decide +kernel
theorem dX1_openAll_30 : decode cX1_openAll 30 = .ok (.ifCond .eq 14, 3) := by decide +kernel
theorem dX1_openAll_33 : decode cX1_openAll 33 = .ok (.aload_n 0, 1) := by decide +kernel
theorem dX1_openAll_34 : decode cX1_openAll 34 = .ok (.aload_n 1, 1) := by decide +kernel
theorem dX1_openAll_35 : decode cX1_openAll 35 = .ok (.getfield 44, 3) := by decide +kernel
theorem dX1_openAll_38 : decode cX1_openAll 38 = .ok (.iload_n 2, 1) := by decide +kernel
theorem dX1_openAll_39 : decode cX1_openAll 39 = .ok (.iaload, 1) := by decide +kernel
theorem dX1_openAll_40 : decode cX1_openAll 40 = .ok (.iload_n 2, 1) := by decide +kernel
theorem dX1_openAll_41 : decode cX1_openAll 41 = .ok (.invokevirtual 36, 3) := by decide +kernel
theorem dX1_openAll_44 : decode cX1_openAll 44 = .ok (.iinc 2 1, 3) := by decide +kernel
theorem dX1_openAll_47 : decode cX1_openAll 47 = .ok (.goto (-40), 3) := by decide +kernel
theorem dX1_openAll_50 : decode cX1_openAll 50 = .ok (.aload_n 0, 1) := by decide +kernel
theorem dX1_openAll_51 : decode cX1_openAll 51 = .ok (.aload_n 1, 1) := by decide +kernel
theorem dX1_openAll_52 : decode cX1_openAll 52 = .ok (.invokevirtual 47, 3) := by decide +kernel
theorem dX1_openAll_55 : decode cX1_openAll 55 = .ok (.return_, 1) := by decide +kernel
theorem dX1_openOne_0 : decode cX1_openOne 0 = .ok (.aload_n 0, 1) := by decide +kernel
theorem dX1_openOne_1 : decode cX1_openOne 1 = .ok (.iconst 0, 1) := by decide +kernel
theorem dX1_openOne_2 : decode cX1_openOne 2 = .ok (.putfield 24, 3) := by decide +kernel
theorem dX1_openOne_5 : decode cX1_openOne 5 = .ok (.aload_n 0, 1) := by decide +kernel
theorem dX1_openOne_6 : decode cX1_openOne 6 = .ok (.iload_n 3, 1) := by decide +kernel
theorem dX1_openOne_7 : decode cX1_openOne 7 = .ok (.iload_n 2, 1) := by decide +kernel
theorem dX1_openOne_8 : decode cX1_openOne 8 = .ok (.invokevirtual 36, 3) := by decide +kernel
theorem dX1_openOne_11 : decode cX1_openOne 11 = .ok (.aload_n 0, 1) := by decide +kernel
theorem dX1_openOne_12 : decode cX1_openOne 12 = .ok (.aload_n 1, 1) := by decide +kernel
theorem dX1_openOne_13 : decode cX1_openOne 13 = .ok (.invokevirtual 47, 3) := by decide +kernel
theorem dX1_openOne_16 : decode cX1_openOne 16 = .ok (.return_, 1) := by decide +kernel
theorem dX1_addToYear_0 : decode cX1_addToYear 0 = .ok (.iload_n 1, 1) := by decide +kernel
theorem dX1_addToYear_1 : decode cX1_addToYear 1 = .ok (.iconst 4, 1) := by decide +kernel
theorem dX1_addToYear_2 : decode cX1_addToYear 2 = .ok (.ishl, 1) := by decide +kernel
theorem dX1_addToYear_3 : decode cX1_addToYear 3 = .ok (.iload_n 2, 1) := by decide +kernel
theorem dX1_addToYear_4 : decode cX1_addToYear 4 = .ok (.ior, 1) := by decide +kernel
theorem dX1_addToYear_5 : decode cX1_addToYear 5 = .ok (.istore_n 3, 1) := by decide +kernel
theorem dX1_addToYear_6 : decode cX1_addToYear 6 = .ok (.aload_n 0, 1) := by decide +kernel
theorem dX1_addToYear_7 : decode cX1_addToYear 7 = .ok (.getfield 24, 3) := by decide +kernel
theorem dX1_addToYear_10 : decode cX1_addToYear 10 = .ok (.istore 4, 2) := by decide +kernel
theorem dX1_addToYear_12 : decode cX1_addToYear 12 = .ok (.iload 4, 2) := by decide +kernel
theorem dX1_addToYear_14 : decode cX1_addToYear 14 = .ok (.ifCond .le 22, 3) := by decide +kernel
theorem dX1_addToYear_17 : decode cX1_addToYear 17 = .ok (.aload_n 0, 1) := by decide +kernel
theorem dX1_addToYear_18 : decode cX1_addToYear 18 = .ok (.getfield 9, 3) := by decide +kernel
theorem dX1_addToYear_21 : decode cX1_addToYear 21 = .ok (.iload 4, 2) := by decide +kernel
theorem dX1_addToYear_23 : decode cX1_addToYear 23 = .ok (.iconst 1, 1) := by decide +kernel
theorem dX1_addToYear_24 : decode cX1_addToYear 24 = .ok (.isub, 1) := by decide +kernel
theorem dX1_addToYear_25 : decode cX1_addToYear 25 = .ok (.iaload, 1) := by decide +kernel
theorem dX1_addToYear_26 : decode cX1_addToYear 26 = .ok (.iload_n 3, 1) := by decide +kernel
theorem dX1_addToYear_27 : decode cX1_addToYear 27 = .ok (.if_icmp .le 9, 3) := by decide +kernel
theorem dX1_addToYear_30 : decode cX1_addToYear 30 = .ok (.iinc 4 (-1), 3) := by decide +kernel
theorem dX1_addToYear_33 : decode cX1_addToYear 33 = .ok (.goto (-21), 3) := by decide +kernel
theorem dX1_addToYear_36 : decode cX1_addToYear 36 = .ok (.iload 4, 2) := by decide +kernel
theorem dX1_addToYear_38 : decode cX1_addToYear 38 = .ok (.ifCond .le 20, 3) := by decide +kernel
theorem dX1_addToYear_41 : decode cX1_addToYear 41 = .ok (.aload_n 0, 1) := by decide +kernel
theorem dX1_addToYear_42 : decode cX1_addToYear 42 = .ok (.getfield 9, 3) := by decide +kernel
theorem dX1_addToYear_45 : decode cX1_addToYear 45 = .ok (.iload 4, 2) := by decide +kernel
theorem dX1_addToYear_47 : decode cX1_addToYear 47 = .ok (.iconst 1, 1) := by decide +kernel
theorem dX1_addToYear_48 : decode cX1_addToYear 48 = .ok (.isub, 1) := by decide +kernel
theorem dX1_addToYear_49 : decode cX1_addToYear 49 = .ok (.iaload, 1) := by decide +kernel
theorem dX1_addToYear_50 : decode cX1_addToYear 50 = .ok (.iload_n 3, 1) := by decide +kernel
theorem dX1_addToYear_51 : decode cX1_addToYear 51 = .ok (.if_icmp .ne 7, 3) := by decide +kernel
theorem dX1_addToYear_54 : decode cX1_addToYear 54 = .ok (.iconst 1, 1) := by decide +kernel
theorem dX1_addToYear_55 : decode cX1_addToYear 55 = .ok (.goto 4, 3) := by decide +kernel
theorem dX1_addToYear_58 : decode cX1_addToYear 58 = .ok (.iconst 0, 1) := by decide +kernel
theorem dX1_addToYear_59 : decode cX1_addToYear 59 = .ok (.istore 5, 2) := by decide +kernel
theorem dX1_addToYear_61 : decode cX1_addToYear 61 = .ok (.iload_n 1, 1) := by decide +kernel
theorem dX1_addToYear_62 : decode cX1_addToYear 62 = .ok (.iconst (-1), 1) := by decide +kernel
theorem dX1_addToYear_63 : decode cX1_addToYear 63 = .ok (.if_icmp .eq 20, 3) := by decide +kernel
theorem dX1_addToYear_66 : decode cX1_addToYear 66 = .ok (.iload 5, 2) := by decide +kernel
theorem dX1_addToYear_68 : decode cX1_addToYear 68 = .ok (.ifCond .ne 15, 3) := by decide +kernel
theorem dX1_addToYear_71 : decode cX1_addToYear 71 = .ok (.aload_n 0, 1) := by decide +kernel
theorem dX1_addToYear_72 : decode cX1_addToYear 72 = .ok (.getfield 24, 3) := by decide +kernel
theorem dX1_addToYear_75 : decode cX1_addToYear 75 = .ok (.aload_n 0, 1) := by decide +kernel
theorem dX1_addToYear_76 : decode cX1_addToYear 76 = .ok (.getfield 9, 3) := by decide +kernel
theorem dX1_addToYear_79 : decode cX1_addToYear 79 = .ok (.arraylength, 1) := by decide +kernel
theorem dX1_addToYear_80 : decode cX1_addToYear 80 = .ok (.if_icmp .lt 4, 3) := by decide +kernel
theorem dX1_addToYear_83 : decode cX1_addToYear 83 = .ok (.return_, 1) := by decide +kernel
theorem dX1_addToYear_84 : decode cX1_addToYear 84 = .ok (.aload_n 0, 1) := by decide +kernel
theorem dX1_addToYear_85 : decode cX1_addToYear 85 = .ok (.getfield 9, 3) := by decide +kernel
theorem dX1_addToYear_88 : decode cX1_addToYear 88 = .ok (.iload 4, 2) := by decide +kernel
theorem dX1_addToYear_90 : decode cX1_addToYear 90 = .ok (.aload_n 0, 1) := by decide +kernel
theorem dX1_addToYear_91 : decode cX1_addToYear 91 = .ok (.getfield 9, 3) := by decide +kernel
theorem dX1_addToYear_94 : decode cX1_addToYear 94 = .ok (.iload 4, 2) := by decide +kernel
theorem dX1_addToYear_96 : decode cX1_addToYear 96 = .ok (.iconst 1, 1) := by decide +kernel
theorem dX1_addToYear_97 : decode cX1_addToYear 97 = .ok (.iadd, 1) := by decide +kernel
theorem dX1_addToYear_98 : decode cX1_addToYear 98 = .ok (.aload_n 0, 1) := by decide +kernel
theorem dX1_addToYear_99 : decode cX1_addToYear 99 = .ok (.getfield 24, 3) := by decide +kernel
theorem dX1_addToYear_102 : decode cX1_addToYear 102 = .ok (.iload 4, 2) := by decide +kernel
theorem dX1_addToYear_104 : decode cX1_addToYear 104 = .ok (.isub, 1) := by decide +kernel
theorem dX1_addToYear_105 : decode cX1_addToYear 105 = .ok (.invokestatic 51, 3) := by decide +kernel
theorem dX1_addToYear_108 : decode cX1_addToYear 108 = .ok (.aload_n 0, 1) := by decide +kernel
theorem dX1_addToYear_109 : decode cX1_addToYear 109 = .ok (.getfield 9, 3) := by decide +kernel
theorem dX1_addToYear_112 : decode cX1_addToYear 112 = .ok (.iload 4, 2) := by decide +kernel
theorem dX1_addToYear_114 : decode cX1_addToYear 114 = .ok (.iload_n 3, 1) := by decide +kernel
theorem dX1_addToYear_115 : decode cX1_addToYear 115 = .ok (.iastore, 1) := by decide +kernel
theorem dX1_addToYear_116 : decode cX1_addToYear 116 = .ok (.aload_n 0, 1) := by decide +kernel
theorem dX1_addToYear_117 : decode cX1_addToYear 117 = .ok (.dup, 1) := by decide +kernel
theorem dX1_addToYear_118 : decode cX1_addToYear 118 = .ok (.getfield 24, 3) := by decide +kernel
theorem dX1_addToYear_121 : decode cX1_addToYear 121 = .ok (.iconst 1, 1) := by decide +kernel
theorem dX1_addToYear_122 : decode cX1_addToYear 122 = .ok (.iadd, 1) := by decide +kernel
theorem dX1_addToYear_123 : decode cX1_addToYear 123 = .ok (.putfield 24, 3) := by decide +kernel
theorem dX1_addToYear_126 : decode cX1_addToYear 126 = .ok (.return_, 1) := by decide +kernel
theorem dX1_unfold_0 : decode cX1_unfold 0 = .ok (.aload_n 0, 1) := by decide +kernel
theorem dX1_unfold_1 : decode cX1_unfold 1 = .ok (.iconst 0, 1) := by decide +kernel
theorem dX1_unfold_2 : decode cX1_unfold 2 = .ok (.putfield 57, 3) := by decide +kernel
theorem dX1_unfold_5 : decode cX1_unfold 5 = .ok (.iconst 0, 1) := by decide +kernel
theorem dX1_unfold_6 : decode cX1_unfold 6 = .ok (.istore_n 2, 1) := by decide +kernel
theorem dX1_unfold_7 : decode cX1_unfold 7 = .ok (.iload_n 2, 1) := by decide +kernel
theorem dX1_unfold_8 : decode cX1_unfold 8 = .ok (.bipush 12, 2) := by decide +kernel
theorem dX1_unfold_10 : decode cX1_unfold 10 = .ok (.if_icmp .ge 67, 3) := by decide +kernel
theorem dX1_unfold_13 : decode cX1_unfold 13 = .ok (.iconst 0, 1) := by decide +kernel
theorem dX1_unfold_14 : decode cX1_unfold 14 = .ok (.istore_n 3, 1) := by decide +kernel
theorem dX1_unfold_15 : decode cX1_unfold 15 = .ok (.iload_n 3, 1) := by decide +kernel
theorem dX1_unfold_16 : decode cX1_unfold 16 = .ok (.aload_n 0, 1) := by decide +kernel
theorem dX1_unfold_17 : decode cX1_unfold 17 = .ok (.getfield 24, 3) := by decide +kernel
theorem dX1_unfold_20 : decode cX1_unfold 20 = .ok (.if_icmp .ge 51, 3) := by decide +kernel
theorem dX1_unfold_23 : decode cX1_unfold 23 = .ok (.aload_n 0, 1) := by decide +kernel
theorem dX1_unfold_24 : decode cX1_unfold 24 = .ok (.getfield 9, 3) := by decide +kernel
theorem dX1_unfold_27 : decode cX1_unfold 27 = .ok (.iload_n 3, 1) := by decide +kernel
theorem dX1_unfold_28 : decode cX1_unfold 28 = .ok (.iaload, 1) := by decide +kernel
theorem dX1_unfold_29 : decode cX1_unfold 29 = .ok (.iconst 4, 1) := by decide +kernel
theorem dX1_unfold_30 : decode cX1_unfold 30 = .ok (.ishr, 1) := by decide +kernel
theorem dX1_unfold_31 : decode cX1_unfold 31 = .ok (.istore 4, 2) := by decide +kernel
theorem dX1_unfold_33 : decode cX1_unfold 33 = .ok (.aload_n 1, 1) := by decide +kernel
theorem dX1_unfold_34 : decode cX1_unfold 34 = .ok (.iload_n 2, 1) := by decide +kernel
theorem dX1_unfold_35 : decode cX1_unfold 35 = .ok (.iload 4, 2) := by decide +kernel
theorem dX1_unfold_37 : decode cX1_unfold 37 = .ok (.invokevirtual 60, 3) := by decide +kernel
theorem dX1_unfold_40 : decode cX1_unfold 40 = .ok (.ifCond .eq 25, 3) := by decide +kernel
theorem dX1_unfold_43 : decode cX1_unfold 43 = .ok (.aload_n 0, 1) := by decide +kernel
theorem dX1_unfold_44 : decode cX1_unfold 44 = .ok (.aload_n 1, 1) := by decide +kernel
theorem dX1_unfold_45 : decode cX1_unfold 45 = .ok (.iload_n 2, 1) := by decide +kernel
theorem dX1_unfold_46 : decode cX1_unfold 46 = .ok (.sipush 366, 3) := by decide +kernel
theorem dX1_unfold_49 : decode cX1_unfold 49 = .ok (.imul, 1) := by decide +kernel
theorem dX1_unfold_50 : decode cX1_unfold 50 = .ok (.iload 4, 2) := by decide +kernel
theorem dX1_unfold_52 : decode cX1_unfold 52 = .ok (.iadd, 1) := by decide +kernel
theorem dX1_unfold_53 : decode cX1_unfold 53 = .ok (.aload_n 0, 1) := by decide +kernel
theorem dX1_unfold_54 : decode cX1_unfold 54 = .ok (.getfield 9, 3) := by decide +kernel
theorem dX1_unfold_57 : decode cX1_unfold 57 = .ok (.iload_n 3, 1) := by decide +kernel
theorem dX1_unfold_58 : decode cX1_unfold 58 = .ok (.iaload, 1) := by decide +kernel
theorem dX1_unfold_59 : decode cX1_unfold 59 = .ok (.bipush 15, 2) := by decide +kernel
theorem dX1_unfold_61 : decode cX1_unfold 61 = .ok (.iand, 1) := by decide +kernel
theorem dX1_unfold_62 : decode cX1_unfold 62 = .ok (.invokevirtual 64, 3) := by decide +kernel
theorem dX1_unfold_65 : decode cX1_unfold 65 = .ok (.iinc 3 1, 3) := by decide +kernel
theorem dX1_unfold_68 : decode cX1_unfold 68 = .ok (.goto (-53), 3) := by decide +kernel
theorem dX1_unfold_71 : decode cX1_unfold 71 = .ok (.iinc 2 1, 3) := by decide +kernel
theorem dX1_unfold_74 : decode cX1_unfold 74 = .ok (.goto (-67), 3) := by decide +kernel
theorem dX1_unfold_77 : decode cX1_unfold 77 = .ok (.return_, 1) := by decide +kernel
theorem dX1_addDoor_0 : decode cX1_addDoor 0 = .ok (.aload_n 1, 1) := by decide +kernel
theorem dX1_addDoor_1 : decode cX1_addDoor 1 = .ok (.iload_n 2, 1) := by decide +kernel
theorem dX1_addDoor_2 : decode cX1_addDoor 2 = .ok (.invokevirtual 68, 3) := by decide +kernel
theorem dX1_addDoor_5 : decode cX1_addDoor 5 = .ok (.istore 4, 2) := by decide +kernel
theorem dX1_addDoor_7 : decode cX1_addDoor 7 = .ok (.iload 4, 2) := by decide +kernel
theorem dX1_addDoor_9 : decode cX1_addDoor 9 = .ok (.iload_n 3, 1) := by decide +kernel
theorem dX1_addDoor_10 : decode cX1_addDoor 10 = .ok (.invokestatic 72, 3) := by decide +kernel
theorem dX1_addDoor_13 : decode cX1_addDoor 13 = .ok (.ifCond .ne 15, 3) := by decide +kernel
theorem dX1_addDoor_16 : decode cX1_addDoor 16 = .ok (.aload_n 0, 1) := by decide +kernel
theorem dX1_addDoor_17 : decode cX1_addDoor 17 = .ok (.getfield 57, 3) := by decide +kernel
theorem dX1_addDoor_20 : decode cX1_addDoor 20 = .ok (.aload_n 0, 1) := by decide +kernel
theorem dX1_addDoor_21 : decode cX1_addDoor 21 = .ok (.getfield 15, 3) := by decide +kernel
theorem dX1_addDoor_24 : decode cX1_addDoor 24 = .ok (.arraylength, 1) := by decide +kernel
theorem dX1_addDoor_25 : decode cX1_addDoor 25 = .ok (.if_icmp .lt 4, 3) := by decide +kernel
theorem dX1_addDoor_28 : decode cX1_addDoor 28 = .ok (.return_, 1) := by decide +kernel
theorem dX1_addDoor_29 : decode cX1_addDoor 29 = .ok (.aload_n 0, 1) := by decide +kernel
theorem dX1_addDoor_30 : decode cX1_addDoor 30 = .ok (.getfield 15, 3) := by decide +kernel
theorem dX1_addDoor_33 : decode cX1_addDoor 33 = .ok (.aload_n 0, 1) := by decide +kernel
theorem dX1_addDoor_34 : decode cX1_addDoor 34 = .ok (.getfield 57, 3) := by decide +kernel
theorem dX1_addDoor_37 : decode cX1_addDoor 37 = .ok (.iload_n 2, 1) := by decide +kernel
theorem dX1_addDoor_38 : decode cX1_addDoor 38 = .ok (.iastore, 1) := by decide +kernel
theorem dX1_addDoor_39 : decode cX1_addDoor 39 = .ok (.aload_n 0, 1) := by decide +kernel
theorem dX1_addDoor_40 : decode cX1_addDoor 40 = .ok (.getfield 18, 3) := by decide +kernel
theorem dX1_addDoor_43 : decode cX1_addDoor 43 = .ok (.aload_n 0, 1) := by decide +kernel
theorem dX1_addDoor_44 : decode cX1_addDoor 44 = .ok (.getfield 57, 3) := by decide +kernel
theorem dX1_addDoor_47 : decode cX1_addDoor 47 = .ok (.iload_n 3, 1) := by decide +kernel
theorem dX1_addDoor_48 : decode cX1_addDoor 48 = .ok (.iastore, 1) := by decide +kernel
theorem dX1_addDoor_49 : decode cX1_addDoor 49 = .ok (.aload_n 0, 1) := by decide +kernel
theorem dX1_addDoor_50 : decode cX1_addDoor 50 = .ok (.getfield 21, 3) := by decide +kernel
theorem dX1_addDoor_53 : decode cX1_addDoor 53 = .ok (.aload_n 0, 1) := by decide +kernel
theorem dX1_addDoor_54 : decode cX1_addDoor 54 = .ok (.getfield 57, 3) := by decide +kernel
theorem dX1_addDoor_57 : decode cX1_addDoor 57 = .ok (.aload_n 1, 1) := by decide +kernel
theorem dX1_addDoor_58 : decode cX1_addDoor 58 = .ok (.getfield 75, 3) := by decide +kernel
theorem dX1_addDoor_61 : decode cX1_addDoor 61 = .ok (.iload_n 3, 1) := by decide +kernel
theorem dX1_addDoor_62 : decode cX1_addDoor 62 = .ok (.iaload, 1) := by decide +kernel
theorem dX1_addDoor_63 : decode cX1_addDoor 63 = .ok (.iload 4, 2) := by decide +kernel
theorem dX1_addDoor_65 : decode cX1_addDoor 65 = .ok (.iconst (-1), 1) := by decide +kernel
theorem dX1_addDoor_66 : decode cX1_addDoor 66 = .ok (.ixor, 1) := by decide +kernel
theorem dX1_addDoor_67 : decode cX1_addDoor 67 = .ok (.iand, 1) := by decide +kernel
theorem dX1_addDoor_68 : decode cX1_addDoor 68 = .ok (.iastore, 1) := by decide +kernel
theorem dX1_addDoor_69 : decode cX1_addDoor 69 = .ok (.aload_n 0, 1) := by decide +kernel
theorem dX1_addDoor_70 : decode cX1_addDoor 70 = .ok (.dup, 1) := by decide +kernel
theorem dX1_addDoor_71 : decode cX1_addDoor 71 = .ok (.getfield 57, 3) := by decide +kernel
theorem dX1_addDoor_74 : decode cX1_addDoor 74 = .ok (.iconst 1, 1) := by decide +kernel
theorem dX1_addDoor_75 : decode cX1_addDoor 75 = .ok (.iadd, 1) := by decide +kernel
theorem dX1_addDoor_76 : decode cX1_addDoor 76 = .ok (.putfield 57, 3) := by decide +kernel
theorem dX1_addDoor_79 : decode cX1_addDoor 79 = .ok (.return_, 1) := by decide +kernel
theorem dX2_init_0 : decode cX2_init 0 = .ok (.aload_n 0, 1) := by decide +kernel
theorem dX2_init_1 : decode cX2_init 1 = .ok (.invokespecial 3, 3) := by decide +kernel
theorem dX2_init_4 : decode cX2_init 4 = .ok (.aload_n 0, 1) := by decide +kernel
theorem dX2_init_5 : decode cX2_init 5 = .ok (.bipush 12, 2) := by decide +kernel
theorem dX2_init_7 : decode cX2_init 7 = .ok (.newarray .int, 2) := by decide +kernel
theorem dX2_init_9 : decode cX2_init 9 = .ok (.putfield 9, 3) := by decide +kernel
theorem dX2_init_12 : decode cX2_init 12 = .ok (.aload_n 0, 1) := by decide +kernel
theorem dX2_init_13 : decode cX2_init 13 = .ok (.bipush 12, 2) := by decide +kernel
theorem dX2_init_15 : decode cX2_init 15 = .ok (.newarray .int, 2) := by decide +kernel
theorem dX2_init_17 : decode cX2_init 17 = .ok (.putfield 15, 3) := by decide +kernel
theorem dX2_init_20 : decode cX2_init 20 = .ok (.return_, 1) := by decide +kernel
theorem dX2_forbid_0 : decode cX2_forbid 0 = .ok (.aload_n 0, 1) := by decide +kernel
theorem dX2_forbid_1 : decode cX2_forbid 1 = .ok (.iload_n 1, 1) := by decide +kernel
theorem dX2_forbid_2 : decode cX2_forbid 2 = .ok (.putfield 18, 3) := by decide +kernel
theorem dX2_forbid_5 : decode cX2_forbid 5 = .ok (.aload_n 0, 1) := by decide +kernel
theorem dX2_forbid_6 : decode cX2_forbid 6 = .ok (.iload_n 2, 1) := by decide +kernel
theorem dX2_forbid_7 : decode cX2_forbid 7 = .ok (.putfield 22, 3) := by decide +kernel
theorem dX2_forbid_10 : decode cX2_forbid 10 = .ok (.return_, 1) := by decide +kernel
theorem dX2_fewest_0 : decode cX2_fewest 0 = .ok (.aload_n 0, 1) := by decide +kernel
theorem dX2_fewest_1 : decode cX2_fewest 1 = .ok (.getfield 15, 3) := by decide +kernel
theorem dX2_fewest_4 : decode cX2_fewest 4 = .ok (.iconst 0, 1) := by decide +kernel
theorem dX2_fewest_5 : decode cX2_fewest 5 = .ok (.invokestatic 25, 3) := by decide +kernel
theorem dX2_fewest_8 : decode cX2_fewest 8 = .ok (.aload_n 0, 1) := by decide +kernel
theorem dX2_fewest_9 : decode cX2_fewest 9 = .ok (.getfield 15, 3) := by decide +kernel
theorem dX2_fewest_12 : decode cX2_fewest 12 = .ok (.iload_n 2, 1) := by decide +kernel
theorem dX2_fewest_13 : decode cX2_fewest 13 = .ok (.iconst 1, 1) := by decide +kernel
theorem dX2_fewest_14 : decode cX2_fewest 14 = .ok (.iastore, 1) := by decide +kernel
theorem dX2_fewest_15 : decode cX2_fewest 15 = .ok (.iconst (-1), 1) := by decide +kernel
theorem dX2_fewest_16 : decode cX2_fewest 16 = .ok (.istore 6, 2) := by decide +kernel
theorem dX2_fewest_18 : decode cX2_fewest 18 = .ok (.iconst 0, 1) := by decide +kernel
theorem dX2_fewest_19 : decode cX2_fewest 19 = .ok (.istore 7, 2) := by decide +kernel
theorem dX2_fewest_21 : decode cX2_fewest 21 = .ok (.iload 7, 2) := by decide +kernel
theorem dX2_fewest_23 : decode cX2_fewest 23 = .ok (.aload_n 1, 1) := by decide +kernel
theorem dX2_fewest_24 : decode cX2_fewest 24 = .ok (.getfield 31, 3) := by decide +kernel
theorem dX2_fewest_27 : decode cX2_fewest 27 = .ok (.if_icmp .ge 78, 3) := by decide +kernel
theorem dX2_fewest_30 : decode cX2_fewest 30 = .ok (.aload_n 1, 1) := by decide +kernel
theorem dX2_fewest_31 : decode cX2_fewest 31 = .ok (.getfield 36, 3) := by decide +kernel
theorem dX2_fewest_34 : decode cX2_fewest 34 = .ok (.iload 7, 2) := by decide +kernel
theorem dX2_fewest_36 : decode cX2_fewest 36 = .ok (.iaload, 1) := by decide +kernel
theorem dX2_fewest_37 : decode cX2_fewest 37 = .ok (.iload 5, 2) := by decide +kernel
theorem dX2_fewest_39 : decode cX2_fewest 39 = .ok (.if_icmp .gt 66, 3) := by decide +kernel
theorem dX2_fewest_42 : decode cX2_fewest 42 = .ok (.aload_n 1, 1) := by decide +kernel
theorem dX2_fewest_43 : decode cX2_fewest 43 = .ok (.getfield 36, 3) := by decide +kernel
theorem dX2_fewest_46 : decode cX2_fewest 46 = .ok (.iload 7, 2) := by decide +kernel
theorem dX2_fewest_48 : decode cX2_fewest 48 = .ok (.iaload, 1) := by decide +kernel
theorem dX2_fewest_49 : decode cX2_fewest 49 = .ok (.iload_n 3, 1) := by decide +kernel
theorem dX2_fewest_50 : decode cX2_fewest 50 = .ok (.if_icmp .ge 6, 3) := by decide +kernel
theorem dX2_fewest_53 : decode cX2_fewest 53 = .ok (.goto 46, 3) := by decide +kernel
theorem dX2_fewest_56 : decode cX2_fewest 56 = .ok (.aload_n 1, 1) := by decide +kernel
theorem dX2_fewest_57 : decode cX2_fewest 57 = .ok (.getfield 36, 3) := by decide +kernel
theorem dX2_fewest_60 : decode cX2_fewest 60 = .ok (.iload 7, 2) := by decide +kernel
theorem dX2_fewest_62 : decode cX2_fewest 62 = .ok (.iaload, 1) := by decide +kernel
theorem dX2_fewest_63 : decode cX2_fewest 63 = .ok (.iload 6, 2) := by decide +kernel
theorem dX2_fewest_65 : decode cX2_fewest 65 = .ok (.if_icmp .eq 27, 3) := by decide +kernel
theorem dX2_fewest_68 : decode cX2_fewest 68 = .ok (.aload_n 1, 1) := by decide +kernel
theorem dX2_fewest_69 : decode cX2_fewest 69 = .ok (.getfield 36, 3) := by decide +kernel
theorem dX2_fewest_72 : decode cX2_fewest 72 = .ok (.iload 7, 2) := by decide +kernel
theorem dX2_fewest_74 : decode cX2_fewest 74 = .ok (.iaload, 1) := by decide +kernel
theorem dX2_fewest_75 : decode cX2_fewest 75 = .ok (.istore 6, 2) := by decide +kernel
theorem dX2_fewest_77 : decode cX2_fewest 77 = .ok (.aload_n 0, 1) := by decide +kernel
theorem dX2_fewest_78 : decode cX2_fewest 78 = .ok (.getfield 15, 3) := by decide +kernel
theorem dX2_fewest_81 : decode cX2_fewest 81 = .ok (.iconst 0, 1) := by decide +kernel
theorem dX2_fewest_82 : decode cX2_fewest 82 = .ok (.aload_n 0, 1) := by decide +kernel
theorem dX2_fewest_83 : decode cX2_fewest 83 = .ok (.getfield 9, 3) := by decide +kernel
theorem dX2_fewest_86 : decode cX2_fewest 86 = .ok (.iconst 0, 1) := by decide +kernel
theorem dX2_fewest_87 : decode cX2_fewest 87 = .ok (.bipush 12, 2) := by decide +kernel
theorem dX2_fewest_89 : decode cX2_fewest 89 = .ok (.invokestatic 39, 3) := by decide +kernel
theorem dX2_fewest_92 : decode cX2_fewest 92 = .ok (.aload_n 0, 1) := by decide +kernel
theorem dX2_fewest_93 : decode cX2_fewest 93 = .ok (.aload_n 1, 1) := by decide +kernel
theorem dX2_fewest_94 : decode cX2_fewest 94 = .ok (.iload 7, 2) := by decide +kernel
theorem dX2_fewest_96 : decode cX2_fewest 96 = .ok (.invokevirtual 45, 3) := by decide +kernel
theorem dX2_fewest_99 : decode cX2_fewest 99 = .ok (.iinc 7 1, 3) := by decide +kernel
theorem dX2_fewest_102 : decode cX2_fewest 102 = .ok (.goto (-81), 3) := by decide +kernel
theorem dX2_fewest_105 : decode cX2_fewest 105 = .ok (.aload_n 0, 1) := by decide +kernel
theorem dX2_fewest_106 : decode cX2_fewest 106 = .ok (.getfield 15, 3) := by decide +kernel
theorem dX2_fewest_109 : decode cX2_fewest 109 = .ok (.iload 4, 2) := by decide +kernel
theorem dX2_fewest_111 : decode cX2_fewest 111 = .ok (.iaload, 1) := by decide +kernel
theorem dX2_fewest_112 : decode cX2_fewest 112 = .ok (.ifCond .ne 7, 3) := by decide +kernel
theorem dX2_fewest_115 : decode cX2_fewest 115 = .ok (.iconst (-1), 1) := by decide +kernel
theorem dX2_fewest_116 : decode cX2_fewest 116 = .ok (.goto 10, 3) := by decide +kernel
theorem dX2_fewest_119 : decode cX2_fewest 119 = .ok (.aload_n 0, 1) := by decide +kernel
theorem dX2_fewest_120 : decode cX2_fewest 120 = .ok (.getfield 15, 3) := by decide +kernel
theorem dX2_fewest_123 : decode cX2_fewest 123 = .ok (.iload 4, 2) := by decide +kernel
theorem dX2_fewest_125 : decode cX2_fewest 125 = .ok (.iaload, 1) := by decide +kernel
theorem dX2_fewest_126 : decode cX2_fewest 126 = .ok (.ireturn, 1) := by decide +kernel
theorem dX2_welcome_0 : decode cX2_welcome 0 = .ok (.aload_n 0, 1) := by decide +kernel
theorem dX2_welcome_1 : decode cX2_welcome 1 = .ok (.getfield 9, 3) := by decide +kernel
theorem dX2_welcome_4 : decode cX2_welcome 4 = .ok (.aload_n 1, 1) := by decide +kernel
theorem dX2_welcome_5 : decode cX2_welcome 5 = .ok (.getfield 49, 3) := by decide +kernel
theorem dX2_welcome_8 : decode cX2_welcome 8 = .ok (.iload_n 2, 1) := by decide +kernel
theorem dX2_welcome_9 : decode cX2_welcome 9 = .ok (.iaload, 1) := by decide +kernel
theorem dX2_welcome_10 : decode cX2_welcome 10 = .ok (.iaload, 1) := by decide +kernel
theorem dX2_welcome_11 : decode cX2_welcome 11 = .ok (.istore_n 3, 1) := by decide +kernel
theorem dX2_welcome_12 : decode cX2_welcome 12 = .ok (.iload_n 3, 1) := by decide +kernel
theorem dX2_welcome_13 : decode cX2_welcome 13 = .ok (.ifCond .ne 4, 3) := by decide +kernel
theorem dX2_welcome_16 : decode cX2_welcome 16 = .ok (.return_, 1) := by decide +kernel
theorem dX2_welcome_17 : decode cX2_welcome 17 = .ok (.aload_n 1, 1) := by decide +kernel
theorem dX2_welcome_18 : decode cX2_welcome 18 = .ok (.getfield 52, 3) := by decide +kernel
theorem dX2_welcome_21 : decode cX2_welcome 21 = .ok (.iload_n 2, 1) := by decide +kernel
theorem dX2_welcome_22 : decode cX2_welcome 22 = .ok (.iaload, 1) := by decide +kernel
theorem dX2_welcome_23 : decode cX2_welcome 23 = .ok (.istore 4, 2) := by decide +kernel
theorem dX2_welcome_25 : decode cX2_welcome 25 = .ok (.aload_n 1, 1) := by decide +kernel
theorem dX2_welcome_26 : decode cX2_welcome 26 = .ok (.getfield 36, 3) := by decide +kernel
theorem dX2_welcome_29 : decode cX2_welcome 29 = .ok (.iload_n 2, 1) := by decide +kernel
theorem dX2_welcome_30 : decode cX2_welcome 30 = .ok (.iaload, 1) := by decide +kernel
theorem dX2_welcome_31 : decode cX2_welcome 31 = .ok (.aload_n 0, 1) := by decide +kernel
theorem dX2_welcome_32 : decode cX2_welcome 32 = .ok (.getfield 22, 3) := by decide +kernel
theorem dX2_welcome_35 : decode cX2_welcome 35 = .ok (.if_icmp .ge 14, 3) := by decide +kernel
theorem dX2_welcome_38 : decode cX2_welcome 38 = .ok (.iload 4, 2) := by decide +kernel
theorem dX2_welcome_40 : decode cX2_welcome 40 = .ok (.aload_n 0, 1) := by decide +kernel
theorem dX2_welcome_41 : decode cX2_welcome 41 = .ok (.getfield 18, 3) := by decide +kernel
theorem dX2_welcome_44 : decode cX2_welcome 44 = .ok (.iconst (-1), 1) := by decide +kernel
theorem dX2_welcome_45 : decode cX2_welcome 45 = .ok (.ixor, 1) := by decide +kernel
theorem dX2_welcome_46 : decode cX2_welcome 46 = .ok (.iand, 1) := by decide +kernel
theorem dX2_welcome_47 : decode cX2_welcome 47 = .ok (.istore 4, 2) := by decide +kernel
theorem dX2_welcome_49 : decode cX2_welcome 49 = .ok (.iconst 0, 1) := by decide +kernel
theorem dX2_welcome_50 : decode cX2_welcome 50 = .ok (.istore 5, 2) := by decide +kernel
theorem dX2_welcome_52 : decode cX2_welcome 52 = .ok (.iload 5, 2) := by decide +kernel
theorem dX2_welcome_54 : decode cX2_welcome 54 = .ok (.bipush 12, 2) := by decide +kernel
theorem dX2_welcome_56 : decode cX2_welcome 56 = .ok (.if_icmp .ge 64, 3) := by decide +kernel
theorem dX2_welcome_59 : decode cX2_welcome 59 = .ok (.aload_n 0, 1) := by decide +kernel
theorem dX2_welcome_60 : decode cX2_welcome 60 = .ok (.getfield 15, 3) := by decide +kernel
theorem dX2_welcome_63 : decode cX2_welcome 63 = .ok (.iload 5, 2) := by decide +kernel
theorem dX2_welcome_65 : decode cX2_welcome 65 = .ok (.iaload, 1) := by decide +kernel
theorem dX2_welcome_66 : decode cX2_welcome 66 = .ok (.ifCond .eq 16, 3) := by decide +kernel
theorem dX2_welcome_69 : decode cX2_welcome 69 = .ok (.aload_n 0, 1) := by decide +kernel
theorem dX2_welcome_70 : decode cX2_welcome 70 = .ok (.getfield 15, 3) := by decide +kernel
theorem dX2_welcome_73 : decode cX2_welcome 73 = .ok (.iload 5, 2) := by decide +kernel
theorem dX2_welcome_75 : decode cX2_welcome 75 = .ok (.iaload, 1) := by decide +kernel
theorem dX2_welcome_76 : decode cX2_welcome 76 = .ok (.iload_n 3, 1) := by decide +kernel
theorem dX2_welcome_77 : decode cX2_welcome 77 = .ok (.iconst 1, 1) := by decide +kernel
theorem dX2_welcome_78 : decode cX2_welcome 78 = .ok (.iadd, 1) := by decide +kernel
theorem dX2_welcome_79 : decode cX2_welcome 79 = .ok (.if_icmp .le 7, 3) := by decide +kernel
theorem dX2_welcome_82 : decode cX2_welcome 82 = .ok (.iconst 1, 1) := by decide +kernel
theorem dX2_welcome_83 : decode cX2_welcome 83 = .ok (.goto 4, 3) := by decide +kernel
theorem dX2_welcome_86 : decode cX2_welcome 86 = .ok (.iconst 0, 1) := by decide +kernel
theorem dX2_welcome_87 : decode cX2_welcome 87 = .ok (.istore 6, 2) := by decide +kernel
theorem dX2_welcome_89 : decode cX2_welcome 89 = .ok (.iload 4, 2) := by decide +kernel
theorem dX2_welcome_91 : decode cX2_welcome 91 = .ok (.iload 5, 2) := by decide +kernel
theorem dX2_welcome_93 : decode cX2_welcome 93 = .ok (.invokestatic 55, 3) := by decide +kernel
theorem dX2_welcome_96 : decode cX2_welcome 96 = .ok (.ifCond .eq 18, 3) := by decide +kernel
theorem dX2_welcome_99 : decode cX2_welcome 99 = .ok (.iload 6, 2) := by decide +kernel
theorem dX2_welcome_101 : decode cX2_welcome 101 = .ok (.ifCond .eq 13, 3) := by decide +kernel
theorem dX2_welcome_104 : decode cX2_welcome 104 = .ok (.aload_n 0, 1) := by decide +kernel
theorem dX2_welcome_105 : decode cX2_welcome 105 = .ok (.getfield 15, 3) := by decide +kernel
theorem dX2_welcome_108 : decode cX2_welcome 108 = .ok (.iload 5, 2) := by decide +kernel
theorem dX2_welcome_110 : decode cX2_welcome 110 = .ok (.iload_n 3, 1) := by decide +kernel
theorem dX2_welcome_111 : decode cX2_welcome 111 = .ok (.iconst 1, 1) := by decide +kernel
theorem dX2_welcome_112 : decode cX2_welcome 112 = .ok (.iadd, 1) := by decide +kernel
theorem dX2_welcome_113 : decode cX2_welcome 113 = .ok (.iastore, 1) := by decide +kernel
theorem dX2_welcome_114 : decode cX2_welcome 114 = .ok (.iinc 5 1, 3) := by decide +kernel
theorem dX2_welcome_117 : decode cX2_welcome 117 = .ok (.goto (-65), 3) := by decide +kernel
theorem dX2_welcome_120 : decode cX2_welcome 120 = .ok (.return_, 1) := by decide +kernel
theorem dX3_init_0 : decode cX3_init 0 = .ok (.aload_n 0, 1) := by decide +kernel
theorem dX3_init_1 : decode cX3_init 1 = .ok (.invokespecial 3, 3) := by decide +kernel
theorem dX3_init_4 : decode cX3_init 4 = .ok (.aload_n 0, 1) := by decide +kernel
theorem dX3_init_5 : decode cX3_init 5 = .ok (.iconst 4, 1) := by decide +kernel
theorem dX3_init_6 : decode cX3_init 6 = .ok (.newarray .boolean, 2) := by decide +kernel
theorem dX3_init_8 : decode cX3_init 8 = .ok (.putfield 9, 3) := by decide +kernel
theorem dX3_init_11 : decode cX3_init 11 = .ok (.aload_n 0, 1) := by decide +kernel
theorem dX3_init_12 : decode cX3_init 12 = .ok (.iconst 4, 1) := by decide +kernel
theorem dX3_init_13 : decode cX3_init 13 = .ok (.newarray .boolean, 2) := by decide +kernel
theorem dX3_init_15 : decode cX3_init 15 = .ok (.putfield 15, 3) := by decide +kernel
theorem dX3_init_18 : decode cX3_init 18 = .ok (.aload_n 0, 1) := by decide +kernel
theorem dX3_init_19 : decode cX3_init 19 = .ok (.iconst 4, 1) := by decide +kernel
theorem dX3_init_20 : decode cX3_init 20 = .ok (.anewarray 18, 3) := by decide +kernel
theorem dX3_init_23 : decode cX3_init 23 = .ok (.putfield 20, 3) := by decide +kernel
theorem dX3_init_26 : decode cX3_init 26 = .ok (.iconst 0, 1) := by decide +kernel
theorem dX3_init_27 : decode cX3_init 27 = .ok (.istore_n 1, 1) := by decide +kernel
theorem dX3_init_28 : decode cX3_init 28 = .ok (.iload_n 1, 1) := by decide +kernel
theorem dX3_init_29 : decode cX3_init 29 = .ok (.iconst 4, 1) := by decide +kernel
theorem dX3_init_30 : decode cX3_init 30 = .ok (.if_icmp .ge 22, 3) := by decide +kernel
theorem dX3_init_33 : decode cX3_init 33 = .ok (.aload_n 0, 1) := by decide +kernel
theorem dX3_init_34 : decode cX3_init 34 = .ok (.getfield 20, 3) := by decide +kernel
theorem dX3_init_37 : decode cX3_init 37 = .ok (.iload_n 1, 1) := by decide +kernel
theorem dX3_init_38 : decode cX3_init 38 = .ok (.new 18, 3) := by decide +kernel
theorem dX3_init_41 : decode cX3_init 41 = .ok (.dup, 1) := by decide +kernel
theorem dX3_init_42 : decode cX3_init 42 = .ok (.invokespecial 24, 3) := by decide +kernel
theorem dX3_init_45 : decode cX3_init 45 = .ok (.aastore, 1) := by decide +kernel
theorem dX3_init_46 : decode cX3_init 46 = .ok (.iinc 1 1, 3) := by decide +kernel
theorem dX3_init_49 : decode cX3_init 49 = .ok (.goto (-21), 3) := by decide +kernel
theorem dX3_init_52 : decode cX3_init 52 = .ok (.return_, 1) := by decide +kernel
theorem dX3_wipe_0 : decode cX3_wipe 0 = .ok (.iconst 0, 1) := by decide +kernel
theorem dX3_wipe_1 : decode cX3_wipe 1 = .ok (.istore_n 1, 1) := by decide +kernel
theorem dX3_wipe_2 : decode cX3_wipe 2 = .ok (.iload_n 1, 1) := by decide +kernel
theorem dX3_wipe_3 : decode cX3_wipe 3 = .ok (.iconst 4, 1) := by decide +kernel
theorem dX3_wipe_4 : decode cX3_wipe 4 = .ok (.if_icmp .ge 16, 3) := by decide +kernel
theorem dX3_wipe_7 : decode cX3_wipe 7 = .ok (.aload_n 0, 1) := by decide +kernel
theorem dX3_wipe_8 : decode cX3_wipe 8 = .ok (.getfield 9, 3) := by decide +kernel
theorem dX3_wipe_11 : decode cX3_wipe 11 = .ok (.iload_n 1, 1) := by decide +kernel
theorem dX3_wipe_12 : decode cX3_wipe 12 = .ok (.iconst 0, 1) := by decide +kernel
theorem dX3_wipe_13 : decode cX3_wipe 13 = .ok (.bastore, 1) := by decide +kernel
theorem dX3_wipe_14 : decode cX3_wipe 14 = .ok (.iinc 1 1, 3) := by decide +kernel
theorem dX3_wipe_17 : decode cX3_wipe 17 = .ok (.goto (-15), 3) := by decide +kernel
theorem dX3_wipe_20 : decode cX3_wipe 20 = .ok (.return_, 1) := by decide +kernel
theorem dX3_lay_0 : decode cX3_lay 0 = .ok (.aload_n 0, 1) := by decide +kernel
theorem dX3_lay_1 : decode cX3_lay 1 = .ok (.getfield 9, 3) := by decide +kernel
theorem dX3_lay_4 : decode cX3_lay 4 = .ok (.iload_n 1, 1) := by decide +kernel
theorem dX3_lay_5 : decode cX3_lay 5 = .ok (.iconst 1, 1) := by decide +kernel
theorem dX3_lay_6 : decode cX3_lay 6 = .ok (.bastore, 1) := by decide +kernel
theorem dX3_lay_7 : decode cX3_lay 7 = .ok (.aload_n 0, 1) := by decide +kernel
theorem dX3_lay_8 : decode cX3_lay 8 = .ok (.getfield 15, 3) := by decide +kernel
theorem dX3_lay_11 : decode cX3_lay 11 = .ok (.iload_n 1, 1) := by decide +kernel
theorem dX3_lay_12 : decode cX3_lay 12 = .ok (.aload_n 2, 1) := by decide +kernel
theorem dX3_lay_13 : decode cX3_lay 13 = .ok (.getfield 25, 3) := by decide +kernel
theorem dX3_lay_16 : decode cX3_lay 16 = .ok (.bastore, 1) := by decide +kernel
theorem dX3_lay_17 : decode cX3_lay 17 = .ok (.aload_n 0, 1) := by decide +kernel
theorem dX3_lay_18 : decode cX3_lay 18 = .ok (.getfield 20, 3) := by decide +kernel
theorem dX3_lay_21 : decode cX3_lay 21 = .ok (.iload_n 1, 1) := by decide +kernel
theorem dX3_lay_22 : decode cX3_lay 22 = .ok (.aaload, 1) := by decide +kernel
theorem dX3_lay_23 : decode cX3_lay 23 = .ok (.aload_n 3, 1) := by decide +kernel
theorem dX3_lay_24 : decode cX3_lay 24 = .ok (.invokevirtual 30, 3) := by decide +kernel
theorem dX3_lay_27 : decode cX3_lay 27 = .ok (.return_, 1) := by decide +kernel
theorem dX3_goBack_0 : decode cX3_goBack 0 = .ok (.aload_n 2, 1) := by decide +kernel
theorem dX3_goBack_1 : decode cX3_goBack 1 = .ok (.aload_n 0, 1) := by decide +kernel
theorem dX3_goBack_2 : decode cX3_goBack 2 = .ok (.getfield 15, 3) := by decide +kernel
theorem dX3_goBack_5 : decode cX3_goBack 5 = .ok (.iload_n 1, 1) := by decide +kernel
theorem dX3_goBack_6 : decode cX3_goBack 6 = .ok (.baload, 1) := by decide +kernel
theorem dX3_goBack_7 : decode cX3_goBack 7 = .ok (.putfield 25, 3) := by decide +kernel
theorem dX3_goBack_10 : decode cX3_goBack 10 = .ok (.aload_n 3, 1) := by decide +kernel
theorem dX3_goBack_11 : decode cX3_goBack 11 = .ok (.aload_n 0, 1) := by decide +kernel
theorem dX3_goBack_12 : decode cX3_goBack 12 = .ok (.getfield 20, 3) := by decide +kernel
theorem dX3_goBack_15 : decode cX3_goBack 15 = .ok (.iload_n 1, 1) := by decide +kernel
theorem dX3_goBack_16 : decode cX3_goBack 16 = .ok (.aaload, 1) := by decide +kernel
theorem dX3_goBack_17 : decode cX3_goBack 17 = .ok (.invokevirtual 30, 3) := by decide +kernel
theorem dX3_goBack_20 : decode cX3_goBack 20 = .ok (.return_, 1) := by decide +kernel
theorem dX4_init_0 : decode cX4_init 0 = .ok (.aload_n 0, 1) := by decide +kernel
theorem dX4_init_1 : decode cX4_init 1 = .ok (.invokespecial 3, 3) := by decide +kernel
theorem dX4_init_4 : decode cX4_init 4 = .ok (.aload_n 0, 1) := by decide +kernel
theorem dX4_init_5 : decode cX4_init 5 = .ok (.bipush 16, 2) := by decide +kernel
theorem dX4_init_7 : decode cX4_init 7 = .ok (.newarray .int, 2) := by decide +kernel
theorem dX4_init_9 : decode cX4_init 9 = .ok (.putfield 9, 3) := by decide +kernel
theorem dX4_init_12 : decode cX4_init 12 = .ok (.aload_n 0, 1) := by decide +kernel
theorem dX4_init_13 : decode cX4_init 13 = .ok (.bipush 16, 2) := by decide +kernel
theorem dX4_init_15 : decode cX4_init 15 = .ok (.newarray .int, 2) := by decide +kernel
theorem dX4_init_17 : decode cX4_init 17 = .ok (.putfield 15, 3) := by decide +kernel
theorem dX4_init_20 : decode cX4_init 20 = .ok (.aload_n 0, 1) := by decide +kernel
theorem dX4_init_21 : decode cX4_init 21 = .ok (.bipush 16, 2) := by decide +kernel
theorem dX4_init_23 : decode cX4_init 23 = .ok (.newarray .int, 2) := by decide +kernel
theorem dX4_init_25 : decode cX4_init 25 = .ok (.putfield 18, 3) := by decide +kernel
theorem dX4_init_28 : decode cX4_init 28 = .ok (.aload_n 0, 1) := by decide +kernel
theorem dX4_init_29 : decode cX4_init 29 = .ok (.bipush 16, 2) := by decide +kernel
theorem dX4_init_31 : decode cX4_init 31 = .ok (.newarray .boolean, 2) := by decide +kernel
theorem dX4_init_33 : decode cX4_init 33 = .ok (.putfield 21, 3) := by decide +kernel
theorem dX4_init_36 : decode cX4_init 36 = .ok (.return_, 1) := by decide +kernel
theorem dX4_add_0 : decode cX4_add 0 = .ok (.aload_n 0, 1) := by decide +kernel
theorem dX4_add_1 : decode cX4_add 1 = .ok (.getfield 25, 3) := by decide +kernel
theorem dX4_add_4 : decode cX4_add 4 = .ok (.bipush 16, 2) := by decide +kernel
theorem dX4_add_6 : decode cX4_add 6 = .ok (.if_icmp .ge 54, 3) := by decide +kernel
theorem dX4_add_9 : decode cX4_add 9 = .ok (.aload_n 0, 1) := by decide +kernel
theorem dX4_add_10 : decode cX4_add 10 = .ok (.getfield 9, 3) := by decide +kernel
theorem dX4_add_13 : decode cX4_add 13 = .ok (.aload_n 0, 1) := by decide +kernel
theorem dX4_add_14 : decode cX4_add 14 = .ok (.getfield 25, 3) := by decide +kernel
theorem dX4_add_17 : decode cX4_add 17 = .ok (.iload_n 1, 1) := by decide +kernel
theorem dX4_add_18 : decode cX4_add 18 = .ok (.iastore, 1) := by decide +kernel
theorem dX4_add_19 : decode cX4_add 19 = .ok (.aload_n 0, 1) := by decide +kernel
theorem dX4_add_20 : decode cX4_add 20 = .ok (.getfield 15, 3) := by decide +kernel
theorem dX4_add_23 : decode cX4_add 23 = .ok (.aload_n 0, 1) := by decide +kernel
theorem dX4_add_24 : decode cX4_add 24 = .ok (.getfield 25, 3) := by decide +kernel
theorem dX4_add_27 : decode cX4_add 27 = .ok (.iload_n 2, 1) := by decide +kernel
theorem dX4_add_28 : decode cX4_add 28 = .ok (.iastore, 1) := by decide +kernel
theorem dX4_add_29 : decode cX4_add 29 = .ok (.aload_n 0, 1) := by decide +kernel
theorem dX4_add_30 : decode cX4_add 30 = .ok (.getfield 18, 3) := by decide +kernel
theorem dX4_add_33 : decode cX4_add 33 = .ok (.aload_n 0, 1) := by decide +kernel
theorem dX4_add_34 : decode cX4_add 34 = .ok (.getfield 25, 3) := by decide +kernel
theorem dX4_add_37 : decode cX4_add 37 = .ok (.iload_n 3, 1) := by decide +kernel
theorem dX4_add_38 : decode cX4_add 38 = .ok (.iastore, 1) := by decide +kernel
theorem dX4_add_39 : decode cX4_add 39 = .ok (.aload_n 0, 1) := by decide +kernel
theorem dX4_add_40 : decode cX4_add 40 = .ok (.getfield 21, 3) := by decide +kernel
theorem dX4_add_43 : decode cX4_add 43 = .ok (.aload_n 0, 1) := by decide +kernel
theorem dX4_add_44 : decode cX4_add 44 = .ok (.getfield 25, 3) := by decide +kernel
theorem dX4_add_47 : decode cX4_add 47 = .ok (.iload 4, 2) := by decide +kernel
theorem dX4_add_49 : decode cX4_add 49 = .ok (.bastore, 1) := by decide +kernel
theorem dX4_add_50 : decode cX4_add 50 = .ok (.aload_n 0, 1) := by decide +kernel
theorem dX4_add_51 : decode cX4_add 51 = .ok (.dup, 1) := by decide +kernel
theorem dX4_add_52 : decode cX4_add 52 = .ok (.getfield 25, 3) := by decide +kernel
theorem dX4_add_55 : decode cX4_add 55 = .ok (.iconst 1, 1) := by decide +kernel
theorem dX4_add_56 : decode cX4_add 56 = .ok (.iadd, 1) := by decide +kernel
theorem dX4_add_57 : decode cX4_add 57 = .ok (.putfield 25, 3) := by decide +kernel
theorem dX4_add_60 : decode cX4_add 60 = .ok (.return_, 1) := by decide +kernel
theorem dX4_wipe_0 : decode cX4_wipe 0 = .ok (.aload_n 0, 1) := by decide +kernel
theorem dX4_wipe_1 : decode cX4_wipe 1 = .ok (.iconst 0, 1) := by decide +kernel
theorem dX4_wipe_2 : decode cX4_wipe 2 = .ok (.putfield 25, 3) := by decide +kernel
theorem dX4_wipe_5 : decode cX4_wipe 5 = .ok (.return_, 1) := by decide +kernel
theorem dX4_copyFrom_0 : decode cX4_copyFrom 0 = .ok (.aload_n 0, 1) := by decide +kernel
theorem dX4_copyFrom_1 : decode cX4_copyFrom 1 = .ok (.aload_n 1, 1) := by decide +kernel
theorem dX4_copyFrom_2 : decode cX4_copyFrom 2 = .ok (.getfield 25, 3) := by decide +kernel
theorem dX4_copyFrom_5 : decode cX4_copyFrom 5 = .ok (.putfield 25, 3) := by decide +kernel
theorem dX4_copyFrom_8 : decode cX4_copyFrom 8 = .ok (.iconst 0, 1) := by decide +kernel
theorem dX4_copyFrom_9 : decode cX4_copyFrom 9 = .ok (.istore_n 2, 1) := by decide +kernel
theorem dX4_copyFrom_10 : decode cX4_copyFrom 10 = .ok (.iload_n 2, 1) := by decide +kernel
theorem dX4_copyFrom_11 : decode cX4_copyFrom 11 = .ok (.aload_n 0, 1) := by decide +kernel
theorem dX4_copyFrom_12 : decode cX4_copyFrom 12 = .ok (.getfield 25, 3) := by decide +kernel
theorem dX4_copyFrom_15 : decode cX4_copyFrom 15 = .ok (.if_icmp .ge 57, 3) := by decide +kernel
theorem dX4_copyFrom_18 : decode cX4_copyFrom 18 = .ok (.aload_n 0, 1) := by decide +kernel
theorem dX4_copyFrom_19 : decode cX4_copyFrom 19 = .ok (.getfield 9, 3) := by decide +kernel
theorem dX4_copyFrom_22 : decode cX4_copyFrom 22 = .ok (.iload_n 2, 1) := by decide +kernel
theorem dX4_copyFrom_23 : decode cX4_copyFrom 23 = .ok (.aload_n 1, 1) := by decide +kernel
theorem dX4_copyFrom_24 : decode cX4_copyFrom 24 = .ok (.getfield 9, 3) := by decide +kernel
theorem dX4_copyFrom_27 : decode cX4_copyFrom 27 = .ok (.iload_n 2, 1) := by decide +kernel
theorem dX4_copyFrom_28 : decode cX4_copyFrom 28 = .ok (.iaload, 1) := by decide +kernel
theorem dX4_copyFrom_29 : decode cX4_copyFrom 29 = .ok (.iastore, 1) := by decide +kernel
theorem dX4_copyFrom_30 : decode cX4_copyFrom 30 = .ok (.aload_n 0, 1) := by decide +kernel
theorem dX4_copyFrom_31 : decode cX4_copyFrom 31 = .ok (.getfield 15, 3) := by decide +kernel
theorem dX4_copyFrom_34 : decode cX4_copyFrom 34 = .ok (.iload_n 2, 1) := by decide +kernel
theorem dX4_copyFrom_35 : decode cX4_copyFrom 35 = .ok (.aload_n 1, 1) := by decide +kernel
theorem dX4_copyFrom_36 : decode cX4_copyFrom 36 = .ok (.getfield 15, 3) := by decide +kernel
theorem dX4_copyFrom_39 : decode cX4_copyFrom 39 = .ok (.iload_n 2, 1) := by decide +kernel
theorem dX4_copyFrom_40 : decode cX4_copyFrom 40 = .ok (.iaload, 1) := by decide +kernel
theorem dX4_copyFrom_41 : decode cX4_copyFrom 41 = .ok (.iastore, 1) := by decide +kernel
theorem dX4_copyFrom_42 : decode cX4_copyFrom 42 = .ok (.aload_n 0, 1) := by decide +kernel
theorem dX4_copyFrom_43 : decode cX4_copyFrom 43 = .ok (.getfield 18, 3) := by decide +kernel
theorem dX4_copyFrom_46 : decode cX4_copyFrom 46 = .ok (.iload_n 2, 1) := by decide +kernel
theorem dX4_copyFrom_47 : decode cX4_copyFrom 47 = .ok (.aload_n 1, 1) := by decide +kernel
theorem dX4_copyFrom_48 : decode cX4_copyFrom 48 = .ok (.getfield 18, 3) := by decide +kernel
theorem dX4_copyFrom_51 : decode cX4_copyFrom 51 = .ok (.iload_n 2, 1) := by decide +kernel
theorem dX4_copyFrom_52 : decode cX4_copyFrom 52 = .ok (.iaload, 1) := by decide +kernel
theorem dX4_copyFrom_53 : decode cX4_copyFrom 53 = .ok (.iastore, 1) := by decide +kernel
theorem dX4_copyFrom_54 : decode cX4_copyFrom 54 = .ok (.aload_n 0, 1) := by decide +kernel
theorem dX4_copyFrom_55 : decode cX4_copyFrom 55 = .ok (.getfield 21, 3) := by decide +kernel
theorem dX4_copyFrom_58 : decode cX4_copyFrom 58 = .ok (.iload_n 2, 1) := by decide +kernel
theorem dX4_copyFrom_59 : decode cX4_copyFrom 59 = .ok (.aload_n 1, 1) := by decide +kernel
theorem dX4_copyFrom_60 : decode cX4_copyFrom 60 = .ok (.getfield 21, 3) := by decide +kernel
theorem dX4_copyFrom_63 : decode cX4_copyFrom 63 = .ok (.iload_n 2, 1) := by decide +kernel
theorem dX4_copyFrom_64 : decode cX4_copyFrom 64 = .ok (.baload, 1) := by decide +kernel
theorem dX4_copyFrom_65 : decode cX4_copyFrom 65 = .ok (.bastore, 1) := by decide +kernel
theorem dX4_copyFrom_66 : decode cX4_copyFrom 66 = .ok (.iinc 2 1, 3) := by decide +kernel
theorem dX4_copyFrom_69 : decode cX4_copyFrom 69 = .ok (.goto (-59), 3) := by decide +kernel
theorem dX4_copyFrom_72 : decode cX4_copyFrom 72 = .ok (.return_, 1) := by decide +kernel
theorem dX4_lastAbout_0 : decode cX4_lastAbout 0 = .ok (.iconst (-1), 1) := by decide +kernel
theorem dX4_lastAbout_1 : decode cX4_lastAbout 1 = .ok (.istore_n 2, 1) := by decide +kernel
theorem dX4_lastAbout_2 : decode cX4_lastAbout 2 = .ok (.iconst 0, 1) := by decide +kernel
theorem dX4_lastAbout_3 : decode cX4_lastAbout 3 = .ok (.istore_n 3, 1) := by decide +kernel
theorem dX4_lastAbout_4 : decode cX4_lastAbout 4 = .ok (.iload_n 3, 1) := by decide +kernel
theorem dX4_lastAbout_5 : decode cX4_lastAbout 5 = .ok (.aload_n 0, 1) := by decide +kernel
theorem dX4_lastAbout_6 : decode cX4_lastAbout 6 = .ok (.getfield 25, 3) := by decide +kernel
theorem dX4_lastAbout_9 : decode cX4_lastAbout 9 = .ok (.if_icmp .ge 30, 3) := by decide +kernel
theorem dX4_lastAbout_12 : decode cX4_lastAbout 12 = .ok (.aload_n 0, 1) := by decide +kernel
theorem dX4_lastAbout_13 : decode cX4_lastAbout 13 = .ok (.getfield 15, 3) := by decide +kernel
theorem dX4_lastAbout_16 : decode cX4_lastAbout 16 = .ok (.iload_n 3, 1) := by decide +kernel
theorem dX4_lastAbout_17 : decode cX4_lastAbout 17 = .ok (.iaload, 1) := by decide +kernel
theorem dX4_lastAbout_18 : decode cX4_lastAbout 18 = .ok (.iload_n 1, 1) := by decide +kernel
theorem dX4_lastAbout_19 : decode cX4_lastAbout 19 = .ok (.if_icmp .ne 14, 3) := by decide +kernel
theorem dX4_lastAbout_22 : decode cX4_lastAbout 22 = .ok (.iload_n 2, 1) := by decide +kernel
theorem dX4_lastAbout_23 : decode cX4_lastAbout 23 = .ok (.aload_n 0, 1) := by decide +kernel
theorem dX4_lastAbout_24 : decode cX4_lastAbout 24 = .ok (.getfield 18, 3) := by decide +kernel
theorem dX4_lastAbout_27 : decode cX4_lastAbout 27 = .ok (.iload_n 3, 1) := by decide +kernel
theorem dX4_lastAbout_28 : decode cX4_lastAbout 28 = .ok (.iaload, 1) := by decide +kernel
theorem dX4_lastAbout_29 : decode cX4_lastAbout 29 = .ok (.invokestatic 29, 3) := by decide +kernel
theorem dX4_lastAbout_32 : decode cX4_lastAbout 32 = .ok (.istore_n 2, 1) := by decide +kernel
theorem dX4_lastAbout_33 : decode cX4_lastAbout 33 = .ok (.iinc 3 1, 3) := by decide +kernel
theorem dX4_lastAbout_36 : decode cX4_lastAbout 36 = .ok (.goto (-32), 3) := by decide +kernel
theorem dX4_lastAbout_39 : decode cX4_lastAbout 39 = .ok (.iload_n 2, 1) := by decide +kernel
theorem dX4_lastAbout_40 : decode cX4_lastAbout 40 = .ok (.ireturn, 1) := by decide +kernel
theorem dX4_agree_0 : decode cX4_agree 0 = .ok (.iconst 0, 1) := by decide +kernel
theorem dX4_agree_1 : decode cX4_agree 1 = .ok (.istore_n 3, 1) := by decide +kernel
theorem dX4_agree_2 : decode cX4_agree 2 = .ok (.iload_n 3, 1) := by decide +kernel
theorem dX4_agree_3 : decode cX4_agree 3 = .ok (.aload_n 0, 1) := by decide +kernel
theorem dX4_agree_4 : decode cX4_agree 4 = .ok (.getfield 25, 3) := by decide +kernel
theorem dX4_agree_7 : decode cX4_agree 7 = .ok (.if_icmp .ge 46, 3) := by decide +kernel
theorem dX4_agree_10 : decode cX4_agree 10 = .ok (.aload_n 0, 1) := by decide +kernel
theorem dX4_agree_11 : decode cX4_agree 11 = .ok (.getfield 15, 3) := by decide +kernel
theorem dX4_agree_14 : decode cX4_agree 14 = .ok (.iload_n 3, 1) := by decide +kernel
theorem dX4_agree_15 : decode cX4_agree 15 = .ok (.iaload, 1) := by decide +kernel
theorem dX4_agree_16 : decode cX4_agree 16 = .ok (.iload_n 1, 1) := by decide +kernel
theorem dX4_agree_17 : decode cX4_agree 17 = .ok (.if_icmp .ne 30, 3) := by decide +kernel
theorem dX4_agree_20 : decode cX4_agree 20 = .ok (.aload_n 2, 1) := by decide +kernel
theorem dX4_agree_21 : decode cX4_agree 21 = .ok (.aload_n 0, 1) := by decide +kernel
theorem dX4_agree_22 : decode cX4_agree 22 = .ok (.getfield 9, 3) := by decide +kernel
theorem dX4_agree_25 : decode cX4_agree 25 = .ok (.iload_n 3, 1) := by decide +kernel
theorem dX4_agree_26 : decode cX4_agree 26 = .ok (.iaload, 1) := by decide +kernel
theorem dX4_agree_27 : decode cX4_agree 27 = .ok (.aload_n 0, 1) := by decide +kernel
theorem dX4_agree_28 : decode cX4_agree 28 = .ok (.getfield 18, 3) := by decide +kernel
theorem dX4_agree_31 : decode cX4_agree 31 = .ok (.iload_n 3, 1) := by decide +kernel
theorem dX4_agree_32 : decode cX4_agree 32 = .ok (.iaload, 1) := by decide +kernel
theorem dX4_agree_33 : decode cX4_agree 33 = .ok (.invokevirtual 35, 3) := by decide +kernel
theorem dX4_agree_36 : decode cX4_agree 36 = .ok (.aload_n 0, 1) := by decide +kernel
theorem dX4_agree_37 : decode cX4_agree 37 = .ok (.getfield 21, 3) := by decide +kernel
theorem dX4_agree_40 : decode cX4_agree 40 = .ok (.iload_n 3, 1) := by decide +kernel
theorem dX4_agree_41 : decode cX4_agree 41 = .ok (.baload, 1) := by decide +kernel
theorem dX4_agree_42 : decode cX4_agree 42 = .ok (.if_icmp .eq 5, 3) := by decide +kernel
theorem dX4_agree_45 : decode cX4_agree 45 = .ok (.iconst 0, 1) := by decide +kernel
theorem dX4_agree_46 : decode cX4_agree 46 = .ok (.ireturn, 1) := by decide +kernel
theorem dX4_agree_47 : decode cX4_agree 47 = .ok (.iinc 3 1, 3) := by decide +kernel
theorem dX4_agree_50 : decode cX4_agree 50 = .ok (.goto (-48), 3) := by decide +kernel
theorem dX4_agree_53 : decode cX4_agree 53 = .ok (.iconst 1, 1) := by decide +kernel
theorem dX4_agree_54 : decode cX4_agree 54 = .ok (.ireturn, 1) := by decide +kernel
theorem dX5_init_0 : decode cX5_init 0 = .ok (.aload_n 0, 1) := by decide +kernel
theorem dX5_init_1 : decode cX5_init 1 = .ok (.invokespecial 3, 3) := by decide +kernel
theorem dX5_init_4 : decode cX5_init 4 = .ok (.aload_n 0, 1) := by decide +kernel
theorem dX5_init_5 : decode cX5_init 5 = .ok (.bipush 12, 2) := by decide +kernel
theorem dX5_init_7 : decode cX5_init 7 = .ok (.newarray .int, 2) := by decide +kernel
theorem dX5_init_9 : decode cX5_init 9 = .ok (.putfield 9, 3) := by decide +kernel
theorem dX5_init_12 : decode cX5_init 12 = .ok (.aload_n 0, 1) := by decide +kernel
theorem dX5_init_13 : decode cX5_init 13 = .ok (.bipush 12, 2) := by decide +kernel
theorem dX5_init_15 : decode cX5_init 15 = .ok (.newarray .int, 2) := by decide +kernel
theorem dX5_init_17 : decode cX5_init 17 = .ok (.putfield 15, 3) := by decide +kernel
theorem dX5_init_20 : decode cX5_init 20 = .ok (.aload_n 0, 1) := by decide +kernel
theorem dX5_init_21 : decode cX5_init 21 = .ok (.bipush 12, 2) := by decide +kernel
theorem dX5_init_23 : decode cX5_init 23 = .ok (.newarray .int, 2) := by decide +kernel
theorem dX5_init_25 : decode cX5_init 25 = .ok (.putfield 18, 3) := by decide +kernel
theorem dX5_init_28 : decode cX5_init 28 = .ok (.aload_n 0, 1) := by decide +kernel
theorem dX5_init_29 : decode cX5_init 29 = .ok (.bipush 12, 2) := by decide +kernel
theorem dX5_init_31 : decode cX5_init 31 = .ok (.newarray .int, 2) := by decide +kernel
theorem dX5_init_33 : decode cX5_init 33 = .ok (.putfield 21, 3) := by decide +kernel
theorem dX5_init_36 : decode cX5_init 36 = .ok (.return_, 1) := by decide +kernel
theorem dX5_spread_0 : decode cX5_spread 0 = .ok (.aload_n 0, 1) := by decide +kernel
theorem dX5_spread_1 : decode cX5_spread 1 = .ok (.iload_n 2, 1) := by decide +kernel
theorem dX5_spread_2 : decode cX5_spread 2 = .ok (.iload_n 3, 1) := by decide +kernel
theorem dX5_spread_3 : decode cX5_spread 3 = .ok (.invokevirtual 24, 3) := by decide +kernel
theorem dX5_spread_6 : decode cX5_spread 6 = .ok (.iconst 0, 1) := by decide +kernel
theorem dX5_spread_7 : decode cX5_spread 7 = .ok (.istore 5, 2) := by decide +kernel
theorem dX5_spread_9 : decode cX5_spread 9 = .ok (.iload 5, 2) := by decide +kernel
theorem dX5_spread_11 : decode cX5_spread 11 = .ok (.aload_n 1, 1) := by decide +kernel
theorem dX5_spread_12 : decode cX5_spread 12 = .ok (.getfield 28, 3) := by decide +kernel
theorem dX5_spread_15 : decode cX5_spread 15 = .ok (.if_icmp .ge 28, 3) := by decide +kernel
theorem dX5_spread_18 : decode cX5_spread 18 = .ok (.aload_n 1, 1) := by decide +kernel
theorem dX5_spread_19 : decode cX5_spread 19 = .ok (.getfield 34, 3) := by decide +kernel
theorem dX5_spread_22 : decode cX5_spread 22 = .ok (.iload 5, 2) := by decide +kernel
theorem dX5_spread_24 : decode cX5_spread 24 = .ok (.iaload, 1) := by decide +kernel
theorem dX5_spread_25 : decode cX5_spread 25 = .ok (.iload 4, 2) := by decide +kernel
theorem dX5_spread_27 : decode cX5_spread 27 = .ok (.if_icmp .gt 16, 3) := by decide +kernel
theorem dX5_spread_30 : decode cX5_spread 30 = .ok (.aload_n 0, 1) := by decide +kernel
theorem dX5_spread_31 : decode cX5_spread 31 = .ok (.aload_n 1, 1) := by decide +kernel
theorem dX5_spread_32 : decode cX5_spread 32 = .ok (.iload 5, 2) := by decide +kernel
theorem dX5_spread_34 : decode cX5_spread 34 = .ok (.invokevirtual 37, 3) := by decide +kernel
theorem dX5_spread_37 : decode cX5_spread 37 = .ok (.iinc 5 1, 3) := by decide +kernel
theorem dX5_spread_40 : decode cX5_spread 40 = .ok (.goto (-31), 3) := by decide +kernel
theorem dX5_spread_43 : decode cX5_spread 43 = .ok (.return_, 1) := by decide +kernel
theorem dX5_spreadThroughBoth_0 : decode cX5_spreadThroughBoth 0 = .ok (.aload_n 0, 1) := by decide +kernel
theorem dX5_spreadThroughBoth_1 : decode cX5_spreadThroughBoth 1 = .ok (.iload_n 3, 1) := by decide +kernel
theorem dX5_spreadThroughBoth_2 : decode cX5_spreadThroughBoth 2 = .ok (.iload 4, 2) := by decide +kernel
theorem dX5_spreadThroughBoth_4 : decode cX5_spreadThroughBoth 4 = .ok (.invokevirtual 24, 3) := by decide +kernel
theorem dX5_spreadThroughBoth_7 : decode cX5_spreadThroughBoth 7 = .ok (.iconst 0, 1) := by decide +kernel
theorem dX5_spreadThroughBoth_8 : decode cX5_spreadThroughBoth 8 = .ok (.istore 6, 2) := by decide +kernel
theorem dX5_spreadThroughBoth_10 : decode cX5_spreadThroughBoth 10 = .ok (.iconst 0, 1) := by decide +kernel
theorem dX5_spreadThroughBoth_11 : decode cX5_spreadThroughBoth 11 = .ok (.istore 7, 2) := by decide +kernel
theorem dX5_spreadThroughBoth_13 : decode cX5_spreadThroughBoth 13 = .ok (.iload 7, 2) := by decide +kernel
theorem dX5_spreadThroughBoth_15 : decode cX5_spreadThroughBoth 15 = .ok (.aload_n 1, 1) := by decide +kernel
theorem dX5_spreadThroughBoth_16 : decode cX5_spreadThroughBoth 16 = .ok (.getfield 28, 3) := by decide +kernel
theorem dX5_spreadThroughBoth_19 : decode cX5_spreadThroughBoth 19 = .ok (.if_icmp .ge 67, 3) := by decide +kernel
theorem dX5_spreadThroughBoth_22 : decode cX5_spreadThroughBoth 22 = .ok (.aload_n 1, 1) := by decide +kernel
theorem dX5_spreadThroughBoth_23 : decode cX5_spreadThroughBoth 23 = .ok (.getfield 34, 3) := by decide +kernel
theorem dX5_spreadThroughBoth_26 : decode cX5_spreadThroughBoth 26 = .ok (.iload 7, 2) := by decide +kernel
theorem dX5_spreadThroughBoth_28 : decode cX5_spreadThroughBoth 28 = .ok (.iaload, 1) := by decide +kernel
theorem dX5_spreadThroughBoth_29 : decode cX5_spreadThroughBoth 29 = .ok (.iload 5, 2) := by decide +kernel
theorem dX5_spreadThroughBoth_31 : decode cX5_spreadThroughBoth 31 = .ok (.if_icmp .gt 55, 3) := by decide +kernel
theorem dX5_spreadThroughBoth_34 : decode cX5_spreadThroughBoth 34 = .ok (.iload 6, 2) := by decide +kernel
theorem dX5_spreadThroughBoth_36 : decode cX5_spreadThroughBoth 36 = .ok (.aload_n 2, 1) := by decide +kernel
theorem dX5_spreadThroughBoth_37 : decode cX5_spreadThroughBoth 37 = .ok (.getfield 28, 3) := by decide +kernel
theorem dX5_spreadThroughBoth_40 : decode cX5_spreadThroughBoth 40 = .ok (.if_icmp .ge 33, 3) := by decide +kernel
theorem dX5_spreadThroughBoth_43 : decode cX5_spreadThroughBoth 43 = .ok (.aload_n 2, 1) := by decide +kernel
theorem dX5_spreadThroughBoth_44 : decode cX5_spreadThroughBoth 44 = .ok (.getfield 34, 3) := by decide +kernel
theorem dX5_spreadThroughBoth_47 : decode cX5_spreadThroughBoth 47 = .ok (.iload 6, 2) := by decide +kernel
theorem dX5_spreadThroughBoth_49 : decode cX5_spreadThroughBoth 49 = .ok (.iaload, 1) := by decide +kernel
theorem dX5_spreadThroughBoth_50 : decode cX5_spreadThroughBoth 50 = .ok (.aload_n 1, 1) := by decide +kernel
theorem dX5_spreadThroughBoth_51 : decode cX5_spreadThroughBoth 51 = .ok (.getfield 34, 3) := by decide +kernel
theorem dX5_spreadThroughBoth_54 : decode cX5_spreadThroughBoth 54 = .ok (.iload 7, 2) := by decide +kernel
theorem dX5_spreadThroughBoth_56 : decode cX5_spreadThroughBoth 56 = .ok (.iaload, 1) := by decide +kernel
theorem dX5_spreadThroughBoth_57 : decode cX5_spreadThroughBoth 57 = .ok (.if_icmp .gt 16, 3) := by decide +kernel
theorem dX5_spreadThroughBoth_60 : decode cX5_spreadThroughBoth 60 = .ok (.aload_n 0, 1) := by decide +kernel
theorem dX5_spreadThroughBoth_61 : decode cX5_spreadThroughBoth 61 = .ok (.aload_n 2, 1) := by decide +kernel
theorem dX5_spreadThroughBoth_62 : decode cX5_spreadThroughBoth 62 = .ok (.iload 6, 2) := by decide +kernel
theorem dX5_spreadThroughBoth_64 : decode cX5_spreadThroughBoth 64 = .ok (.invokevirtual 37, 3) := by decide +kernel
theorem dX5_spreadThroughBoth_67 : decode cX5_spreadThroughBoth 67 = .ok (.iinc 6 1, 3) := by decide +kernel
theorem dX5_spreadThroughBoth_70 : decode cX5_spreadThroughBoth 70 = .ok (.goto (-36), 3) := by decide +kernel
theorem dX5_spreadThroughBoth_73 : decode cX5_spreadThroughBoth 73 = .ok (.aload_n 0, 1) := by decide +kernel
theorem dX5_spreadThroughBoth_74 : decode cX5_spreadThroughBoth 74 = .ok (.aload_n 1, 1) := by decide +kernel
theorem dX5_spreadThroughBoth_75 : decode cX5_spreadThroughBoth 75 = .ok (.iload 7, 2) := by decide +kernel
theorem dX5_spreadThroughBoth_77 : decode cX5_spreadThroughBoth 77 = .ok (.invokevirtual 37, 3) := by decide +kernel
theorem dX5_spreadThroughBoth_80 : decode cX5_spreadThroughBoth 80 = .ok (.iinc 7 1, 3) := by decide +kernel
theorem dX5_spreadThroughBoth_83 : decode cX5_spreadThroughBoth 83 = .ok (.goto (-70), 3) := by decide +kernel
theorem dX5_spreadThroughBoth_86 : decode cX5_spreadThroughBoth 86 = .ok (.iload 6, 2) := by decide +kernel
theorem dX5_spreadThroughBoth_88 : decode cX5_spreadThroughBoth 88 = .ok (.aload_n 2, 1) := by decide +kernel
theorem dX5_spreadThroughBoth_89 : decode cX5_spreadThroughBoth 89 = .ok (.getfield 28, 3) := by decide +kernel
theorem dX5_spreadThroughBoth_92 : decode cX5_spreadThroughBoth 92 = .ok (.if_icmp .ge 28, 3) := by decide +kernel
theorem dX5_spreadThroughBoth_95 : decode cX5_spreadThroughBoth 95 = .ok (.aload_n 2, 1) := by decide +kernel
theorem dX5_spreadThroughBoth_96 : decode cX5_spreadThroughBoth 96 = .ok (.getfield 34, 3) := by decide +kernel
theorem dX5_spreadThroughBoth_99 : decode cX5_spreadThroughBoth 99 = .ok (.iload 6, 2) := by decide +kernel
theorem dX5_spreadThroughBoth_101 : decode cX5_spreadThroughBoth 101 = .ok (.iaload, 1) := by decide +kernel
theorem dX5_spreadThroughBoth_102 : decode cX5_spreadThroughBoth 102 = .ok (.iload 5, 2) := by decide +kernel
theorem dX5_spreadThroughBoth_104 : decode cX5_spreadThroughBoth 104 = .ok (.if_icmp .gt 16, 3) := by decide +kernel
theorem dX5_spreadThroughBoth_107 : decode cX5_spreadThroughBoth 107 = .ok (.aload_n 0, 1) := by decide +kernel
theorem dX5_spreadThroughBoth_108 : decode cX5_spreadThroughBoth 108 = .ok (.aload_n 2, 1) := by decide +kernel
theorem dX5_spreadThroughBoth_109 : decode cX5_spreadThroughBoth 109 = .ok (.iload 6, 2) := by decide +kernel
theorem dX5_spreadThroughBoth_111 : decode cX5_spreadThroughBoth 111 = .ok (.invokevirtual 37, 3) := by decide +kernel
theorem dX5_spreadThroughBoth_114 : decode cX5_spreadThroughBoth 114 = .ok (.iinc 6 1, 3) := by decide +kernel
theorem dX5_spreadThroughBoth_117 : decode cX5_spreadThroughBoth 117 = .ok (.goto (-31), 3) := by decide +kernel
theorem dX5_spreadThroughBoth_120 : decode cX5_spreadThroughBoth 120 = .ok (.return_, 1) := by decide +kernel
theorem dX5_begin_0 : decode cX5_begin 0 = .ok (.aload_n 0, 1) := by decide +kernel
theorem dX5_begin_1 : decode cX5_begin 1 = .ok (.getfield 9, 3) := by decide +kernel
theorem dX5_begin_4 : decode cX5_begin 4 = .ok (.sipush 4393, 3) := by decide +kernel
theorem dX5_begin_7 : decode cX5_begin 7 = .ok (.invokestatic 41, 3) := by decide +kernel
theorem dX5_begin_10 : decode cX5_begin 10 = .ok (.aload_n 0, 1) := by decide +kernel
theorem dX5_begin_11 : decode cX5_begin 11 = .ok (.iload_n 1, 1) := by decide +kernel
theorem dX5_begin_12 : decode cX5_begin 12 = .ok (.putfield 47, 3) := by decide +kernel
theorem dX5_begin_15 : decode cX5_begin 15 = .ok (.aload_n 0, 1) := by decide +kernel
theorem dX5_begin_16 : decode cX5_begin 16 = .ok (.getfield 9, 3) := by decide +kernel
theorem dX5_begin_19 : decode cX5_begin 19 = .ok (.iload_n 1, 1) := by decide +kernel
theorem dX5_begin_20 : decode cX5_begin 20 = .ok (.iload_n 2, 1) := by decide +kernel
theorem dX5_begin_21 : decode cX5_begin 21 = .ok (.iastore, 1) := by decide +kernel
theorem dX5_begin_22 : decode cX5_begin 22 = .ok (.aload_n 0, 1) := by decide +kernel
theorem dX5_begin_23 : decode cX5_begin 23 = .ok (.iconst 1, 1) := by decide +kernel
theorem dX5_begin_24 : decode cX5_begin 24 = .ok (.iload_n 1, 1) := by decide +kernel
theorem dX5_begin_25 : decode cX5_begin 25 = .ok (.ishl, 1) := by decide +kernel
theorem dX5_begin_26 : decode cX5_begin 26 = .ok (.putfield 50, 3) := by decide +kernel
theorem dX5_begin_29 : decode cX5_begin 29 = .ok (.return_, 1) := by decide +kernel
theorem dX5_pass_0 : decode cX5_pass 0 = .ok (.aload_n 1, 1) := by decide +kernel
theorem dX5_pass_1 : decode cX5_pass 1 = .ok (.getfield 34, 3) := by decide +kernel
theorem dX5_pass_4 : decode cX5_pass 4 = .ok (.iload_n 2, 1) := by decide +kernel
theorem dX5_pass_5 : decode cX5_pass 5 = .ok (.iaload, 1) := by decide +kernel
theorem dX5_pass_6 : decode cX5_pass 6 = .ok (.istore_n 3, 1) := by decide +kernel
theorem dX5_pass_7 : decode cX5_pass 7 = .ok (.aload_n 1, 1) := by decide +kernel
theorem dX5_pass_8 : decode cX5_pass 8 = .ok (.getfield 53, 3) := by decide +kernel
theorem dX5_pass_11 : decode cX5_pass 11 = .ok (.iload_n 2, 1) := by decide +kernel
theorem dX5_pass_12 : decode cX5_pass 12 = .ok (.iaload, 1) := by decide +kernel
theorem dX5_pass_13 : decode cX5_pass 13 = .ok (.aload_n 0, 1) := by decide +kernel
theorem dX5_pass_14 : decode cX5_pass 14 = .ok (.getfield 50, 3) := by decide +kernel
theorem dX5_pass_17 : decode cX5_pass 17 = .ok (.iconst (-1), 1) := by decide +kernel
theorem dX5_pass_18 : decode cX5_pass 18 = .ok (.ixor, 1) := by decide +kernel
theorem dX5_pass_19 : decode cX5_pass 19 = .ok (.iand, 1) := by decide +kernel
theorem dX5_pass_20 : decode cX5_pass 20 = .ok (.istore 4, 2) := by decide +kernel
theorem dX5_pass_22 : decode cX5_pass 22 = .ok (.iload 4, 2) := by decide +kernel
theorem dX5_pass_24 : decode cX5_pass 24 = .ok (.ifCond .eq 18, 3) := by decide +kernel
theorem dX5_pass_27 : decode cX5_pass 27 = .ok (.aload_n 0, 1) := by decide +kernel
theorem dX5_pass_28 : decode cX5_pass 28 = .ok (.getfield 9, 3) := by decide +kernel
theorem dX5_pass_31 : decode cX5_pass 31 = .ok (.aload_n 1, 1) := by decide +kernel
theorem dX5_pass_32 : decode cX5_pass 32 = .ok (.getfield 56, 3) := by decide +kernel
theorem dX5_pass_35 : decode cX5_pass 35 = .ok (.iload_n 2, 1) := by decide +kernel
theorem dX5_pass_36 : decode cX5_pass 36 = .ok (.iaload, 1) := by decide +kernel
theorem dX5_pass_37 : decode cX5_pass 37 = .ok (.iaload, 1) := by decide +kernel
theorem dX5_pass_38 : decode cX5_pass 38 = .ok (.iload_n 3, 1) := by decide +kernel
theorem dX5_pass_39 : decode cX5_pass 39 = .ok (.if_icmp .le 4, 3) := by decide +kernel
theorem dX5_pass_42 : decode cX5_pass 42 = .ok (.return_, 1) := by decide +kernel
theorem dX5_pass_43 : decode cX5_pass 43 = .ok (.aload_n 0, 1) := by decide +kernel
theorem dX5_pass_44 : decode cX5_pass 44 = .ok (.dup, 1) := by decide +kernel
theorem dX5_pass_45 : decode cX5_pass 45 = .ok (.getfield 50, 3) := by decide +kernel
theorem dX5_pass_48 : decode cX5_pass 48 = .ok (.iload 4, 2) := by decide +kernel
theorem dX5_pass_50 : decode cX5_pass 50 = .ok (.ior, 1) := by decide +kernel
theorem dX5_pass_51 : decode cX5_pass 51 = .ok (.putfield 50, 3) := by decide +kernel
theorem dX5_pass_54 : decode cX5_pass 54 = .ok (.iconst 0, 1) := by decide +kernel
theorem dX5_pass_55 : decode cX5_pass 55 = .ok (.istore 5, 2) := by decide +kernel
theorem dX5_pass_57 : decode cX5_pass 57 = .ok (.iload 5, 2) := by decide +kernel
theorem dX5_pass_59 : decode cX5_pass 59 = .ok (.bipush 12, 2) := by decide +kernel
theorem dX5_pass_61 : decode cX5_pass 61 = .ok (.if_icmp .ge 29, 3) := by decide +kernel
theorem dX5_pass_64 : decode cX5_pass 64 = .ok (.iload 4, 2) := by decide +kernel
theorem dX5_pass_66 : decode cX5_pass 66 = .ok (.iload 5, 2) := by decide +kernel
theorem dX5_pass_68 : decode cX5_pass 68 = .ok (.invokestatic 59, 3) := by decide +kernel
theorem dX5_pass_71 : decode cX5_pass 71 = .ok (.ifCond .eq 13, 3) := by decide +kernel
theorem dX5_pass_74 : decode cX5_pass 74 = .ok (.aload_n 0, 1) := by decide +kernel
theorem dX5_pass_75 : decode cX5_pass 75 = .ok (.getfield 9, 3) := by decide +kernel
theorem dX5_pass_78 : decode cX5_pass 78 = .ok (.iload 5, 2) := by decide +kernel
theorem dX5_pass_80 : decode cX5_pass 80 = .ok (.iload_n 3, 1) := by decide +kernel
theorem dX5_pass_81 : decode cX5_pass 81 = .ok (.iconst 1, 1) := by decide +kernel
theorem dX5_pass_82 : decode cX5_pass 82 = .ok (.iadd, 1) := by decide +kernel
theorem dX5_pass_83 : decode cX5_pass 83 = .ok (.iastore, 1) := by decide +kernel
theorem dX5_pass_84 : decode cX5_pass 84 = .ok (.iinc 5 1, 3) := by decide +kernel
theorem dX5_pass_87 : decode cX5_pass 87 = .ok (.goto (-30), 3) := by decide +kernel
theorem dX5_pass_90 : decode cX5_pass 90 = .ok (.return_, 1) := by decide +kernel
theorem dX5_had_0 : decode cX5_had 0 = .ok (.aload_n 0, 1) := by decide +kernel
theorem dX5_had_1 : decode cX5_had 1 = .ok (.getfield 9, 3) := by decide +kernel
theorem dX5_had_4 : decode cX5_had 4 = .ok (.iload_n 1, 1) := by decide +kernel
theorem dX5_had_5 : decode cX5_had 5 = .ok (.iaload, 1) := by decide +kernel
theorem dX5_had_6 : decode cX5_had 6 = .ok (.sipush 4393, 3) := by decide +kernel
theorem dX5_had_9 : decode cX5_had 9 = .ok (.if_icmp .ne 5, 3) := by decide +kernel
theorem dX5_had_12 : decode cX5_had 12 = .ok (.iconst (-1), 1) := by decide +kernel
theorem dX5_had_13 : decode cX5_had 13 = .ok (.ireturn, 1) := by decide +kernel
theorem dX5_had_14 : decode cX5_had 14 = .ok (.iload_n 1, 1) := by decide +kernel
theorem dX5_had_15 : decode cX5_had 15 = .ok (.aload_n 0, 1) := by decide +kernel
theorem dX5_had_16 : decode cX5_had 16 = .ok (.getfield 47, 3) := by decide +kernel
theorem dX5_had_19 : decode cX5_had 19 = .ok (.if_icmp .ne 12, 3) := by decide +kernel
theorem dX5_had_22 : decode cX5_had 22 = .ok (.aload_n 0, 1) := by decide +kernel
theorem dX5_had_23 : decode cX5_had 23 = .ok (.getfield 9, 3) := by decide +kernel
theorem dX5_had_26 : decode cX5_had 26 = .ok (.iload_n 1, 1) := by decide +kernel
theorem dX5_had_27 : decode cX5_had 27 = .ok (.iaload, 1) := by decide +kernel
theorem dX5_had_28 : decode cX5_had 28 = .ok (.goto 11, 3) := by decide +kernel
theorem dX5_had_31 : decode cX5_had 31 = .ok (.aload_n 0, 1) := by decide +kernel
theorem dX5_had_32 : decode cX5_had 32 = .ok (.getfield 9, 3) := by decide +kernel
theorem dX5_had_35 : decode cX5_had 35 = .ok (.iload_n 1, 1) := by decide +kernel
theorem dX5_had_36 : decode cX5_had 36 = .ok (.iaload, 1) := by decide +kernel
theorem dX5_had_37 : decode cX5_had 37 = .ok (.iconst 1, 1) := by decide +kernel
theorem dX5_had_38 : decode cX5_had 38 = .ok (.isub, 1) := by decide +kernel
theorem dX5_had_39 : decode cX5_had 39 = .ok (.ireturn, 1) := by decide +kernel
theorem dX5_hadBy_0 : decode cX5_hadBy 0 = .ok (.aload_n 0, 1) := by decide +kernel
theorem dX5_hadBy_1 : decode cX5_hadBy 1 = .ok (.iload_n 1, 1) := by decide +kernel
theorem dX5_hadBy_2 : decode cX5_hadBy 2 = .ok (.invokevirtual 63, 3) := by decide +kernel
theorem dX5_hadBy_5 : decode cX5_hadBy 5 = .ok (.istore_n 3, 1) := by decide +kernel
theorem dX5_hadBy_6 : decode cX5_hadBy 6 = .ok (.iload_n 3, 1) := by decide +kernel
theorem dX5_hadBy_7 : decode cX5_hadBy 7 = .ok (.iconst (-1), 1) := by decide +kernel
theorem dX5_hadBy_8 : decode cX5_hadBy 8 = .ok (.if_icmp .eq 12, 3) := by decide +kernel
theorem dX5_hadBy_11 : decode cX5_hadBy 11 = .ok (.iload_n 3, 1) := by decide +kernel
theorem dX5_hadBy_12 : decode cX5_hadBy 12 = .ok (.iload_n 2, 1) := by decide +kernel
theorem dX5_hadBy_13 : decode cX5_hadBy 13 = .ok (.if_icmp .gt 7, 3) := by decide +kernel
theorem dX5_hadBy_16 : decode cX5_hadBy 16 = .ok (.iconst 1, 1) := by decide +kernel
theorem dX5_hadBy_17 : decode cX5_hadBy 17 = .ok (.goto 4, 3) := by decide +kernel
theorem dX5_hadBy_20 : decode cX5_hadBy 20 = .ok (.iconst 0, 1) := by decide +kernel
theorem dX5_hadBy_21 : decode cX5_hadBy 21 = .ok (.ireturn, 1) := by decide +kernel
theorem dX5_trace_0 : decode cX5_trace 0 = .ok (.aload_n 0, 1) := by decide +kernel
theorem dX5_trace_1 : decode cX5_trace 1 = .ok (.getfield 15, 3) := by decide +kernel
theorem dX5_trace_4 : decode cX5_trace 4 = .ok (.iconst (-1), 1) := by decide +kernel
theorem dX5_trace_5 : decode cX5_trace 5 = .ok (.invokestatic 41, 3) := by decide +kernel
theorem dX5_trace_8 : decode cX5_trace 8 = .ok (.aload_n 0, 1) := by decide +kernel
theorem dX5_trace_9 : decode cX5_trace 9 = .ok (.getfield 18, 3) := by decide +kernel
theorem dX5_trace_12 : decode cX5_trace 12 = .ok (.iconst (-1), 1) := by decide +kernel
theorem dX5_trace_13 : decode cX5_trace 13 = .ok (.invokestatic 41, 3) := by decide +kernel
theorem dX5_trace_16 : decode cX5_trace 16 = .ok (.aload_n 0, 1) := by decide +kernel
theorem dX5_trace_17 : decode cX5_trace 17 = .ok (.getfield 21, 3) := by decide +kernel
theorem dX5_trace_20 : decode cX5_trace 20 = .ok (.iconst 0, 1) := by decide +kernel
theorem dX5_trace_21 : decode cX5_trace 21 = .ok (.invokestatic 41, 3) := by decide +kernel
theorem dX5_trace_24 : decode cX5_trace 24 = .ok (.aload_n 0, 1) := by decide +kernel
theorem dX5_trace_25 : decode cX5_trace 25 = .ok (.getfield 18, 3) := by decide +kernel
theorem dX5_trace_28 : decode cX5_trace 28 = .ok (.aload_n 0, 1) := by decide +kernel
theorem dX5_trace_29 : decode cX5_trace 29 = .ok (.getfield 47, 3) := by decide +kernel
theorem dX5_trace_32 : decode cX5_trace 32 = .ok (.iconst 0, 1) := by decide +kernel
theorem dX5_trace_33 : decode cX5_trace 33 = .ok (.iastore, 1) := by decide +kernel
theorem dX5_trace_34 : decode cX5_trace 34 = .ok (.aload_n 0, 1) := by decide +kernel
theorem dX5_trace_35 : decode cX5_trace 35 = .ok (.getfield 21, 3) := by decide +kernel
theorem dX5_trace_38 : decode cX5_trace 38 = .ok (.aload_n 0, 1) := by decide +kernel
theorem dX5_trace_39 : decode cX5_trace 39 = .ok (.getfield 47, 3) := by decide +kernel
theorem dX5_trace_42 : decode cX5_trace 42 = .ok (.iconst 1, 1) := by decide +kernel
theorem dX5_trace_43 : decode cX5_trace 43 = .ok (.iastore, 1) := by decide +kernel
theorem dX5_trace_44 : decode cX5_trace 44 = .ok (.iconst 0, 1) := by decide +kernel
theorem dX5_trace_45 : decode cX5_trace 45 = .ok (.istore_n 2, 1) := by decide +kernel
theorem dX5_trace_46 : decode cX5_trace 46 = .ok (.iload_n 2, 1) := by decide +kernel
theorem dX5_trace_47 : decode cX5_trace 47 = .ok (.aload_n 1, 1) := by decide +kernel
theorem dX5_trace_48 : decode cX5_trace 48 = .ok (.getfield 28, 3) := by decide +kernel
theorem dX5_trace_51 : decode cX5_trace 51 = .ok (.if_icmp .ge 35, 3) := by decide +kernel
theorem dX5_trace_54 : decode cX5_trace 54 = .ok (.aload_n 0, 1) := by decide +kernel
theorem dX5_trace_55 : decode cX5_trace 55 = .ok (.getfield 9, 3) := by decide +kernel
theorem dX5_trace_58 : decode cX5_trace 58 = .ok (.aload_n 1, 1) := by decide +kernel
theorem dX5_trace_59 : decode cX5_trace 59 = .ok (.getfield 56, 3) := by decide +kernel
theorem dX5_trace_62 : decode cX5_trace 62 = .ok (.iload_n 2, 1) := by decide +kernel
theorem dX5_trace_63 : decode cX5_trace 63 = .ok (.iaload, 1) := by decide +kernel
theorem dX5_trace_64 : decode cX5_trace 64 = .ok (.iaload, 1) := by decide +kernel
theorem dX5_trace_65 : decode cX5_trace 65 = .ok (.aload_n 1, 1) := by decide +kernel
theorem dX5_trace_66 : decode cX5_trace 66 = .ok (.getfield 34, 3) := by decide +kernel
theorem dX5_trace_69 : decode cX5_trace 69 = .ok (.iload_n 2, 1) := by decide +kernel
theorem dX5_trace_70 : decode cX5_trace 70 = .ok (.iaload, 1) := by decide +kernel
theorem dX5_trace_71 : decode cX5_trace 71 = .ok (.if_icmp .gt 9, 3) := by decide +kernel
theorem dX5_trace_74 : decode cX5_trace 74 = .ok (.aload_n 0, 1) := by decide +kernel
theorem dX5_trace_75 : decode cX5_trace 75 = .ok (.aload_n 1, 1) := by decide +kernel
theorem dX5_trace_76 : decode cX5_trace 76 = .ok (.iload_n 2, 1) := by decide +kernel
theorem dX5_trace_77 : decode cX5_trace 77 = .ok (.invokevirtual 67, 3) := by decide +kernel
theorem dX5_trace_80 : decode cX5_trace 80 = .ok (.iinc 2 1, 3) := by decide +kernel
theorem dX5_trace_83 : decode cX5_trace 83 = .ok (.goto (-37), 3) := by decide +kernel
theorem dX5_trace_86 : decode cX5_trace 86 = .ok (.return_, 1) := by decide +kernel
theorem dX5_traceDoor_0 : decode cX5_traceDoor 0 = .ok (.aload_n 1, 1) := by decide +kernel
theorem dX5_traceDoor_1 : decode cX5_traceDoor 1 = .ok (.getfield 56, 3) := by decide +kernel
theorem dX5_traceDoor_4 : decode cX5_traceDoor 4 = .ok (.iload_n 2, 1) := by decide +kernel
theorem dX5_traceDoor_5 : decode cX5_traceDoor 5 = .ok (.iaload, 1) := by decide +kernel
theorem dX5_traceDoor_6 : decode cX5_traceDoor 6 = .ok (.istore_n 3, 1) := by decide +kernel
theorem dX5_traceDoor_7 : decode cX5_traceDoor 7 = .ok (.iconst 0, 1) := by decide +kernel
theorem dX5_traceDoor_8 : decode cX5_traceDoor 8 = .ok (.istore 4, 2) := by decide +kernel
theorem dX5_traceDoor_10 : decode cX5_traceDoor 10 = .ok (.iload 4, 2) := by decide +kernel
theorem dX5_traceDoor_12 : decode cX5_traceDoor 12 = .ok (.bipush 12, 2) := by decide +kernel
theorem dX5_traceDoor_14 : decode cX5_traceDoor 14 = .ok (.if_icmp .ge 123, 3) := by decide +kernel
theorem dX5_traceDoor_17 : decode cX5_traceDoor 17 = .ok (.aload_n 0, 1) := by decide +kernel
theorem dX5_traceDoor_18 : decode cX5_traceDoor 18 = .ok (.getfield 9, 3) := by decide +kernel
theorem dX5_traceDoor_21 : decode cX5_traceDoor 21 = .ok (.iload 4, 2) := by decide +kernel
theorem dX5_traceDoor_23 : decode cX5_traceDoor 23 = .ok (.iaload, 1) := by decide +kernel
theorem dX5_traceDoor_24 : decode cX5_traceDoor 24 = .ok (.aload_n 1, 1) := by decide +kernel
theorem dX5_traceDoor_25 : decode cX5_traceDoor 25 = .ok (.getfield 34, 3) := by decide +kernel
theorem dX5_traceDoor_28 : decode cX5_traceDoor 28 = .ok (.iload_n 2, 1) := by decide +kernel
theorem dX5_traceDoor_29 : decode cX5_traceDoor 29 = .ok (.iaload, 1) := by decide +kernel
theorem dX5_traceDoor_30 : decode cX5_traceDoor 30 = .ok (.iconst 1, 1) := by decide +kernel
theorem dX5_traceDoor_31 : decode cX5_traceDoor 31 = .ok (.iadd, 1) := by decide +kernel
theorem dX5_traceDoor_32 : decode cX5_traceDoor 32 = .ok (.if_icmp .ne 16, 3) := by decide +kernel
theorem dX5_traceDoor_35 : decode cX5_traceDoor 35 = .ok (.iload 4, 2) := by decide +kernel
theorem dX5_traceDoor_37 : decode cX5_traceDoor 37 = .ok (.aload_n 0, 1) := by decide +kernel
theorem dX5_traceDoor_38 : decode cX5_traceDoor 38 = .ok (.getfield 47, 3) := by decide +kernel
theorem dX5_traceDoor_41 : decode cX5_traceDoor 41 = .ok (.if_icmp .eq 7, 3) := by decide +kernel
theorem dX5_traceDoor_44 : decode cX5_traceDoor 44 = .ok (.iconst 1, 1) := by decide +kernel
theorem dX5_traceDoor_45 : decode cX5_traceDoor 45 = .ok (.goto 4, 3) := by decide +kernel
theorem dX5_traceDoor_48 : decode cX5_traceDoor 48 = .ok (.iconst 0, 1) := by decide +kernel
theorem dX5_traceDoor_49 : decode cX5_traceDoor 49 = .ok (.istore 5, 2) := by decide +kernel
theorem dX5_traceDoor_51 : decode cX5_traceDoor 51 = .ok (.iload 5, 2) := by decide +kernel
theorem dX5_traceDoor_53 : decode cX5_traceDoor 53 = .ok (.ifCond .eq 78, 3) := by decide +kernel
theorem dX5_traceDoor_56 : decode cX5_traceDoor 56 = .ok (.aload_n 1, 1) := by decide +kernel
theorem dX5_traceDoor_57 : decode cX5_traceDoor 57 = .ok (.getfield 53, 3) := by decide +kernel
theorem dX5_traceDoor_60 : decode cX5_traceDoor 60 = .ok (.iload_n 2, 1) := by decide +kernel
theorem dX5_traceDoor_61 : decode cX5_traceDoor 61 = .ok (.iaload, 1) := by decide +kernel
theorem dX5_traceDoor_62 : decode cX5_traceDoor 62 = .ok (.iload 4, 2) := by decide +kernel
theorem dX5_traceDoor_64 : decode cX5_traceDoor 64 = .ok (.invokestatic 59, 3) := by decide +kernel
theorem dX5_traceDoor_67 : decode cX5_traceDoor 67 = .ok (.ifCond .ne 6, 3) := by decide +kernel
theorem dX5_traceDoor_70 : decode cX5_traceDoor 70 = .ok (.goto 61, 3) := by decide +kernel
theorem dX5_traceDoor_73 : decode cX5_traceDoor 73 = .ok (.aload_n 0, 1) := by decide +kernel
theorem dX5_traceDoor_74 : decode cX5_traceDoor 74 = .ok (.getfield 15, 3) := by decide +kernel
theorem dX5_traceDoor_77 : decode cX5_traceDoor 77 = .ok (.iload 4, 2) := by decide +kernel
theorem dX5_traceDoor_79 : decode cX5_traceDoor 79 = .ok (.iaload, 1) := by decide +kernel
theorem dX5_traceDoor_80 : decode cX5_traceDoor 80 = .ok (.iconst (-1), 1) := by decide +kernel
theorem dX5_traceDoor_81 : decode cX5_traceDoor 81 = .ok (.if_icmp .ne 26, 3) := by decide +kernel
theorem dX5_traceDoor_84 : decode cX5_traceDoor 84 = .ok (.aload_n 0, 1) := by decide +kernel
theorem dX5_traceDoor_85 : decode cX5_traceDoor 85 = .ok (.getfield 15, 3) := by decide +kernel
theorem dX5_traceDoor_88 : decode cX5_traceDoor 88 = .ok (.iload 4, 2) := by decide +kernel
theorem dX5_traceDoor_90 : decode cX5_traceDoor 90 = .ok (.iload_n 3, 1) := by decide +kernel
theorem dX5_traceDoor_91 : decode cX5_traceDoor 91 = .ok (.iastore, 1) := by decide +kernel
theorem dX5_traceDoor_92 : decode cX5_traceDoor 92 = .ok (.aload_n 0, 1) := by decide +kernel
theorem dX5_traceDoor_93 : decode cX5_traceDoor 93 = .ok (.getfield 18, 3) := by decide +kernel
theorem dX5_traceDoor_96 : decode cX5_traceDoor 96 = .ok (.iload 4, 2) := by decide +kernel
theorem dX5_traceDoor_98 : decode cX5_traceDoor 98 = .ok (.aload_n 0, 1) := by decide +kernel
theorem dX5_traceDoor_99 : decode cX5_traceDoor 99 = .ok (.getfield 18, 3) := by decide +kernel
theorem dX5_traceDoor_102 : decode cX5_traceDoor 102 = .ok (.iload_n 3, 1) := by decide +kernel
theorem dX5_traceDoor_103 : decode cX5_traceDoor 103 = .ok (.iaload, 1) := by decide +kernel
theorem dX5_traceDoor_104 : decode cX5_traceDoor 104 = .ok (.iconst 1, 1) := by decide +kernel
theorem dX5_traceDoor_105 : decode cX5_traceDoor 105 = .ok (.iadd, 1) := by decide +kernel
theorem dX5_traceDoor_106 : decode cX5_traceDoor 106 = .ok (.iastore, 1) := by decide +kernel
theorem dX5_traceDoor_107 : decode cX5_traceDoor 107 = .ok (.aload_n 0, 1) := by decide +kernel
theorem dX5_traceDoor_108 : decode cX5_traceDoor 108 = .ok (.getfield 21, 3) := by decide +kernel
theorem dX5_traceDoor_111 : decode cX5_traceDoor 111 = .ok (.iload 4, 2) := by decide +kernel
theorem dX5_traceDoor_113 : decode cX5_traceDoor 113 = .ok (.aload_n 0, 1) := by decide +kernel
theorem dX5_traceDoor_114 : decode cX5_traceDoor 114 = .ok (.getfield 21, 3) := by decide +kernel
theorem dX5_traceDoor_117 : decode cX5_traceDoor 117 = .ok (.iload 4, 2) := by decide +kernel
theorem dX5_traceDoor_119 : decode cX5_traceDoor 119 = .ok (.iaload, 1) := by decide +kernel
theorem dX5_traceDoor_120 : decode cX5_traceDoor 120 = .ok (.aload_n 0, 1) := by decide +kernel
theorem dX5_traceDoor_121 : decode cX5_traceDoor 121 = .ok (.getfield 21, 3) := by decide +kernel
theorem dX5_traceDoor_124 : decode cX5_traceDoor 124 = .ok (.iload_n 3, 1) := by decide +kernel
theorem dX5_traceDoor_125 : decode cX5_traceDoor 125 = .ok (.iaload, 1) := by decide +kernel
theorem dX5_traceDoor_126 : decode cX5_traceDoor 126 = .ok (.iadd, 1) := by decide +kernel
theorem dX5_traceDoor_127 : decode cX5_traceDoor 127 = .ok (.ldc 70, 2) := by decide +kernel
theorem dX5_traceDoor_129 : decode cX5_traceDoor 129 = .ok (.irem, 1) := by decide +kernel
theorem dX5_traceDoor_130 : decode cX5_traceDoor 130 = .ok (.iastore, 1) := by decide +kernel
theorem dX5_traceDoor_131 : decode cX5_traceDoor 131 = .ok (.iinc 4 1, 3) := by decide +kernel
theorem dX5_traceDoor_134 : decode cX5_traceDoor 134 = .ok (.goto (-124), 3) := by decide +kernel
theorem dX5_traceDoor_137 : decode cX5_traceDoor 137 = .ok (.return_, 1) := by decide +kernel
theorem dX6_init_0 : decode cX6_init 0 = .ok (.aload_n 0, 1) := by decide +kernel
theorem dX6_init_1 : decode cX6_init 1 = .ok (.invokespecial 3, 3) := by decide +kernel
theorem dX6_init_4 : decode cX6_init 4 = .ok (.aload_n 0, 1) := by decide +kernel
theorem dX6_init_5 : decode cX6_init 5 = .ok (.bipush 12, 2) := by decide +kernel
theorem dX6_init_7 : decode cX6_init 7 = .ok (.newarray .int, 2) := by decide +kernel
theorem dX6_init_9 : decode cX6_init 9 = .ok (.putfield 9, 3) := by decide +kernel
theorem dX6_init_12 : decode cX6_init 12 = .ok (.aload_n 0, 1) := by decide +kernel
theorem dX6_init_13 : decode cX6_init 13 = .ok (.sipush 288, 3) := by decide +kernel
theorem dX6_init_16 : decode cX6_init 16 = .ok (.newarray .int, 2) := by decide +kernel
theorem dX6_init_18 : decode cX6_init 18 = .ok (.putfield 15, 3) := by decide +kernel
theorem dX6_init_21 : decode cX6_init 21 = .ok (.aload_n 0, 1) := by decide +kernel
theorem dX6_init_22 : decode cX6_init 22 = .ok (.sipush 288, 3) := by decide +kernel
theorem dX6_init_25 : decode cX6_init 25 = .ok (.newarray .boolean, 2) := by decide +kernel
theorem dX6_init_27 : decode cX6_init 27 = .ok (.putfield 18, 3) := by decide +kernel
theorem dX6_init_30 : decode cX6_init 30 = .ok (.aload_n 0, 1) := by decide +kernel
theorem dX6_init_31 : decode cX6_init 31 = .ok (.sipush 288, 3) := by decide +kernel
theorem dX6_init_34 : decode cX6_init 34 = .ok (.newarray .int, 2) := by decide +kernel
theorem dX6_init_36 : decode cX6_init 36 = .ok (.putfield 22, 3) := by decide +kernel
theorem dX6_init_39 : decode cX6_init 39 = .ok (.aload_n 0, 1) := by decide +kernel
theorem dX6_init_40 : decode cX6_init 40 = .ok (.sipush 288, 3) := by decide +kernel
theorem dX6_init_43 : decode cX6_init 43 = .ok (.newarray .int, 2) := by decide +kernel
theorem dX6_init_45 : decode cX6_init 45 = .ok (.putfield 25, 3) := by decide +kernel
theorem dX6_init_48 : decode cX6_init 48 = .ok (.aload_n 0, 1) := by decide +kernel
theorem dX6_init_49 : decode cX6_init 49 = .ok (.sipush 288, 3) := by decide +kernel
theorem dX6_init_52 : decode cX6_init 52 = .ok (.newarray .int, 2) := by decide +kernel
theorem dX6_init_54 : decode cX6_init 54 = .ok (.putfield 28, 3) := by decide +kernel
theorem dX6_init_57 : decode cX6_init 57 = .ok (.aload_n 0, 1) := by decide +kernel
theorem dX6_init_58 : decode cX6_init 58 = .ok (.bipush 12, 2) := by decide +kernel
theorem dX6_init_60 : decode cX6_init 60 = .ok (.newarray .int, 2) := by decide +kernel
theorem dX6_init_62 : decode cX6_init 62 = .ok (.putfield 31, 3) := by decide +kernel
theorem dX6_init_65 : decode cX6_init 65 = .ok (.aload_n 0, 1) := by decide +kernel
theorem dX6_init_66 : decode cX6_init 66 = .ok (.sipush 576, 3) := by decide +kernel
theorem dX6_init_69 : decode cX6_init 69 = .ok (.newarray .int, 2) := by decide +kernel
theorem dX6_init_71 : decode cX6_init 71 = .ok (.putfield 34, 3) := by decide +kernel
theorem dX6_init_74 : decode cX6_init 74 = .ok (.return_, 1) := by decide +kernel
theorem dX6_fewest_0 : decode cX6_fewest 0 = .ok (.aload_n 0, 1) := by decide +kernel
theorem dX6_fewest_1 : decode cX6_fewest 1 = .ok (.iload 4, 2) := by decide +kernel
theorem dX6_fewest_3 : decode cX6_fewest 3 = .ok (.putfield 37, 3) := by decide +kernel
theorem dX6_fewest_6 : decode cX6_fewest 6 = .ok (.aload_n 0, 1) := by decide +kernel
theorem dX6_fewest_7 : decode cX6_fewest 7 = .ok (.aload_n 1, 1) := by decide +kernel
theorem dX6_fewest_8 : decode cX6_fewest 8 = .ok (.iload_n 3, 1) := by decide +kernel
theorem dX6_fewest_9 : decode cX6_fewest 9 = .ok (.iload 5, 2) := by decide +kernel
theorem dX6_fewest_11 : decode cX6_fewest 11 = .ok (.invokevirtual 41, 3) := by decide +kernel
theorem dX6_fewest_14 : decode cX6_fewest 14 = .ok (.iconst 0, 1) := by decide +kernel
theorem dX6_fewest_15 : decode cX6_fewest 15 = .ok (.istore 6, 2) := by decide +kernel
theorem dX6_fewest_17 : decode cX6_fewest 17 = .ok (.aload_n 0, 1) := by decide +kernel
theorem dX6_fewest_18 : decode cX6_fewest 18 = .ok (.getfield 45, 3) := by decide +kernel
theorem dX6_fewest_21 : decode cX6_fewest 21 = .ok (.istore 7, 2) := by decide +kernel
theorem dX6_fewest_23 : decode cX6_fewest 23 = .ok (.iload 7, 2) := by decide +kernel
theorem dX6_fewest_25 : decode cX6_fewest 25 = .ok (.aload_n 0, 1) := by decide +kernel
theorem dX6_fewest_26 : decode cX6_fewest 26 = .ok (.getfield 48, 3) := by decide +kernel
theorem dX6_fewest_29 : decode cX6_fewest 29 = .ok (.if_icmp .ge 25, 3) := by decide +kernel
theorem dX6_fewest_32 : decode cX6_fewest 32 = .ok (.aload_n 0, 1) := by decide +kernel
theorem dX6_fewest_33 : decode cX6_fewest 33 = .ok (.aload_n 1, 1) := by decide +kernel
theorem dX6_fewest_34 : decode cX6_fewest 34 = .ok (.iload_n 2, 1) := by decide +kernel
theorem dX6_fewest_35 : decode cX6_fewest 35 = .ok (.iload_n 3, 1) := by decide +kernel
theorem dX6_fewest_36 : decode cX6_fewest 36 = .ok (.invokevirtual 51, 3) := by decide +kernel
theorem dX6_fewest_39 : decode cX6_fewest 39 = .ok (.ifCond .ne 6, 3) := by decide +kernel
theorem dX6_fewest_42 : decode cX6_fewest 42 = .ok (.goto 12, 3) := by decide +kernel
theorem dX6_fewest_45 : decode cX6_fewest 45 = .ok (.iinc 6 1, 3) := by decide +kernel
theorem dX6_fewest_48 : decode cX6_fewest 48 = .ok (.iinc 7 1, 3) := by decide +kernel
theorem dX6_fewest_51 : decode cX6_fewest 51 = .ok (.goto (-28), 3) := by decide +kernel
theorem dX6_fewest_54 : decode cX6_fewest 54 = .ok (.iload 6, 2) := by decide +kernel
theorem dX6_fewest_56 : decode cX6_fewest 56 = .ok (.ireturn, 1) := by decide +kernel
theorem dX6_takeDoors_0 : decode cX6_takeDoors 0 = .ok (.aload_n 0, 1) := by decide +kernel
theorem dX6_takeDoors_1 : decode cX6_takeDoors 1 = .ok (.iconst 0, 1) := by decide +kernel
theorem dX6_takeDoors_2 : decode cX6_takeDoors 2 = .ok (.putfield 45, 3) := by decide +kernel
theorem dX6_takeDoors_5 : decode cX6_takeDoors 5 = .ok (.aload_n 0, 1) := by decide +kernel
theorem dX6_takeDoors_6 : decode cX6_takeDoors 6 = .ok (.getfield 45, 3) := by decide +kernel
theorem dX6_takeDoors_9 : decode cX6_takeDoors 9 = .ok (.aload_n 1, 1) := by decide +kernel
theorem dX6_takeDoors_10 : decode cX6_takeDoors 10 = .ok (.getfield 55, 3) := by decide +kernel
theorem dX6_takeDoors_13 : decode cX6_takeDoors 13 = .ok (.if_icmp .ge 29, 3) := by decide +kernel
theorem dX6_takeDoors_16 : decode cX6_takeDoors 16 = .ok (.aload_n 1, 1) := by decide +kernel
theorem dX6_takeDoors_17 : decode cX6_takeDoors 17 = .ok (.getfield 60, 3) := by decide +kernel
theorem dX6_takeDoors_20 : decode cX6_takeDoors 20 = .ok (.aload_n 0, 1) := by decide +kernel
theorem dX6_takeDoors_21 : decode cX6_takeDoors 21 = .ok (.getfield 45, 3) := by decide +kernel
theorem dX6_takeDoors_24 : decode cX6_takeDoors 24 = .ok (.iaload, 1) := by decide +kernel
theorem dX6_takeDoors_25 : decode cX6_takeDoors 25 = .ok (.iload_n 2, 1) := by decide +kernel
theorem dX6_takeDoors_26 : decode cX6_takeDoors 26 = .ok (.if_icmp .ge 16, 3) := by decide +kernel
theorem dX6_takeDoors_29 : decode cX6_takeDoors 29 = .ok (.aload_n 0, 1) := by decide +kernel
theorem dX6_takeDoors_30 : decode cX6_takeDoors 30 = .ok (.dup, 1) := by decide +kernel
theorem dX6_takeDoors_31 : decode cX6_takeDoors 31 = .ok (.getfield 45, 3) := by decide +kernel
theorem dX6_takeDoors_34 : decode cX6_takeDoors 34 = .ok (.iconst 1, 1) := by decide +kernel
theorem dX6_takeDoors_35 : decode cX6_takeDoors 35 = .ok (.iadd, 1) := by decide +kernel
theorem dX6_takeDoors_36 : decode cX6_takeDoors 36 = .ok (.putfield 45, 3) := by decide +kernel
theorem dX6_takeDoors_39 : decode cX6_takeDoors 39 = .ok (.goto (-34), 3) := by decide +kernel
theorem dX6_takeDoors_42 : decode cX6_takeDoors 42 = .ok (.aload_n 0, 1) := by decide +kernel
theorem dX6_takeDoors_43 : decode cX6_takeDoors 43 = .ok (.getfield 9, 3) := by decide +kernel
theorem dX6_takeDoors_46 : decode cX6_takeDoors 46 = .ok (.iconst (-1), 1) := by decide +kernel
theorem dX6_takeDoors_47 : decode cX6_takeDoors 47 = .ok (.invokestatic 63, 3) := by decide +kernel
theorem dX6_takeDoors_50 : decode cX6_takeDoors 50 = .ok (.aload_n 0, 1) := by decide +kernel
theorem dX6_takeDoors_51 : decode cX6_takeDoors 51 = .ok (.aload_n 0, 1) := by decide +kernel
theorem dX6_takeDoors_52 : decode cX6_takeDoors 52 = .ok (.getfield 45, 3) := by decide +kernel
theorem dX6_takeDoors_55 : decode cX6_takeDoors 55 = .ok (.putfield 48, 3) := by decide +kernel
theorem dX6_takeDoors_58 : decode cX6_takeDoors 58 = .ok (.aload_n 0, 1) := by decide +kernel
theorem dX6_takeDoors_59 : decode cX6_takeDoors 59 = .ok (.getfield 48, 3) := by decide +kernel
theorem dX6_takeDoors_62 : decode cX6_takeDoors 62 = .ok (.aload_n 1, 1) := by decide +kernel
theorem dX6_takeDoors_63 : decode cX6_takeDoors 63 = .ok (.getfield 55, 3) := by decide +kernel
theorem dX6_takeDoors_66 : decode cX6_takeDoors 66 = .ok (.if_icmp .ge 77, 3) := by decide +kernel
theorem dX6_takeDoors_69 : decode cX6_takeDoors 69 = .ok (.aload_n 1, 1) := by decide +kernel
theorem dX6_takeDoors_70 : decode cX6_takeDoors 70 = .ok (.getfield 60, 3) := by decide +kernel
theorem dX6_takeDoors_73 : decode cX6_takeDoors 73 = .ok (.aload_n 0, 1) := by decide +kernel
theorem dX6_takeDoors_74 : decode cX6_takeDoors 74 = .ok (.getfield 48, 3) := by decide +kernel
theorem dX6_takeDoors_77 : decode cX6_takeDoors 77 = .ok (.iaload, 1) := by decide +kernel
theorem dX6_takeDoors_78 : decode cX6_takeDoors 78 = .ok (.iload_n 3, 1) := by decide +kernel
theorem dX6_takeDoors_79 : decode cX6_takeDoors 79 = .ok (.if_icmp .gt 64, 3) := by decide +kernel
theorem dX6_takeDoors_82 : decode cX6_takeDoors 82 = .ok (.aload_n 1, 1) := by decide +kernel
theorem dX6_takeDoors_83 : decode cX6_takeDoors 83 = .ok (.getfield 69, 3) := by decide +kernel
theorem dX6_takeDoors_86 : decode cX6_takeDoors 86 = .ok (.aload_n 0, 1) := by decide +kernel
theorem dX6_takeDoors_87 : decode cX6_takeDoors 87 = .ok (.getfield 48, 3) := by decide +kernel
theorem dX6_takeDoors_90 : decode cX6_takeDoors 90 = .ok (.iaload, 1) := by decide +kernel
theorem dX6_takeDoors_91 : decode cX6_takeDoors 91 = .ok (.istore 4, 2) := by decide +kernel
theorem dX6_takeDoors_93 : decode cX6_takeDoors 93 = .ok (.aload_n 0, 1) := by decide +kernel
theorem dX6_takeDoors_94 : decode cX6_takeDoors 94 = .ok (.getfield 15, 3) := by decide +kernel
theorem dX6_takeDoors_97 : decode cX6_takeDoors 97 = .ok (.aload_n 0, 1) := by decide +kernel
theorem dX6_takeDoors_98 : decode cX6_takeDoors 98 = .ok (.getfield 48, 3) := by decide +kernel
theorem dX6_takeDoors_101 : decode cX6_takeDoors 101 = .ok (.aload_n 0, 1) := by decide +kernel
theorem dX6_takeDoors_102 : decode cX6_takeDoors 102 = .ok (.getfield 9, 3) := by decide +kernel
theorem dX6_takeDoors_105 : decode cX6_takeDoors 105 = .ok (.iload 4, 2) := by decide +kernel
theorem dX6_takeDoors_107 : decode cX6_takeDoors 107 = .ok (.iaload, 1) := by decide +kernel
theorem dX6_takeDoors_108 : decode cX6_takeDoors 108 = .ok (.iastore, 1) := by decide +kernel
theorem dX6_takeDoors_109 : decode cX6_takeDoors 109 = .ok (.aload_n 0, 1) := by decide +kernel
theorem dX6_takeDoors_110 : decode cX6_takeDoors 110 = .ok (.getfield 9, 3) := by decide +kernel
theorem dX6_takeDoors_113 : decode cX6_takeDoors 113 = .ok (.iload 4, 2) := by decide +kernel
theorem dX6_takeDoors_115 : decode cX6_takeDoors 115 = .ok (.aload_n 0, 1) := by decide +kernel
theorem dX6_takeDoors_116 : decode cX6_takeDoors 116 = .ok (.getfield 48, 3) := by decide +kernel
theorem dX6_takeDoors_119 : decode cX6_takeDoors 119 = .ok (.iastore, 1) := by decide +kernel
theorem dX6_takeDoors_120 : decode cX6_takeDoors 120 = .ok (.aload_n 0, 1) := by decide +kernel
theorem dX6_takeDoors_121 : decode cX6_takeDoors 121 = .ok (.getfield 18, 3) := by decide +kernel
theorem dX6_takeDoors_124 : decode cX6_takeDoors 124 = .ok (.aload_n 0, 1) := by decide +kernel
theorem dX6_takeDoors_125 : decode cX6_takeDoors 125 = .ok (.getfield 48, 3) := by decide +kernel
theorem dX6_takeDoors_128 : decode cX6_takeDoors 128 = .ok (.iconst 0, 1) := by decide +kernel
theorem dX6_takeDoors_129 : decode cX6_takeDoors 129 = .ok (.bastore, 1) := by decide +kernel
theorem dX6_takeDoors_130 : decode cX6_takeDoors 130 = .ok (.aload_n 0, 1) := by decide +kernel
theorem dX6_takeDoors_131 : decode cX6_takeDoors 131 = .ok (.dup, 1) := by decide +kernel
theorem dX6_takeDoors_132 : decode cX6_takeDoors 132 = .ok (.getfield 48, 3) := by decide +kernel
theorem dX6_takeDoors_135 : decode cX6_takeDoors 135 = .ok (.iconst 1, 1) := by decide +kernel
theorem dX6_takeDoors_136 : decode cX6_takeDoors 136 = .ok (.iadd, 1) := by decide +kernel
theorem dX6_takeDoors_137 : decode cX6_takeDoors 137 = .ok (.putfield 48, 3) := by decide +kernel
theorem dX6_takeDoors_140 : decode cX6_takeDoors 140 = .ok (.goto (-82), 3) := by decide +kernel
theorem dX6_takeDoors_143 : decode cX6_takeDoors 143 = .ok (.return_, 1) := by decide +kernel
theorem dX6_addWay_0 : decode cX6_addWay 0 = .ok (.aload_n 0, 1) := by decide +kernel
theorem dX6_addWay_1 : decode cX6_addWay 1 = .ok (.getfield 45, 3) := by decide +kernel
theorem dX6_addWay_4 : decode cX6_addWay 4 = .ok (.istore 4, 2) := by decide +kernel
theorem dX6_addWay_6 : decode cX6_addWay 6 = .ok (.iload 4, 2) := by decide +kernel
theorem dX6_addWay_8 : decode cX6_addWay 8 = .ok (.aload_n 0, 1) := by decide +kernel
theorem dX6_addWay_9 : decode cX6_addWay 9 = .ok (.getfield 48, 3) := by decide +kernel
theorem dX6_addWay_12 : decode cX6_addWay 12 = .ok (.if_icmp .ge 27, 3) := by decide +kernel
theorem dX6_addWay_15 : decode cX6_addWay 15 = .ok (.aload_n 0, 1) := by decide +kernel
theorem dX6_addWay_16 : decode cX6_addWay 16 = .ok (.getfield 25, 3) := by decide +kernel
theorem dX6_addWay_19 : decode cX6_addWay 19 = .ok (.iload 4, 2) := by decide +kernel
theorem dX6_addWay_21 : decode cX6_addWay 21 = .ok (.bipush (-2), 2) := by decide +kernel
theorem dX6_addWay_23 : decode cX6_addWay 23 = .ok (.iastore, 1) := by decide +kernel
theorem dX6_addWay_24 : decode cX6_addWay 24 = .ok (.aload_n 0, 1) := by decide +kernel
theorem dX6_addWay_25 : decode cX6_addWay 25 = .ok (.getfield 28, 3) := by decide +kernel
theorem dX6_addWay_28 : decode cX6_addWay 28 = .ok (.iload 4, 2) := by decide +kernel
theorem dX6_addWay_30 : decode cX6_addWay 30 = .ok (.bipush (-2), 2) := by decide +kernel
theorem dX6_addWay_32 : decode cX6_addWay 32 = .ok (.iastore, 1) := by decide +kernel
theorem dX6_addWay_33 : decode cX6_addWay 33 = .ok (.iinc 4 1, 3) := by decide +kernel
theorem dX6_addWay_36 : decode cX6_addWay 36 = .ok (.goto (-30), 3) := by decide +kernel
theorem dX6_addWay_39 : decode cX6_addWay 39 = .ok (.aload_n 0, 1) := by decide +kernel
theorem dX6_addWay_40 : decode cX6_addWay 40 = .ok (.getfield 9, 3) := by decide +kernel
theorem dX6_addWay_43 : decode cX6_addWay 43 = .ok (.iconst 0, 1) := by decide +kernel
theorem dX6_addWay_44 : decode cX6_addWay 44 = .ok (.aload_n 0, 1) := by decide +kernel
theorem dX6_addWay_45 : decode cX6_addWay 45 = .ok (.getfield 31, 3) := by decide +kernel
theorem dX6_addWay_48 : decode cX6_addWay 48 = .ok (.iconst 0, 1) := by decide +kernel
theorem dX6_addWay_49 : decode cX6_addWay 49 = .ok (.bipush 12, 2) := by decide +kernel
theorem dX6_addWay_51 : decode cX6_addWay 51 = .ok (.invokestatic 72, 3) := by decide +kernel
theorem dX6_addWay_54 : decode cX6_addWay 54 = .ok (.aload_n 0, 1) := by decide +kernel
theorem dX6_addWay_55 : decode cX6_addWay 55 = .ok (.iconst 0, 1) := by decide +kernel
theorem dX6_addWay_56 : decode cX6_addWay 56 = .ok (.putfield 78, 3) := by decide +kernel
theorem dX6_addWay_59 : decode cX6_addWay 59 = .ok (.aload_n 0, 1) := by decide +kernel
theorem dX6_addWay_60 : decode cX6_addWay 60 = .ok (.aload_n 1, 1) := by decide +kernel
theorem dX6_addWay_61 : decode cX6_addWay 61 = .ok (.iload_n 2, 1) := by decide +kernel
theorem dX6_addWay_62 : decode cX6_addWay 62 = .ok (.iload_n 3, 1) := by decide +kernel
theorem dX6_addWay_63 : decode cX6_addWay 63 = .ok (.iconst 1, 1) := by decide +kernel
theorem dX6_addWay_64 : decode cX6_addWay 64 = .ok (.isub, 1) := by decide +kernel
theorem dX6_addWay_65 : decode cX6_addWay 65 = .ok (.iconst (-1), 1) := by decide +kernel
theorem dX6_addWay_66 : decode cX6_addWay 66 = .ok (.invokevirtual 81, 3) := by decide +kernel
theorem dX6_addWay_69 : decode cX6_addWay 69 = .ok (.iconst 0, 1) := by decide +kernel
theorem dX6_addWay_70 : decode cX6_addWay 70 = .ok (.istore 4, 2) := by decide +kernel
theorem dX6_addWay_72 : decode cX6_addWay 72 = .ok (.iload 4, 2) := by decide +kernel
theorem dX6_addWay_74 : decode cX6_addWay 74 = .ok (.aload_n 0, 1) := by decide +kernel
theorem dX6_addWay_75 : decode cX6_addWay 75 = .ok (.getfield 78, 3) := by decide +kernel
theorem dX6_addWay_78 : decode cX6_addWay 78 = .ok (.if_icmp .ge 100, 3) := by decide +kernel
theorem dX6_addWay_81 : decode cX6_addWay 81 = .ok (.iload 4, 2) := by decide +kernel
theorem dX6_addWay_83 : decode cX6_addWay 83 = .ok (.aload_n 0, 1) := by decide +kernel
theorem dX6_addWay_84 : decode cX6_addWay 84 = .ok (.getfield 34, 3) := by decide +kernel
theorem dX6_addWay_87 : decode cX6_addWay 87 = .ok (.arraylength, 1) := by decide +kernel
theorem dX6_addWay_88 : decode cX6_addWay 88 = .ok (.if_icmp .ge 90, 3) := by decide +kernel
theorem dX6_addWay_91 : decode cX6_addWay 91 = .ok (.aload_n 0, 1) := by decide +kernel
theorem dX6_addWay_92 : decode cX6_addWay 92 = .ok (.getfield 34, 3) := by decide +kernel
theorem dX6_addWay_95 : decode cX6_addWay 95 = .ok (.iload 4, 2) := by decide +kernel
theorem dX6_addWay_97 : decode cX6_addWay 97 = .ok (.iaload, 1) := by decide +kernel
theorem dX6_addWay_98 : decode cX6_addWay 98 = .ok (.iconst 1, 1) := by decide +kernel
theorem dX6_addWay_99 : decode cX6_addWay 99 = .ok (.ishr, 1) := by decide +kernel
theorem dX6_addWay_100 : decode cX6_addWay 100 = .ok (.istore 5, 2) := by decide +kernel
theorem dX6_addWay_102 : decode cX6_addWay 102 = .ok (.aload_n 0, 1) := by decide +kernel
theorem dX6_addWay_103 : decode cX6_addWay 103 = .ok (.getfield 34, 3) := by decide +kernel
theorem dX6_addWay_106 : decode cX6_addWay 106 = .ok (.iload 4, 2) := by decide +kernel
theorem dX6_addWay_108 : decode cX6_addWay 108 = .ok (.iaload, 1) := by decide +kernel
theorem dX6_addWay_109 : decode cX6_addWay 109 = .ok (.iconst 1, 1) := by decide +kernel
theorem dX6_addWay_110 : decode cX6_addWay 110 = .ok (.iand, 1) := by decide +kernel
theorem dX6_addWay_111 : decode cX6_addWay 111 = .ok (.ifCond .eq 7, 3) := by decide +kernel
theorem dX6_addWay_114 : decode cX6_addWay 114 = .ok (.iconst 1, 1) := by decide +kernel
theorem dX6_addWay_115 : decode cX6_addWay 115 = .ok (.goto 4, 3) := by decide +kernel
theorem dX6_addWay_118 : decode cX6_addWay 118 = .ok (.iconst 0, 1) := by decide +kernel
theorem dX6_addWay_119 : decode cX6_addWay 119 = .ok (.istore 6, 2) := by decide +kernel
theorem dX6_addWay_121 : decode cX6_addWay 121 = .ok (.iload 6, 2) := by decide +kernel
theorem dX6_addWay_123 : decode cX6_addWay 123 = .ok (.ifCond .eq 28, 3) := by decide +kernel
theorem dX6_addWay_126 : decode cX6_addWay 126 = .ok (.aload_n 1, 1) := by decide +kernel
theorem dX6_addWay_127 : decode cX6_addWay 127 = .ok (.getfield 85, 3) := by decide +kernel
theorem dX6_addWay_130 : decode cX6_addWay 130 = .ok (.iload 5, 2) := by decide +kernel
theorem dX6_addWay_132 : decode cX6_addWay 132 = .ok (.iaload, 1) := by decide +kernel
theorem dX6_addWay_133 : decode cX6_addWay 133 = .ok (.aload_n 0, 1) := by decide +kernel
theorem dX6_addWay_134 : decode cX6_addWay 134 = .ok (.getfield 37, 3) := by decide +kernel
theorem dX6_addWay_137 : decode cX6_addWay 137 = .ok (.invokestatic 88, 3) := by decide +kernel
theorem dX6_addWay_140 : decode cX6_addWay 140 = .ok (.ifCond .eq 11, 3) := by decide +kernel
theorem dX6_addWay_143 : decode cX6_addWay 143 = .ok (.aload_n 0, 1) := by decide +kernel
theorem dX6_addWay_144 : decode cX6_addWay 144 = .ok (.iload 5, 2) := by decide +kernel
theorem dX6_addWay_146 : decode cX6_addWay 146 = .ok (.invokevirtual 92, 3) := by decide +kernel
theorem dX6_addWay_149 : decode cX6_addWay 149 = .ok (.iconst 1, 1) := by decide +kernel
theorem dX6_addWay_150 : decode cX6_addWay 150 = .ok (.ireturn, 1) := by decide +kernel
theorem dX6_addWay_151 : decode cX6_addWay 151 = .ok (.iload 6, 2) := by decide +kernel
theorem dX6_addWay_153 : decode cX6_addWay 153 = .ok (.ifCond .eq 13, 3) := by decide +kernel
theorem dX6_addWay_156 : decode cX6_addWay 156 = .ok (.aload_n 0, 1) := by decide +kernel
theorem dX6_addWay_157 : decode cX6_addWay 157 = .ok (.aload_n 1, 1) := by decide +kernel
theorem dX6_addWay_158 : decode cX6_addWay 158 = .ok (.iload 5, 2) := by decide +kernel
theorem dX6_addWay_160 : decode cX6_addWay 160 = .ok (.invokevirtual 96, 3) := by decide +kernel
theorem dX6_addWay_163 : decode cX6_addWay 163 = .ok (.goto 9, 3) := by decide +kernel
theorem dX6_addWay_166 : decode cX6_addWay 166 = .ok (.aload_n 0, 1) := by decide +kernel
theorem dX6_addWay_167 : decode cX6_addWay 167 = .ok (.iload 5, 2) := by decide +kernel
theorem dX6_addWay_169 : decode cX6_addWay 169 = .ok (.invokevirtual 100, 3) := by decide +kernel
theorem dX6_addWay_172 : decode cX6_addWay 172 = .ok (.iinc 4 1, 3) := by decide +kernel
theorem dX6_addWay_175 : decode cX6_addWay 175 = .ok (.goto (-103), 3) := by decide +kernel
theorem dX6_addWay_178 : decode cX6_addWay 178 = .ok (.iconst 0, 1) := by decide +kernel
theorem dX6_addWay_179 : decode cX6_addWay 179 = .ok (.ireturn, 1) := by decide +kernel
theorem dX6_goOnFromFront_0 : decode cX6_goOnFromFront 0 = .ok (.aload_n 0, 1) := by decide +kernel
theorem dX6_goOnFromFront_1 : decode cX6_goOnFromFront 1 = .ok (.getfield 18, 3) := by decide +kernel
theorem dX6_goOnFromFront_4 : decode cX6_goOnFromFront 4 = .ok (.iload_n 1, 1) := by decide +kernel
theorem dX6_goOnFromFront_5 : decode cX6_goOnFromFront 5 = .ok (.baload, 1) := by decide +kernel
theorem dX6_goOnFromFront_6 : decode cX6_goOnFromFront 6 = .ok (.ifCond .ne 12, 3) := by decide +kernel
theorem dX6_goOnFromFront_9 : decode cX6_goOnFromFront 9 = .ok (.aload_n 0, 1) := by decide +kernel
theorem dX6_goOnFromFront_10 : decode cX6_goOnFromFront 10 = .ok (.iload_n 1, 1) := by decide +kernel
theorem dX6_goOnFromFront_11 : decode cX6_goOnFromFront 11 = .ok (.iload_n 1, 1) := by decide +kernel
theorem dX6_goOnFromFront_12 : decode cX6_goOnFromFront 12 = .ok (.invokevirtual 103, 3) := by decide +kernel
theorem dX6_goOnFromFront_15 : decode cX6_goOnFromFront 15 = .ok (.goto 23, 3) := by decide +kernel
theorem dX6_goOnFromFront_18 : decode cX6_goOnFromFront 18 = .ok (.aload_n 0, 1) := by decide +kernel
theorem dX6_goOnFromFront_19 : decode cX6_goOnFromFront 19 = .ok (.getfield 22, 3) := by decide +kernel
theorem dX6_goOnFromFront_22 : decode cX6_goOnFromFront 22 = .ok (.iload_n 1, 1) := by decide +kernel
theorem dX6_goOnFromFront_23 : decode cX6_goOnFromFront 23 = .ok (.iaload, 1) := by decide +kernel
theorem dX6_goOnFromFront_24 : decode cX6_goOnFromFront 24 = .ok (.ifCond .lt 14, 3) := by decide +kernel
theorem dX6_goOnFromFront_27 : decode cX6_goOnFromFront 27 = .ok (.aload_n 0, 1) := by decide +kernel
theorem dX6_goOnFromFront_28 : decode cX6_goOnFromFront 28 = .ok (.aload_n 0, 1) := by decide +kernel
theorem dX6_goOnFromFront_29 : decode cX6_goOnFromFront 29 = .ok (.getfield 22, 3) := by decide +kernel
theorem dX6_goOnFromFront_32 : decode cX6_goOnFromFront 32 = .ok (.iload_n 1, 1) := by decide +kernel
theorem dX6_goOnFromFront_33 : decode cX6_goOnFromFront 33 = .ok (.iaload, 1) := by decide +kernel
theorem dX6_goOnFromFront_34 : decode cX6_goOnFromFront 34 = .ok (.iload_n 1, 1) := by decide +kernel
theorem dX6_goOnFromFront_35 : decode cX6_goOnFromFront 35 = .ok (.invokevirtual 103, 3) := by decide +kernel
theorem dX6_goOnFromFront_38 : decode cX6_goOnFromFront 38 = .ok (.return_, 1) := by decide +kernel
theorem dX6_goOnFromBack_0 : decode cX6_goOnFromBack 0 = .ok (.iconst 0, 1) := by decide +kernel
theorem dX6_goOnFromBack_1 : decode cX6_goOnFromBack 1 = .ok (.istore_n 3, 1) := by decide +kernel
theorem dX6_goOnFromBack_2 : decode cX6_goOnFromBack 2 = .ok (.iload_n 3, 1) := by decide +kernel
theorem dX6_goOnFromBack_3 : decode cX6_goOnFromBack 3 = .ok (.bipush 12, 2) := by decide +kernel
theorem dX6_goOnFromBack_5 : decode cX6_goOnFromBack 5 = .ok (.if_icmp .ge 35, 3) := by decide +kernel
theorem dX6_goOnFromBack_8 : decode cX6_goOnFromBack 8 = .ok (.aload_n 1, 1) := by decide +kernel
theorem dX6_goOnFromBack_9 : decode cX6_goOnFromBack 9 = .ok (.getfield 85, 3) := by decide +kernel
theorem dX6_goOnFromBack_12 : decode cX6_goOnFromBack 12 = .ok (.iload_n 2, 1) := by decide +kernel
theorem dX6_goOnFromBack_13 : decode cX6_goOnFromBack 13 = .ok (.iaload, 1) := by decide +kernel
theorem dX6_goOnFromBack_14 : decode cX6_goOnFromBack 14 = .ok (.iload_n 3, 1) := by decide +kernel
theorem dX6_goOnFromBack_15 : decode cX6_goOnFromBack 15 = .ok (.invokestatic 88, 3) := by decide +kernel
theorem dX6_goOnFromBack_18 : decode cX6_goOnFromBack 18 = .ok (.ifCond .eq 16, 3) := by decide +kernel
theorem dX6_goOnFromBack_21 : decode cX6_goOnFromBack 21 = .ok (.aload_n 0, 1) := by decide +kernel
theorem dX6_goOnFromBack_22 : decode cX6_goOnFromBack 22 = .ok (.aload_n 1, 1) := by decide +kernel
theorem dX6_goOnFromBack_23 : decode cX6_goOnFromBack 23 = .ok (.iload_n 3, 1) := by decide +kernel
theorem dX6_goOnFromBack_24 : decode cX6_goOnFromBack 24 = .ok (.aload_n 1, 1) := by decide +kernel
theorem dX6_goOnFromBack_25 : decode cX6_goOnFromBack 25 = .ok (.getfield 60, 3) := by decide +kernel
theorem dX6_goOnFromBack_28 : decode cX6_goOnFromBack 28 = .ok (.iload_n 2, 1) := by decide +kernel
theorem dX6_goOnFromBack_29 : decode cX6_goOnFromBack 29 = .ok (.iaload, 1) := by decide +kernel
theorem dX6_goOnFromBack_30 : decode cX6_goOnFromBack 30 = .ok (.iload_n 2, 1) := by decide +kernel
theorem dX6_goOnFromBack_31 : decode cX6_goOnFromBack 31 = .ok (.invokevirtual 81, 3) := by decide +kernel
theorem dX6_goOnFromBack_34 : decode cX6_goOnFromBack 34 = .ok (.iinc 3 1, 3) := by decide +kernel
theorem dX6_goOnFromBack_37 : decode cX6_goOnFromBack 37 = .ok (.goto (-35), 3) := by decide +kernel
theorem dX6_goOnFromBack_40 : decode cX6_goOnFromBack 40 = .ok (.aload_n 0, 1) := by decide +kernel
theorem dX6_goOnFromBack_41 : decode cX6_goOnFromBack 41 = .ok (.getfield 18, 3) := by decide +kernel
theorem dX6_goOnFromBack_44 : decode cX6_goOnFromBack 44 = .ok (.iload_n 2, 1) := by decide +kernel
theorem dX6_goOnFromBack_45 : decode cX6_goOnFromBack 45 = .ok (.baload, 1) := by decide +kernel
theorem dX6_goOnFromBack_46 : decode cX6_goOnFromBack 46 = .ok (.ifCond .eq 9, 3) := by decide +kernel
theorem dX6_goOnFromBack_49 : decode cX6_goOnFromBack 49 = .ok (.aload_n 0, 1) := by decide +kernel
theorem dX6_goOnFromBack_50 : decode cX6_goOnFromBack 50 = .ok (.iload_n 2, 1) := by decide +kernel
theorem dX6_goOnFromBack_51 : decode cX6_goOnFromBack 51 = .ok (.iload_n 2, 1) := by decide +kernel
theorem dX6_goOnFromBack_52 : decode cX6_goOnFromBack 52 = .ok (.invokevirtual 107, 3) := by decide +kernel
theorem dX6_goOnFromBack_55 : decode cX6_goOnFromBack 55 = .ok (.return_, 1) := by decide +kernel
theorem dX6_leadTo_0 : decode cX6_leadTo 0 = .ok (.aload_n 0, 1) := by decide +kernel
theorem dX6_leadTo_1 : decode cX6_leadTo 1 = .ok (.getfield 31, 3) := by decide +kernel
theorem dX6_leadTo_4 : decode cX6_leadTo 4 = .ok (.iload_n 2, 1) := by decide +kernel
theorem dX6_leadTo_5 : decode cX6_leadTo 5 = .ok (.iaload, 1) := by decide +kernel
theorem dX6_leadTo_6 : decode cX6_leadTo 6 = .ok (.istore 5, 2) := by decide +kernel
theorem dX6_leadTo_8 : decode cX6_leadTo 8 = .ok (.iconst 0, 1) := by decide +kernel
theorem dX6_leadTo_9 : decode cX6_leadTo 9 = .ok (.istore 6, 2) := by decide +kernel
theorem dX6_leadTo_11 : decode cX6_leadTo 11 = .ok (.iload 6, 2) := by decide +kernel
theorem dX6_leadTo_13 : decode cX6_leadTo 13 = .ok (.sipush 288, 3) := by decide +kernel
theorem dX6_leadTo_16 : decode cX6_leadTo 16 = .ok (.if_icmp .ge 42, 3) := by decide +kernel
theorem dX6_leadTo_19 : decode cX6_leadTo 19 = .ok (.iload 5, 2) := by decide +kernel
theorem dX6_leadTo_21 : decode cX6_leadTo 21 = .ok (.ifCond .lt 37, 3) := by decide +kernel
theorem dX6_leadTo_24 : decode cX6_leadTo 24 = .ok (.aload_n 1, 1) := by decide +kernel
theorem dX6_leadTo_25 : decode cX6_leadTo 25 = .ok (.getfield 60, 3) := by decide +kernel
theorem dX6_leadTo_28 : decode cX6_leadTo 28 = .ok (.iload 5, 2) := by decide +kernel
theorem dX6_leadTo_30 : decode cX6_leadTo 30 = .ok (.iaload, 1) := by decide +kernel
theorem dX6_leadTo_31 : decode cX6_leadTo 31 = .ok (.iload_n 3, 1) := by decide +kernel
theorem dX6_leadTo_32 : decode cX6_leadTo 32 = .ok (.if_icmp .le 26, 3) := by decide +kernel
theorem dX6_leadTo_35 : decode cX6_leadTo 35 = .ok (.aload_n 0, 1) := by decide +kernel
theorem dX6_leadTo_36 : decode cX6_leadTo 36 = .ok (.iload 5, 2) := by decide +kernel
theorem dX6_leadTo_38 : decode cX6_leadTo 38 = .ok (.iload 4, 2) := by decide +kernel
theorem dX6_leadTo_40 : decode cX6_leadTo 40 = .ok (.invokevirtual 107, 3) := by decide +kernel
theorem dX6_leadTo_43 : decode cX6_leadTo 43 = .ok (.aload_n 0, 1) := by decide +kernel
theorem dX6_leadTo_44 : decode cX6_leadTo 44 = .ok (.getfield 15, 3) := by decide +kernel
theorem dX6_leadTo_47 : decode cX6_leadTo 47 = .ok (.iload 5, 2) := by decide +kernel
theorem dX6_leadTo_49 : decode cX6_leadTo 49 = .ok (.iaload, 1) := by decide +kernel
theorem dX6_leadTo_50 : decode cX6_leadTo 50 = .ok (.istore 5, 2) := by decide +kernel
theorem dX6_leadTo_52 : decode cX6_leadTo 52 = .ok (.iinc 6 1, 3) := by decide +kernel
theorem dX6_leadTo_55 : decode cX6_leadTo 55 = .ok (.goto (-44), 3) := by decide +kernel
theorem dX6_leadTo_58 : decode cX6_leadTo 58 = .ok (.aload_n 0, 1) := by decide +kernel
theorem dX6_leadTo_59 : decode cX6_leadTo 59 = .ok (.getfield 31, 3) := by decide +kernel
theorem dX6_leadTo_62 : decode cX6_leadTo 62 = .ok (.iload_n 2, 1) := by decide +kernel
theorem dX6_leadTo_63 : decode cX6_leadTo 63 = .ok (.iload 5, 2) := by decide +kernel
theorem dX6_leadTo_65 : decode cX6_leadTo 65 = .ok (.iastore, 1) := by decide +kernel
theorem dX6_leadTo_66 : decode cX6_leadTo 66 = .ok (.return_, 1) := by decide +kernel
theorem dX6_reachFront_0 : decode cX6_reachFront 0 = .ok (.aload_n 0, 1) := by decide +kernel
theorem dX6_reachFront_1 : decode cX6_reachFront 1 = .ok (.getfield 25, 3) := by decide +kernel
theorem dX6_reachFront_4 : decode cX6_reachFront 4 = .ok (.iload_n 1, 1) := by decide +kernel
theorem dX6_reachFront_5 : decode cX6_reachFront 5 = .ok (.iaload, 1) := by decide +kernel
theorem dX6_reachFront_6 : decode cX6_reachFront 6 = .ok (.bipush (-2), 2) := by decide +kernel
theorem dX6_reachFront_8 : decode cX6_reachFront 8 = .ok (.if_icmp .ne 44, 3) := by decide +kernel
theorem dX6_reachFront_11 : decode cX6_reachFront 11 = .ok (.aload_n 0, 1) := by decide +kernel
theorem dX6_reachFront_12 : decode cX6_reachFront 12 = .ok (.getfield 78, 3) := by decide +kernel
theorem dX6_reachFront_15 : decode cX6_reachFront 15 = .ok (.aload_n 0, 1) := by decide +kernel
theorem dX6_reachFront_16 : decode cX6_reachFront 16 = .ok (.getfield 34, 3) := by decide +kernel
theorem dX6_reachFront_19 : decode cX6_reachFront 19 = .ok (.arraylength, 1) := by decide +kernel
theorem dX6_reachFront_20 : decode cX6_reachFront 20 = .ok (.if_icmp .ge 32, 3) := by decide +kernel
theorem dX6_reachFront_23 : decode cX6_reachFront 23 = .ok (.aload_n 0, 1) := by decide +kernel
theorem dX6_reachFront_24 : decode cX6_reachFront 24 = .ok (.getfield 25, 3) := by decide +kernel
theorem dX6_reachFront_27 : decode cX6_reachFront 27 = .ok (.iload_n 1, 1) := by decide +kernel
theorem dX6_reachFront_28 : decode cX6_reachFront 28 = .ok (.iload_n 2, 1) := by decide +kernel
theorem dX6_reachFront_29 : decode cX6_reachFront 29 = .ok (.iastore, 1) := by decide +kernel
theorem dX6_reachFront_30 : decode cX6_reachFront 30 = .ok (.aload_n 0, 1) := by decide +kernel
theorem dX6_reachFront_31 : decode cX6_reachFront 31 = .ok (.getfield 34, 3) := by decide +kernel
theorem dX6_reachFront_34 : decode cX6_reachFront 34 = .ok (.aload_n 0, 1) := by decide +kernel
theorem dX6_reachFront_35 : decode cX6_reachFront 35 = .ok (.getfield 78, 3) := by decide +kernel
theorem dX6_reachFront_38 : decode cX6_reachFront 38 = .ok (.iload_n 1, 1) := by decide +kernel
theorem dX6_reachFront_39 : decode cX6_reachFront 39 = .ok (.iconst 1, 1) := by decide +kernel
theorem dX6_reachFront_40 : decode cX6_reachFront 40 = .ok (.ishl, 1) := by decide +kernel
theorem dX6_reachFront_41 : decode cX6_reachFront 41 = .ok (.iastore, 1) := by decide +kernel
theorem dX6_reachFront_42 : decode cX6_reachFront 42 = .ok (.aload_n 0, 1) := by decide +kernel
theorem dX6_reachFront_43 : decode cX6_reachFront 43 = .ok (.dup, 1) := by decide +kernel
theorem dX6_reachFront_44 : decode cX6_reachFront 44 = .ok (.getfield 78, 3) := by decide +kernel
theorem dX6_reachFront_47 : decode cX6_reachFront 47 = .ok (.iconst 1, 1) := by decide +kernel
theorem dX6_reachFront_48 : decode cX6_reachFront 48 = .ok (.iadd, 1) := by decide +kernel
theorem dX6_reachFront_49 : decode cX6_reachFront 49 = .ok (.putfield 78, 3) := by decide +kernel
theorem dX6_reachFront_52 : decode cX6_reachFront 52 = .ok (.return_, 1) := by decide +kernel
theorem dX6_reachBack_0 : decode cX6_reachBack 0 = .ok (.aload_n 0, 1) := by decide +kernel
theorem dX6_reachBack_1 : decode cX6_reachBack 1 = .ok (.getfield 28, 3) := by decide +kernel
theorem dX6_reachBack_4 : decode cX6_reachBack 4 = .ok (.iload_n 1, 1) := by decide +kernel
theorem dX6_reachBack_5 : decode cX6_reachBack 5 = .ok (.iaload, 1) := by decide +kernel
theorem dX6_reachBack_6 : decode cX6_reachBack 6 = .ok (.bipush (-2), 2) := by decide +kernel
theorem dX6_reachBack_8 : decode cX6_reachBack 8 = .ok (.if_icmp .ne 46, 3) := by decide +kernel
theorem dX6_reachBack_11 : decode cX6_reachBack 11 = .ok (.aload_n 0, 1) := by decide +kernel
theorem dX6_reachBack_12 : decode cX6_reachBack 12 = .ok (.getfield 78, 3) := by decide +kernel
theorem dX6_reachBack_15 : decode cX6_reachBack 15 = .ok (.aload_n 0, 1) := by decide +kernel
theorem dX6_reachBack_16 : decode cX6_reachBack 16 = .ok (.getfield 34, 3) := by decide +kernel
theorem dX6_reachBack_19 : decode cX6_reachBack 19 = .ok (.arraylength, 1) := by decide +kernel
theorem dX6_reachBack_20 : decode cX6_reachBack 20 = .ok (.if_icmp .ge 34, 3) := by decide +kernel
theorem dX6_reachBack_23 : decode cX6_reachBack 23 = .ok (.aload_n 0, 1) := by decide +kernel
theorem dX6_reachBack_24 : decode cX6_reachBack 24 = .ok (.getfield 28, 3) := by decide +kernel
theorem dX6_reachBack_27 : decode cX6_reachBack 27 = .ok (.iload_n 1, 1) := by decide +kernel
theorem dX6_reachBack_28 : decode cX6_reachBack 28 = .ok (.iload_n 2, 1) := by decide +kernel
theorem dX6_reachBack_29 : decode cX6_reachBack 29 = .ok (.iastore, 1) := by decide +kernel
theorem dX6_reachBack_30 : decode cX6_reachBack 30 = .ok (.aload_n 0, 1) := by decide +kernel
theorem dX6_reachBack_31 : decode cX6_reachBack 31 = .ok (.getfield 34, 3) := by decide +kernel
theorem dX6_reachBack_34 : decode cX6_reachBack 34 = .ok (.aload_n 0, 1) := by decide +kernel
theorem dX6_reachBack_35 : decode cX6_reachBack 35 = .ok (.getfield 78, 3) := by decide +kernel
theorem dX6_reachBack_38 : decode cX6_reachBack 38 = .ok (.iload_n 1, 1) := by decide +kernel
theorem dX6_reachBack_39 : decode cX6_reachBack 39 = .ok (.iconst 1, 1) := by decide +kernel
theorem dX6_reachBack_40 : decode cX6_reachBack 40 = .ok (.ishl, 1) := by decide +kernel
theorem dX6_reachBack_41 : decode cX6_reachBack 41 = .ok (.iconst 1, 1) := by decide +kernel
theorem dX6_reachBack_42 : decode cX6_reachBack 42 = .ok (.ior, 1) := by decide +kernel
theorem dX6_reachBack_43 : decode cX6_reachBack 43 = .ok (.iastore, 1) := by decide +kernel
theorem dX6_reachBack_44 : decode cX6_reachBack 44 = .ok (.aload_n 0, 1) := by decide +kernel
theorem dX6_reachBack_45 : decode cX6_reachBack 45 = .ok (.dup, 1) := by decide +kernel
theorem dX6_reachBack_46 : decode cX6_reachBack 46 = .ok (.getfield 78, 3) := by decide +kernel
theorem dX6_reachBack_49 : decode cX6_reachBack 49 = .ok (.iconst 1, 1) := by decide +kernel
theorem dX6_reachBack_50 : decode cX6_reachBack 50 = .ok (.iadd, 1) := by decide +kernel
theorem dX6_reachBack_51 : decode cX6_reachBack 51 = .ok (.putfield 78, 3) := by decide +kernel
theorem dX6_reachBack_54 : decode cX6_reachBack 54 = .ok (.return_, 1) := by decide +kernel
theorem dX6_keepWay_0 : decode cX6_keepWay 0 = .ok (.iload_n 1, 1) := by decide +kernel
theorem dX6_keepWay_1 : decode cX6_keepWay 1 = .ok (.istore_n 2, 1) := by decide +kernel
theorem dX6_keepWay_2 : decode cX6_keepWay 2 = .ok (.iconst 0, 1) := by decide +kernel
theorem dX6_keepWay_3 : decode cX6_keepWay 3 = .ok (.istore_n 3, 1) := by decide +kernel
theorem dX6_keepWay_4 : decode cX6_keepWay 4 = .ok (.iload_n 3, 1) := by decide +kernel
theorem dX6_keepWay_5 : decode cX6_keepWay 5 = .ok (.sipush 288, 3) := by decide +kernel
theorem dX6_keepWay_8 : decode cX6_keepWay 8 = .ok (.if_icmp .ge 79, 3) := by decide +kernel
theorem dX6_keepWay_11 : decode cX6_keepWay 11 = .ok (.iload_n 2, 1) := by decide +kernel
theorem dX6_keepWay_12 : decode cX6_keepWay 12 = .ok (.ifCond .lt 75, 3) := by decide +kernel
theorem dX6_keepWay_15 : decode cX6_keepWay 15 = .ok (.aload_n 0, 1) := by decide +kernel
theorem dX6_keepWay_16 : decode cX6_keepWay 16 = .ok (.getfield 28, 3) := by decide +kernel
theorem dX6_keepWay_19 : decode cX6_keepWay 19 = .ok (.iload_n 2, 1) := by decide +kernel
theorem dX6_keepWay_20 : decode cX6_keepWay 20 = .ok (.iaload, 1) := by decide +kernel
theorem dX6_keepWay_21 : decode cX6_keepWay 21 = .ok (.istore 4, 2) := by decide +kernel
theorem dX6_keepWay_23 : decode cX6_keepWay 23 = .ok (.iload 4, 2) := by decide +kernel
theorem dX6_keepWay_25 : decode cX6_keepWay 25 = .ok (.ifCond .ge 4, 3) := by decide +kernel
theorem dX6_keepWay_28 : decode cX6_keepWay 28 = .ok (.return_, 1) := by decide +kernel
theorem dX6_keepWay_29 : decode cX6_keepWay 29 = .ok (.iload 4, 2) := by decide +kernel
theorem dX6_keepWay_31 : decode cX6_keepWay 31 = .ok (.iload_n 2, 1) := by decide +kernel
theorem dX6_keepWay_32 : decode cX6_keepWay 32 = .ok (.if_icmp .ne 10, 3) := by decide +kernel
theorem dX6_keepWay_35 : decode cX6_keepWay 35 = .ok (.aload_n 0, 1) := by decide +kernel
theorem dX6_keepWay_36 : decode cX6_keepWay 36 = .ok (.getfield 18, 3) := by decide +kernel
theorem dX6_keepWay_39 : decode cX6_keepWay 39 = .ok (.iload_n 2, 1) := by decide +kernel
theorem dX6_keepWay_40 : decode cX6_keepWay 40 = .ok (.iconst 1, 1) := by decide +kernel
theorem dX6_keepWay_41 : decode cX6_keepWay 41 = .ok (.bastore, 1) := by decide +kernel
theorem dX6_keepWay_42 : decode cX6_keepWay 42 = .ok (.aload_n 0, 1) := by decide +kernel
theorem dX6_keepWay_43 : decode cX6_keepWay 43 = .ok (.getfield 25, 3) := by decide +kernel
theorem dX6_keepWay_46 : decode cX6_keepWay 46 = .ok (.iload 4, 2) := by decide +kernel
theorem dX6_keepWay_48 : decode cX6_keepWay 48 = .ok (.iaload, 1) := by decide +kernel
theorem dX6_keepWay_49 : decode cX6_keepWay 49 = .ok (.istore 5, 2) := by decide +kernel
theorem dX6_keepWay_51 : decode cX6_keepWay 51 = .ok (.iload 5, 2) := by decide +kernel
theorem dX6_keepWay_53 : decode cX6_keepWay 53 = .ok (.iload 4, 2) := by decide +kernel
theorem dX6_keepWay_55 : decode cX6_keepWay 55 = .ok (.if_icmp .ne 14, 3) := by decide +kernel
theorem dX6_keepWay_58 : decode cX6_keepWay 58 = .ok (.aload_n 0, 1) := by decide +kernel
theorem dX6_keepWay_59 : decode cX6_keepWay 59 = .ok (.getfield 18, 3) := by decide +kernel
theorem dX6_keepWay_62 : decode cX6_keepWay 62 = .ok (.iload 4, 2) := by decide +kernel
theorem dX6_keepWay_64 : decode cX6_keepWay 64 = .ok (.iconst 0, 1) := by decide +kernel
theorem dX6_keepWay_65 : decode cX6_keepWay 65 = .ok (.bastore, 1) := by decide +kernel
theorem dX6_keepWay_66 : decode cX6_keepWay 66 = .ok (.goto 12, 3) := by decide +kernel
theorem dX6_keepWay_69 : decode cX6_keepWay 69 = .ok (.aload_n 0, 1) := by decide +kernel
theorem dX6_keepWay_70 : decode cX6_keepWay 70 = .ok (.getfield 22, 3) := by decide +kernel
theorem dX6_keepWay_73 : decode cX6_keepWay 73 = .ok (.iload 4, 2) := by decide +kernel
theorem dX6_keepWay_75 : decode cX6_keepWay 75 = .ok (.iload 5, 2) := by decide +kernel
theorem dX6_keepWay_77 : decode cX6_keepWay 77 = .ok (.iastore, 1) := by decide +kernel
theorem dX6_keepWay_78 : decode cX6_keepWay 78 = .ok (.iload 5, 2) := by decide +kernel
theorem dX6_keepWay_80 : decode cX6_keepWay 80 = .ok (.istore_n 2, 1) := by decide +kernel
theorem dX6_keepWay_81 : decode cX6_keepWay 81 = .ok (.iinc 3 1, 3) := by decide +kernel
theorem dX6_keepWay_84 : decode cX6_keepWay 84 = .ok (.goto (-80), 3) := by decide +kernel
theorem dX6_keepWay_87 : decode cX6_keepWay 87 = .ok (.return_, 1) := by decide +kernel
theorem dX7_init_0 : decode cX7_init 0 = .ok (.aload_n 0, 1) := by decide +kernel
theorem dX7_init_1 : decode cX7_init 1 = .ok (.invokespecial 3, 3) := by decide +kernel
theorem dX7_init_4 : decode cX7_init 4 = .ok (.aload_n 0, 1) := by decide +kernel
theorem dX7_init_5 : decode cX7_init 5 = .ok (.sipush 1000, 3) := by decide +kernel
theorem dX7_init_8 : decode cX7_init 8 = .ok (.newarray .byte, 2) := by decide +kernel
theorem dX7_init_10 : decode cX7_init 10 = .ok (.putfield 9, 3) := by decide +kernel
theorem dX7_init_13 : decode cX7_init 13 = .ok (.return_, 1) := by decide +kernel
theorem dX7_put_0 : decode cX7_put 0 = .ok (.iload_n 1, 1) := by decide +kernel
theorem dX7_put_1 : decode cX7_put 1 = .ok (.bipush 10, 2) := by decide +kernel
theorem dX7_put_3 : decode cX7_put 3 = .ok (.if_icmp .eq 15, 3) := by decide +kernel
theorem dX7_put_6 : decode cX7_put 6 = .ok (.iload_n 1, 1) := by decide +kernel
theorem dX7_put_7 : decode cX7_put 7 = .ok (.bipush 32, 2) := by decide +kernel
theorem dX7_put_9 : decode cX7_put 9 = .ok (.if_icmp .lt 13, 3) := by decide +kernel
theorem dX7_put_12 : decode cX7_put 12 = .ok (.iload_n 1, 1) := by decide +kernel
theorem dX7_put_13 : decode cX7_put 13 = .ok (.bipush 126, 2) := by decide +kernel
theorem dX7_put_15 : decode cX7_put 15 = .ok (.if_icmp .gt 7, 3) := by decide +kernel
theorem dX7_put_18 : decode cX7_put 18 = .ok (.iconst 1, 1) := by decide +kernel
theorem dX7_put_19 : decode cX7_put 19 = .ok (.goto 4, 3) := by decide +kernel
theorem dX7_put_22 : decode cX7_put 22 = .ok (.iconst 0, 1) := by decide +kernel
theorem dX7_put_23 : decode cX7_put 23 = .ok (.istore_n 2, 1) := by decide +kernel
theorem dX7_put_24 : decode cX7_put 24 = .ok (.iload_n 2, 1) := by decide +kernel
theorem dX7_put_25 : decode cX7_put 25 = .ok (.ifCond .eq 34, 3) := by decide +kernel
theorem dX7_put_28 : decode cX7_put 28 = .ok (.aload_n 0, 1) := by decide +kernel
theorem dX7_put_29 : decode cX7_put 29 = .ok (.getfield 15, 3) := by decide +kernel
theorem dX7_put_32 : decode cX7_put 32 = .ok (.sipush 1000, 3) := by decide +kernel
theorem dX7_put_35 : decode cX7_put 35 = .ok (.if_icmp .ge 24, 3) := by decide +kernel
theorem dX7_put_38 : decode cX7_put 38 = .ok (.aload_n 0, 1) := by decide +kernel
theorem dX7_put_39 : decode cX7_put 39 = .ok (.getfield 9, 3) := by decide +kernel
theorem dX7_put_42 : decode cX7_put 42 = .ok (.aload_n 0, 1) := by decide +kernel
theorem dX7_put_43 : decode cX7_put 43 = .ok (.getfield 15, 3) := by decide +kernel
theorem dX7_put_46 : decode cX7_put 46 = .ok (.iload_n 1, 1) := by decide +kernel
theorem dX7_put_47 : decode cX7_put 47 = .ok (.i2b, 1) := by decide +kernel
theorem dX7_put_48 : decode cX7_put 48 = .ok (.bastore, 1) := by decide +kernel
theorem dX7_put_49 : decode cX7_put 49 = .ok (.aload_n 0, 1) := by decide +kernel
theorem dX7_put_50 : decode cX7_put 50 = .ok (.dup, 1) := by decide +kernel
theorem dX7_put_51 : decode cX7_put 51 = .ok (.getfield 15, 3) := by decide +kernel
