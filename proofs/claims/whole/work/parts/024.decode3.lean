theorem dX12_isSignOf_39 : decode cX12_isSignOf 39 = .ok (.if_icmp .eq 9, 3) := by decide +kernel
theorem dX12_isSignOf_42 : decode cX12_isSignOf 42 = .ok (.iload_n 0, 1) := by decide +kernel
theorem dX12_isSignOf_43 : decode cX12_isSignOf 43 = .ok (.bipush 42, 2) := by decide +kernel
theorem dX12_isSignOf_45 : decode cX12_isSignOf 45 = .ok (.if_icmp .ne 7, 3) := by decide +kernel
theorem dX12_isSignOf_48 : decode cX12_isSignOf 48 = .ok (.iconst 1, 1) := by decide +kernel
theorem dX12_isSignOf_49 : decode cX12_isSignOf 49 = .ok (.goto 4, 3) := by decide +kernel
theorem dX12_isSignOf_52 : decode cX12_isSignOf 52 = .ok (.iconst 0, 1) := by decide +kernel
theorem dX12_isSignOf_53 : decode cX12_isSignOf 53 = .ok (.ireturn, 1) := by decide +kernel
theorem dX12_cutAll_0 : decode cX12_cutAll 0 = .ok (.aload_n 0, 1) := by decide +kernel
theorem dX12_cutAll_1 : decode cX12_cutAll 1 = .ok (.aload_n 0, 1) := by decide +kernel
theorem dX12_cutAll_2 : decode cX12_cutAll 2 = .ok (.getfield 11, 3) := by decide +kernel
theorem dX12_cutAll_5 : decode cX12_cutAll 5 = .ok (.putfield 127, 3) := by decide +kernel
theorem dX12_cutAll_8 : decode cX12_cutAll 8 = .ok (.aload_n 0, 1) := by decide +kernel
theorem dX12_cutAll_9 : decode cX12_cutAll 9 = .ok (.iconst 0, 1) := by decide +kernel
theorem dX12_cutAll_10 : decode cX12_cutAll 10 = .ok (.putfield 11, 3) := by decide +kernel
theorem dX12_cutAll_13 : decode cX12_cutAll 13 = .ok (.iconst 0, 1) := by decide +kernel
theorem dX12_cutAll_14 : decode cX12_cutAll 14 = .ok (.istore_n 1, 1) := by decide +kernel
theorem dX12_cutAll_15 : decode cX12_cutAll 15 = .ok (.iconst 0, 1) := by decide +kernel
theorem dX12_cutAll_16 : decode cX12_cutAll 16 = .ok (.istore_n 2, 1) := by decide +kernel
theorem dX12_cutAll_17 : decode cX12_cutAll 17 = .ok (.iload_n 2, 1) := by decide +kernel
theorem dX12_cutAll_18 : decode cX12_cutAll 18 = .ok (.aload_n 0, 1) := by decide +kernel
theorem dX12_cutAll_19 : decode cX12_cutAll 19 = .ok (.getfield 127, 3) := by decide +kernel
theorem dX12_cutAll_22 : decode cX12_cutAll 22 = .ok (.if_icmp .ge 257, 3) := by decide +kernel
theorem dX12_cutAll_25 : decode cX12_cutAll 25 = .ok (.aload_n 0, 1) := by decide +kernel
theorem dX12_cutAll_26 : decode cX12_cutAll 26 = .ok (.getfield 14, 3) := by decide +kernel
theorem dX12_cutAll_29 : decode cX12_cutAll 29 = .ok (.iload_n 2, 1) := by decide +kernel
theorem dX12_cutAll_30 : decode cX12_cutAll 30 = .ok (.iaload, 1) := by decide +kernel
theorem dX12_cutAll_31 : decode cX12_cutAll 31 = .ok (.istore_n 3, 1) := by decide +kernel
theorem dX12_cutAll_32 : decode cX12_cutAll 32 = .ok (.iload_n 3, 1) := by decide +kernel
theorem dX12_cutAll_33 : decode cX12_cutAll 33 = .ok (.bipush 10, 2) := by decide +kernel
theorem dX12_cutAll_35 : decode cX12_cutAll 35 = .ok (.if_icmp .eq 9, 3) := by decide +kernel
theorem dX12_cutAll_38 : decode cX12_cutAll 38 = .ok (.iload_n 3, 1) := by decide +kernel
theorem dX12_cutAll_39 : decode cX12_cutAll 39 = .ok (.bipush 32, 2) := by decide +kernel
theorem dX12_cutAll_41 : decode cX12_cutAll 41 = .ok (.if_icmp .ne 9, 3) := by decide +kernel
theorem dX12_cutAll_44 : decode cX12_cutAll 44 = .ok (.iinc 2 1, 3) := by decide +kernel
theorem dX12_cutAll_47 : decode cX12_cutAll 47 = .ok (.goto (-30), 3) := by decide +kernel
theorem dX12_cutAll_50 : decode cX12_cutAll 50 = .ok (.iload_n 2, 1) := by decide +kernel
theorem dX12_cutAll_51 : decode cX12_cutAll 51 = .ok (.istore 4, 2) := by decide +kernel
theorem dX12_cutAll_53 : decode cX12_cutAll 53 = .ok (.lconst 0, 1) := by decide +kernel
theorem dX12_cutAll_54 : decode cX12_cutAll 54 = .ok (.lstore 5, 2) := by decide +kernel
theorem dX12_cutAll_56 : decode cX12_cutAll 56 = .ok (.aload_n 0, 1) := by decide +kernel
theorem dX12_cutAll_57 : decode cX12_cutAll 57 = .ok (.getfield 27, 3) := by decide +kernel
theorem dX12_cutAll_60 : decode cX12_cutAll 60 = .ok (.iload_n 1, 1) := by decide +kernel
theorem dX12_cutAll_61 : decode cX12_cutAll 61 = .ok (.iload_n 2, 1) := by decide +kernel
theorem dX12_cutAll_62 : decode cX12_cutAll 62 = .ok (.iastore, 1) := by decide +kernel
theorem dX12_cutAll_63 : decode cX12_cutAll 63 = .ok (.iload_n 3, 1) := by decide +kernel
theorem dX12_cutAll_64 : decode cX12_cutAll 64 = .ok (.invokestatic 123, 3) := by decide +kernel
theorem dX12_cutAll_67 : decode cX12_cutAll 67 = .ok (.ifCond .eq 85, 3) := by decide +kernel
theorem dX12_cutAll_70 : decode cX12_cutAll 70 = .ok (.iload_n 2, 1) := by decide +kernel
theorem dX12_cutAll_71 : decode cX12_cutAll 71 = .ok (.aload_n 0, 1) := by decide +kernel
theorem dX12_cutAll_72 : decode cX12_cutAll 72 = .ok (.getfield 127, 3) := by decide +kernel
theorem dX12_cutAll_75 : decode cX12_cutAll 75 = .ok (.if_icmp .ge 54, 3) := by decide +kernel
theorem dX12_cutAll_78 : decode cX12_cutAll 78 = .ok (.aload_n 0, 1) := by decide +kernel
theorem dX12_cutAll_79 : decode cX12_cutAll 79 = .ok (.getfield 14, 3) := by decide +kernel
theorem dX12_cutAll_82 : decode cX12_cutAll 82 = .ok (.iload_n 2, 1) := by decide +kernel
theorem dX12_cutAll_83 : decode cX12_cutAll 83 = .ok (.iaload, 1) := by decide +kernel
theorem dX12_cutAll_84 : decode cX12_cutAll 84 = .ok (.invokestatic 123, 3) := by decide +kernel
theorem dX12_cutAll_87 : decode cX12_cutAll 87 = .ok (.ifCond .eq 42, 3) := by decide +kernel
theorem dX12_cutAll_90 : decode cX12_cutAll 90 = .ok (.iload_n 2, 1) := by decide +kernel
theorem dX12_cutAll_91 : decode cX12_cutAll 91 = .ok (.iload 4, 2) := by decide +kernel
theorem dX12_cutAll_93 : decode cX12_cutAll 93 = .ok (.isub, 1) := by decide +kernel
theorem dX12_cutAll_94 : decode cX12_cutAll 94 = .ok (.bipush 8, 2) := by decide +kernel
theorem dX12_cutAll_96 : decode cX12_cutAll 96 = .ok (.if_icmp .ge 23, 3) := by decide +kernel
theorem dX12_cutAll_99 : decode cX12_cutAll 99 = .ok (.ldc2_w 130, 3) := by decide +kernel
theorem dX12_cutAll_102 : decode cX12_cutAll 102 = .ok (.lload 5, 2) := by decide +kernel
theorem dX12_cutAll_104 : decode cX12_cutAll 104 = .ok (.lmul, 1) := by decide +kernel
theorem dX12_cutAll_105 : decode cX12_cutAll 105 = .ok (.aload_n 0, 1) := by decide +kernel
theorem dX12_cutAll_106 : decode cX12_cutAll 106 = .ok (.getfield 14, 3) := by decide +kernel
theorem dX12_cutAll_109 : decode cX12_cutAll 109 = .ok (.iload_n 2, 1) := by decide +kernel
theorem dX12_cutAll_110 : decode cX12_cutAll 110 = .ok (.iaload, 1) := by decide +kernel
theorem dX12_cutAll_111 : decode cX12_cutAll 111 = .ok (.invokestatic 132, 3) := by decide +kernel
theorem dX12_cutAll_114 : decode cX12_cutAll 114 = .ok (.i2l, 1) := by decide +kernel
theorem dX12_cutAll_115 : decode cX12_cutAll 115 = .ok (.ladd, 1) := by decide +kernel
theorem dX12_cutAll_116 : decode cX12_cutAll 116 = .ok (.goto 5, 3) := by decide +kernel
theorem dX12_cutAll_119 : decode cX12_cutAll 119 = .ok (.lload 5, 2) := by decide +kernel
theorem dX12_cutAll_121 : decode cX12_cutAll 121 = .ok (.lstore 5, 2) := by decide +kernel
theorem dX12_cutAll_123 : decode cX12_cutAll 123 = .ok (.iinc 2 1, 3) := by decide +kernel
theorem dX12_cutAll_126 : decode cX12_cutAll 126 = .ok (.goto (-56), 3) := by decide +kernel
theorem dX12_cutAll_129 : decode cX12_cutAll 129 = .ok (.aload_n 0, 1) := by decide +kernel
theorem dX12_cutAll_130 : decode cX12_cutAll 130 = .ok (.getfield 24, 3) := by decide +kernel
theorem dX12_cutAll_133 : decode cX12_cutAll 133 = .ok (.iload_n 1, 1) := by decide +kernel
theorem dX12_cutAll_134 : decode cX12_cutAll 134 = .ok (.iload_n 2, 1) := by decide +kernel
theorem dX12_cutAll_135 : decode cX12_cutAll 135 = .ok (.iload 4, 2) := by decide +kernel
theorem dX12_cutAll_137 : decode cX12_cutAll 137 = .ok (.isub, 1) := by decide +kernel
theorem dX12_cutAll_138 : decode cX12_cutAll 138 = .ok (.bipush 8, 2) := by decide +kernel
theorem dX12_cutAll_140 : decode cX12_cutAll 140 = .ok (.if_icmp .le 7, 3) := by decide +kernel
theorem dX12_cutAll_143 : decode cX12_cutAll 143 = .ok (.iconst 4, 1) := by decide +kernel
theorem dX12_cutAll_144 : decode cX12_cutAll 144 = .ok (.goto 4, 3) := by decide +kernel
theorem dX12_cutAll_147 : decode cX12_cutAll 147 = .ok (.iconst 1, 1) := by decide +kernel
theorem dX12_cutAll_148 : decode cX12_cutAll 148 = .ok (.iastore, 1) := by decide +kernel
theorem dX12_cutAll_149 : decode cX12_cutAll 149 = .ok (.goto 116, 3) := by decide +kernel
theorem dX12_cutAll_152 : decode cX12_cutAll 152 = .ok (.iload_n 3, 1) := by decide +kernel
theorem dX12_cutAll_153 : decode cX12_cutAll 153 = .ok (.invokestatic 136, 3) := by decide +kernel
theorem dX12_cutAll_156 : decode cX12_cutAll 156 = .ok (.ifCond .eq 84, 3) := by decide +kernel
theorem dX12_cutAll_159 : decode cX12_cutAll 159 = .ok (.iload_n 2, 1) := by decide +kernel
theorem dX12_cutAll_160 : decode cX12_cutAll 160 = .ok (.aload_n 0, 1) := by decide +kernel
theorem dX12_cutAll_161 : decode cX12_cutAll 161 = .ok (.getfield 127, 3) := by decide +kernel
theorem dX12_cutAll_164 : decode cX12_cutAll 164 = .ok (.if_icmp .ge 54, 3) := by decide +kernel
theorem dX12_cutAll_167 : decode cX12_cutAll 167 = .ok (.aload_n 0, 1) := by decide +kernel
theorem dX12_cutAll_168 : decode cX12_cutAll 168 = .ok (.getfield 14, 3) := by decide +kernel
theorem dX12_cutAll_171 : decode cX12_cutAll 171 = .ok (.iload_n 2, 1) := by decide +kernel
theorem dX12_cutAll_172 : decode cX12_cutAll 172 = .ok (.iaload, 1) := by decide +kernel
theorem dX12_cutAll_173 : decode cX12_cutAll 173 = .ok (.invokestatic 136, 3) := by decide +kernel
theorem dX12_cutAll_176 : decode cX12_cutAll 176 = .ok (.ifCond .eq 42, 3) := by decide +kernel
theorem dX12_cutAll_179 : decode cX12_cutAll 179 = .ok (.iload_n 2, 1) := by decide +kernel
theorem dX12_cutAll_180 : decode cX12_cutAll 180 = .ok (.iload 4, 2) := by decide +kernel
theorem dX12_cutAll_182 : decode cX12_cutAll 182 = .ok (.isub, 1) := by decide +kernel
theorem dX12_cutAll_183 : decode cX12_cutAll 183 = .ok (.iconst 4, 1) := by decide +kernel
theorem dX12_cutAll_184 : decode cX12_cutAll 184 = .ok (.if_icmp .ge 24, 3) := by decide +kernel
theorem dX12_cutAll_187 : decode cX12_cutAll 187 = .ok (.ldc2_w 139, 3) := by decide +kernel
theorem dX12_cutAll_190 : decode cX12_cutAll 190 = .ok (.lload 5, 2) := by decide +kernel
theorem dX12_cutAll_192 : decode cX12_cutAll 192 = .ok (.lmul, 1) := by decide +kernel
theorem dX12_cutAll_193 : decode cX12_cutAll 193 = .ok (.aload_n 0, 1) := by decide +kernel
theorem dX12_cutAll_194 : decode cX12_cutAll 194 = .ok (.getfield 14, 3) := by decide +kernel
theorem dX12_cutAll_197 : decode cX12_cutAll 197 = .ok (.iload_n 2, 1) := by decide +kernel
theorem dX12_cutAll_198 : decode cX12_cutAll 198 = .ok (.iaload, 1) := by decide +kernel
theorem dX12_cutAll_199 : decode cX12_cutAll 199 = .ok (.i2l, 1) := by decide +kernel
theorem dX12_cutAll_200 : decode cX12_cutAll 200 = .ok (.ladd, 1) := by decide +kernel
theorem dX12_cutAll_201 : decode cX12_cutAll 201 = .ok (.ldc2_w 141, 3) := by decide +kernel
theorem dX12_cutAll_204 : decode cX12_cutAll 204 = .ok (.lsub, 1) := by decide +kernel
theorem dX12_cutAll_205 : decode cX12_cutAll 205 = .ok (.goto 5, 3) := by decide +kernel
theorem dX12_cutAll_208 : decode cX12_cutAll 208 = .ok (.lload 5, 2) := by decide +kernel
theorem dX12_cutAll_210 : decode cX12_cutAll 210 = .ok (.lstore 5, 2) := by decide +kernel
theorem dX12_cutAll_212 : decode cX12_cutAll 212 = .ok (.iinc 2 1, 3) := by decide +kernel
theorem dX12_cutAll_215 : decode cX12_cutAll 215 = .ok (.goto (-56), 3) := by decide +kernel
theorem dX12_cutAll_218 : decode cX12_cutAll 218 = .ok (.aload_n 0, 1) := by decide +kernel
theorem dX12_cutAll_219 : decode cX12_cutAll 219 = .ok (.getfield 24, 3) := by decide +kernel
theorem dX12_cutAll_222 : decode cX12_cutAll 222 = .ok (.iload_n 1, 1) := by decide +kernel
theorem dX12_cutAll_223 : decode cX12_cutAll 223 = .ok (.iload_n 2, 1) := by decide +kernel
theorem dX12_cutAll_224 : decode cX12_cutAll 224 = .ok (.iload 4, 2) := by decide +kernel
theorem dX12_cutAll_226 : decode cX12_cutAll 226 = .ok (.isub, 1) := by decide +kernel
theorem dX12_cutAll_227 : decode cX12_cutAll 227 = .ok (.iconst 4, 1) := by decide +kernel
theorem dX12_cutAll_228 : decode cX12_cutAll 228 = .ok (.if_icmp .le 7, 3) := by decide +kernel
theorem dX12_cutAll_231 : decode cX12_cutAll 231 = .ok (.iconst 4, 1) := by decide +kernel
theorem dX12_cutAll_232 : decode cX12_cutAll 232 = .ok (.goto 4, 3) := by decide +kernel
theorem dX12_cutAll_235 : decode cX12_cutAll 235 = .ok (.iconst 2, 1) := by decide +kernel
theorem dX12_cutAll_236 : decode cX12_cutAll 236 = .ok (.iastore, 1) := by decide +kernel
theorem dX12_cutAll_237 : decode cX12_cutAll 237 = .ok (.goto 28, 3) := by decide +kernel
theorem dX12_cutAll_240 : decode cX12_cutAll 240 = .ok (.iload_n 3, 1) := by decide +kernel
theorem dX12_cutAll_241 : decode cX12_cutAll 241 = .ok (.i2l, 1) := by decide +kernel
theorem dX12_cutAll_242 : decode cX12_cutAll 242 = .ok (.lstore 5, 2) := by decide +kernel
theorem dX12_cutAll_244 : decode cX12_cutAll 244 = .ok (.aload_n 0, 1) := by decide +kernel
theorem dX12_cutAll_245 : decode cX12_cutAll 245 = .ok (.getfield 24, 3) := by decide +kernel
theorem dX12_cutAll_248 : decode cX12_cutAll 248 = .ok (.iload_n 1, 1) := by decide +kernel
theorem dX12_cutAll_249 : decode cX12_cutAll 249 = .ok (.iload_n 3, 1) := by decide +kernel
theorem dX12_cutAll_250 : decode cX12_cutAll 250 = .ok (.invokestatic 143, 3) := by decide +kernel
theorem dX12_cutAll_253 : decode cX12_cutAll 253 = .ok (.ifCond .eq 7, 3) := by decide +kernel
theorem dX12_cutAll_256 : decode cX12_cutAll 256 = .ok (.iconst 3, 1) := by decide +kernel
theorem dX12_cutAll_257 : decode cX12_cutAll 257 = .ok (.goto 4, 3) := by decide +kernel
theorem dX12_cutAll_260 : decode cX12_cutAll 260 = .ok (.iconst 4, 1) := by decide +kernel
theorem dX12_cutAll_261 : decode cX12_cutAll 261 = .ok (.iastore, 1) := by decide +kernel
theorem dX12_cutAll_262 : decode cX12_cutAll 262 = .ok (.iinc 2 1, 3) := by decide +kernel
theorem dX12_cutAll_265 : decode cX12_cutAll 265 = .ok (.aload_n 0, 1) := by decide +kernel
theorem dX12_cutAll_266 : decode cX12_cutAll 266 = .ok (.getfield 30, 3) := by decide +kernel
theorem dX12_cutAll_269 : decode cX12_cutAll 269 = .ok (.iload_n 1, 1) := by decide +kernel
theorem dX12_cutAll_270 : decode cX12_cutAll 270 = .ok (.lload 5, 2) := by decide +kernel
theorem dX12_cutAll_272 : decode cX12_cutAll 272 = .ok (.lastore, 1) := by decide +kernel
theorem dX12_cutAll_273 : decode cX12_cutAll 273 = .ok (.iinc 1 1, 3) := by decide +kernel
theorem dX12_cutAll_276 : decode cX12_cutAll 276 = .ok (.goto (-259), 3) := by decide +kernel
theorem dX12_cutAll_279 : decode cX12_cutAll 279 = .ok (.aload_n 0, 1) := by decide +kernel
theorem dX12_cutAll_280 : decode cX12_cutAll 280 = .ok (.getfield 24, 3) := by decide +kernel
theorem dX12_cutAll_283 : decode cX12_cutAll 283 = .ok (.iload_n 1, 1) := by decide +kernel
theorem dX12_cutAll_284 : decode cX12_cutAll 284 = .ok (.iconst 0, 1) := by decide +kernel
theorem dX12_cutAll_285 : decode cX12_cutAll 285 = .ok (.iastore, 1) := by decide +kernel
theorem dX12_cutAll_286 : decode cX12_cutAll 286 = .ok (.aload_n 0, 1) := by decide +kernel
theorem dX12_cutAll_287 : decode cX12_cutAll 287 = .ok (.getfield 27, 3) := by decide +kernel
theorem dX12_cutAll_290 : decode cX12_cutAll 290 = .ok (.iload_n 1, 1) := by decide +kernel
theorem dX12_cutAll_291 : decode cX12_cutAll 291 = .ok (.aload_n 0, 1) := by decide +kernel
theorem dX12_cutAll_292 : decode cX12_cutAll 292 = .ok (.getfield 127, 3) := by decide +kernel
theorem dX12_cutAll_295 : decode cX12_cutAll 295 = .ok (.iastore, 1) := by decide +kernel
theorem dX12_cutAll_296 : decode cX12_cutAll 296 = .ok (.aload_n 0, 1) := by decide +kernel
theorem dX12_cutAll_297 : decode cX12_cutAll 297 = .ok (.iconst 0, 1) := by decide +kernel
theorem dX12_cutAll_298 : decode cX12_cutAll 298 = .ok (.putfield 146, 3) := by decide +kernel
theorem dX12_cutAll_301 : decode cX12_cutAll 301 = .ok (.aload_n 0, 1) := by decide +kernel
theorem dX12_cutAll_302 : decode cX12_cutAll 302 = .ok (.iconst 0, 1) := by decide +kernel
theorem dX12_cutAll_303 : decode cX12_cutAll 303 = .ok (.putfield 149, 3) := by decide +kernel
theorem dX12_cutAll_306 : decode cX12_cutAll 306 = .ok (.return_, 1) := by decide +kernel
theorem dX12_errs_0 : decode cX12_errs 0 = .ok (.aload_n 0, 1) := by decide +kernel
theorem dX12_errs_1 : decode cX12_errs 1 = .ok (.getfield 149, 3) := by decide +kernel
theorem dX12_errs_4 : decode cX12_errs 4 = .ok (.ifCond .ne 21, 3) := by decide +kernel
theorem dX12_errs_7 : decode cX12_errs 7 = .ok (.aload_n 0, 1) := by decide +kernel
theorem dX12_errs_8 : decode cX12_errs 8 = .ok (.iload_n 1, 1) := by decide +kernel
theorem dX12_errs_9 : decode cX12_errs 9 = .ok (.bipush 16, 2) := by decide +kernel
theorem dX12_errs_11 : decode cX12_errs 11 = .ok (.aload_n 0, 1) := by decide +kernel
theorem dX12_errs_12 : decode cX12_errs 12 = .ok (.getfield 27, 3) := by decide +kernel
theorem dX12_errs_15 : decode cX12_errs 15 = .ok (.aload_n 0, 1) := by decide +kernel
theorem dX12_errs_16 : decode cX12_errs 16 = .ok (.getfield 146, 3) := by decide +kernel
theorem dX12_errs_19 : decode cX12_errs 19 = .ok (.iaload, 1) := by decide +kernel
theorem dX12_errs_20 : decode cX12_errs 20 = .ok (.imul, 1) := by decide +kernel
theorem dX12_errs_21 : decode cX12_errs 21 = .ok (.iadd, 1) := by decide +kernel
theorem dX12_errs_22 : decode cX12_errs 22 = .ok (.putfield 149, 3) := by decide +kernel
theorem dX12_errs_25 : decode cX12_errs 25 = .ok (.return_, 1) := by decide +kernel
theorem dX12_isSign_0 : decode cX12_isSign 0 = .ok (.aload_n 0, 1) := by decide +kernel
theorem dX12_isSign_1 : decode cX12_isSign 1 = .ok (.getfield 149, 3) := by decide +kernel
theorem dX12_isSign_4 : decode cX12_isSign 4 = .ok (.ifCond .ne 35, 3) := by decide +kernel
theorem dX12_isSign_7 : decode cX12_isSign 7 = .ok (.aload_n 0, 1) := by decide +kernel
theorem dX12_isSign_8 : decode cX12_isSign 8 = .ok (.getfield 24, 3) := by decide +kernel
theorem dX12_isSign_11 : decode cX12_isSign 11 = .ok (.aload_n 0, 1) := by decide +kernel
theorem dX12_isSign_12 : decode cX12_isSign 12 = .ok (.getfield 146, 3) := by decide +kernel
theorem dX12_isSign_15 : decode cX12_isSign 15 = .ok (.iaload, 1) := by decide +kernel
theorem dX12_isSign_16 : decode cX12_isSign 16 = .ok (.iconst 3, 1) := by decide +kernel
theorem dX12_isSign_17 : decode cX12_isSign 17 = .ok (.if_icmp .ne 22, 3) := by decide +kernel
theorem dX12_isSign_20 : decode cX12_isSign 20 = .ok (.aload_n 0, 1) := by decide +kernel
theorem dX12_isSign_21 : decode cX12_isSign 21 = .ok (.getfield 30, 3) := by decide +kernel
theorem dX12_isSign_24 : decode cX12_isSign 24 = .ok (.aload_n 0, 1) := by decide +kernel
theorem dX12_isSign_25 : decode cX12_isSign 25 = .ok (.getfield 146, 3) := by decide +kernel
theorem dX12_isSign_28 : decode cX12_isSign 28 = .ok (.laload, 1) := by decide +kernel
theorem dX12_isSign_29 : decode cX12_isSign 29 = .ok (.iload_n 1, 1) := by decide +kernel
theorem dX12_isSign_30 : decode cX12_isSign 30 = .ok (.i2l, 1) := by decide +kernel
theorem dX12_isSign_31 : decode cX12_isSign 31 = .ok (.lcmp, 1) := by decide +kernel
theorem dX12_isSign_32 : decode cX12_isSign 32 = .ok (.ifCond .ne 7, 3) := by decide +kernel
theorem dX12_isSign_35 : decode cX12_isSign 35 = .ok (.iconst 1, 1) := by decide +kernel
theorem dX12_isSign_36 : decode cX12_isSign 36 = .ok (.goto 4, 3) := by decide +kernel
theorem dX12_isSign_39 : decode cX12_isSign 39 = .ok (.iconst 0, 1) := by decide +kernel
theorem dX12_isSign_40 : decode cX12_isSign 40 = .ok (.ireturn, 1) := by decide +kernel
theorem dX12_isWord_0 : decode cX12_isWord 0 = .ok (.aload_n 0, 1) := by decide +kernel
theorem dX12_isWord_1 : decode cX12_isWord 1 = .ok (.getfield 149, 3) := by decide +kernel
theorem dX12_isWord_4 : decode cX12_isWord 4 = .ok (.ifCond .ne 39, 3) := by decide +kernel
theorem dX12_isWord_7 : decode cX12_isWord 7 = .ok (.aload_n 0, 1) := by decide +kernel
theorem dX12_isWord_8 : decode cX12_isWord 8 = .ok (.getfield 24, 3) := by decide +kernel
theorem dX12_isWord_11 : decode cX12_isWord 11 = .ok (.aload_n 0, 1) := by decide +kernel
theorem dX12_isWord_12 : decode cX12_isWord 12 = .ok (.getfield 146, 3) := by decide +kernel
theorem dX12_isWord_15 : decode cX12_isWord 15 = .ok (.iaload, 1) := by decide +kernel
theorem dX12_isWord_16 : decode cX12_isWord 16 = .ok (.iconst 1, 1) := by decide +kernel
theorem dX12_isWord_17 : decode cX12_isWord 17 = .ok (.if_icmp .ne 26, 3) := by decide +kernel
theorem dX12_isWord_20 : decode cX12_isWord 20 = .ok (.aload_n 0, 1) := by decide +kernel
theorem dX12_isWord_21 : decode cX12_isWord 21 = .ok (.getfield 30, 3) := by decide +kernel
theorem dX12_isWord_24 : decode cX12_isWord 24 = .ok (.aload_n 0, 1) := by decide +kernel
theorem dX12_isWord_25 : decode cX12_isWord 25 = .ok (.getfield 146, 3) := by decide +kernel
theorem dX12_isWord_28 : decode cX12_isWord 28 = .ok (.laload, 1) := by decide +kernel
theorem dX12_isWord_29 : decode cX12_isWord 29 = .ok (.aload_n 0, 1) := by decide +kernel
theorem dX12_isWord_30 : decode cX12_isWord 30 = .ok (.getfield 62, 3) := by decide +kernel
theorem dX12_isWord_33 : decode cX12_isWord 33 = .ok (.iload_n 1, 1) := by decide +kernel
theorem dX12_isWord_34 : decode cX12_isWord 34 = .ok (.laload, 1) := by decide +kernel
theorem dX12_isWord_35 : decode cX12_isWord 35 = .ok (.lcmp, 1) := by decide +kernel
theorem dX12_isWord_36 : decode cX12_isWord 36 = .ok (.ifCond .ne 7, 3) := by decide +kernel
theorem dX12_isWord_39 : decode cX12_isWord 39 = .ok (.iconst 1, 1) := by decide +kernel
theorem dX12_isWord_40 : decode cX12_isWord 40 = .ok (.goto 4, 3) := by decide +kernel
theorem dX12_isWord_43 : decode cX12_isWord 43 = .ok (.iconst 0, 1) := by decide +kernel
theorem dX12_isWord_44 : decode cX12_isWord 44 = .ok (.ireturn, 1) := by decide +kernel
theorem dX12_takeSign_0 : decode cX12_takeSign 0 = .ok (.aload_n 0, 1) := by decide +kernel
theorem dX12_takeSign_1 : decode cX12_takeSign 1 = .ok (.iload_n 1, 1) := by decide +kernel
theorem dX12_takeSign_2 : decode cX12_takeSign 2 = .ok (.invokevirtual 152, 3) := by decide +kernel
theorem dX12_takeSign_5 : decode cX12_takeSign 5 = .ok (.ifCond .eq 16, 3) := by decide +kernel
theorem dX12_takeSign_8 : decode cX12_takeSign 8 = .ok (.aload_n 0, 1) := by decide +kernel
theorem dX12_takeSign_9 : decode cX12_takeSign 9 = .ok (.dup, 1) := by decide +kernel
theorem dX12_takeSign_10 : decode cX12_takeSign 10 = .ok (.getfield 146, 3) := by decide +kernel
theorem dX12_takeSign_13 : decode cX12_takeSign 13 = .ok (.iconst 1, 1) := by decide +kernel
theorem dX12_takeSign_14 : decode cX12_takeSign 14 = .ok (.iadd, 1) := by decide +kernel
theorem dX12_takeSign_15 : decode cX12_takeSign 15 = .ok (.putfield 146, 3) := by decide +kernel
theorem dX12_takeSign_18 : decode cX12_takeSign 18 = .ok (.goto 8, 3) := by decide +kernel
theorem dX12_takeSign_21 : decode cX12_takeSign 21 = .ok (.aload_n 0, 1) := by decide +kernel
theorem dX12_takeSign_22 : decode cX12_takeSign 22 = .ok (.iconst 1, 1) := by decide +kernel
theorem dX12_takeSign_23 : decode cX12_takeSign 23 = .ok (.invokevirtual 155, 3) := by decide +kernel
theorem dX12_takeSign_26 : decode cX12_takeSign 26 = .ok (.return_, 1) := by decide +kernel
theorem dX12_hasWord_0 : decode cX12_hasWord 0 = .ok (.aload_n 0, 1) := by decide +kernel
theorem dX12_hasWord_1 : decode cX12_hasWord 1 = .ok (.iload_n 1, 1) := by decide +kernel
theorem dX12_hasWord_2 : decode cX12_hasWord 2 = .ok (.invokevirtual 159, 3) := by decide +kernel
theorem dX12_hasWord_5 : decode cX12_hasWord 5 = .ok (.istore_n 2, 1) := by decide +kernel
theorem dX12_hasWord_6 : decode cX12_hasWord 6 = .ok (.aload_n 0, 1) := by decide +kernel
theorem dX12_hasWord_7 : decode cX12_hasWord 7 = .ok (.dup, 1) := by decide +kernel
theorem dX12_hasWord_8 : decode cX12_hasWord 8 = .ok (.getfield 146, 3) := by decide +kernel
theorem dX12_hasWord_11 : decode cX12_hasWord 11 = .ok (.iload_n 2, 1) := by decide +kernel
theorem dX12_hasWord_12 : decode cX12_hasWord 12 = .ok (.ifCond .eq 7, 3) := by decide +kernel
theorem dX12_hasWord_15 : decode cX12_hasWord 15 = .ok (.iconst 1, 1) := by decide +kernel
theorem dX12_hasWord_16 : decode cX12_hasWord 16 = .ok (.goto 4, 3) := by decide +kernel
theorem dX12_hasWord_19 : decode cX12_hasWord 19 = .ok (.iconst 0, 1) := by decide +kernel
theorem dX12_hasWord_20 : decode cX12_hasWord 20 = .ok (.iadd, 1) := by decide +kernel
theorem dX12_hasWord_21 : decode cX12_hasWord 21 = .ok (.putfield 146, 3) := by decide +kernel
theorem dX12_hasWord_24 : decode cX12_hasWord 24 = .ok (.iload_n 2, 1) := by decide +kernel
theorem dX12_hasWord_25 : decode cX12_hasWord 25 = .ok (.ireturn, 1) := by decide +kernel
theorem dX12_takeWord_0 : decode cX12_takeWord 0 = .ok (.aload_n 0, 1) := by decide +kernel
theorem dX12_takeWord_1 : decode cX12_takeWord 1 = .ok (.iload_n 1, 1) := by decide +kernel
theorem dX12_takeWord_2 : decode cX12_takeWord 2 = .ok (.invokevirtual 162, 3) := by decide +kernel
theorem dX12_takeWord_5 : decode cX12_takeWord 5 = .ok (.ifCond .ne 8, 3) := by decide +kernel
theorem dX12_takeWord_8 : decode cX12_takeWord 8 = .ok (.aload_n 0, 1) := by decide +kernel
theorem dX12_takeWord_9 : decode cX12_takeWord 9 = .ok (.iconst 1, 1) := by decide +kernel
theorem dX12_takeWord_10 : decode cX12_takeWord 10 = .ok (.invokevirtual 155, 3) := by decide +kernel
theorem dX12_takeWord_13 : decode cX12_takeWord 13 = .ok (.return_, 1) := by decide +kernel
theorem dX12_within_0 : decode cX12_within 0 = .ok (.iload_n 0, 1) := by decide +kernel
theorem dX12_within_1 : decode cX12_within 1 = .ok (.iload_n 1, 1) := by decide +kernel
theorem dX12_within_2 : decode cX12_within 2 = .ok (.if_icmp .lt 12, 3) := by decide +kernel
theorem dX12_within_5 : decode cX12_within 5 = .ok (.iload_n 0, 1) := by decide +kernel
theorem dX12_within_6 : decode cX12_within 6 = .ok (.iload_n 2, 1) := by decide +kernel
theorem dX12_within_7 : decode cX12_within 7 = .ok (.if_icmp .gt 7, 3) := by decide +kernel
theorem dX12_within_10 : decode cX12_within 10 = .ok (.iconst 1, 1) := by decide +kernel
theorem dX12_within_11 : decode cX12_within 11 = .ok (.goto 4, 3) := by decide +kernel
theorem dX12_within_14 : decode cX12_within 14 = .ok (.iconst 0, 1) := by decide +kernel
theorem dX12_within_15 : decode cX12_within 15 = .ok (.ireturn, 1) := by decide +kernel
theorem dX12_takeNumber_0 : decode cX12_takeNumber 0 = .ok (.aload_n 0, 1) := by decide +kernel
theorem dX12_takeNumber_1 : decode cX12_takeNumber 1 = .ok (.getfield 149, 3) := by decide +kernel
theorem dX12_takeNumber_4 : decode cX12_takeNumber 4 = .ok (.ifCond .ne 24, 3) := by decide +kernel
theorem dX12_takeNumber_7 : decode cX12_takeNumber 7 = .ok (.aload_n 0, 1) := by decide +kernel
theorem dX12_takeNumber_8 : decode cX12_takeNumber 8 = .ok (.getfield 24, 3) := by decide +kernel
theorem dX12_takeNumber_11 : decode cX12_takeNumber 11 = .ok (.aload_n 0, 1) := by decide +kernel
theorem dX12_takeNumber_12 : decode cX12_takeNumber 12 = .ok (.getfield 146, 3) := by decide +kernel
theorem dX12_takeNumber_15 : decode cX12_takeNumber 15 = .ok (.iaload, 1) := by decide +kernel
theorem dX12_takeNumber_16 : decode cX12_takeNumber 16 = .ok (.iconst 2, 1) := by decide +kernel
theorem dX12_takeNumber_17 : decode cX12_takeNumber 17 = .ok (.if_icmp .eq 11, 3) := by decide +kernel
theorem dX12_takeNumber_20 : decode cX12_takeNumber 20 = .ok (.aload_n 0, 1) := by decide +kernel
theorem dX12_takeNumber_21 : decode cX12_takeNumber 21 = .ok (.iconst 1, 1) := by decide +kernel
theorem dX12_takeNumber_22 : decode cX12_takeNumber 22 = .ok (.invokevirtual 155, 3) := by decide +kernel
theorem dX12_takeNumber_25 : decode cX12_takeNumber 25 = .ok (.goto 45, 3) := by decide +kernel
theorem dX12_takeNumber_28 : decode cX12_takeNumber 28 = .ok (.aload_n 0, 1) := by decide +kernel
theorem dX12_takeNumber_29 : decode cX12_takeNumber 29 = .ok (.getfield 149, 3) := by decide +kernel
theorem dX12_takeNumber_32 : decode cX12_takeNumber 32 = .ok (.ifCond .ne 38, 3) := by decide +kernel
theorem dX12_takeNumber_35 : decode cX12_takeNumber 35 = .ok (.aload_n 0, 1) := by decide +kernel
theorem dX12_takeNumber_36 : decode cX12_takeNumber 36 = .ok (.getfield 30, 3) := by decide +kernel
theorem dX12_takeNumber_39 : decode cX12_takeNumber 39 = .ok (.aload_n 0, 1) := by decide +kernel
theorem dX12_takeNumber_40 : decode cX12_takeNumber 40 = .ok (.getfield 146, 3) := by decide +kernel
theorem dX12_takeNumber_43 : decode cX12_takeNumber 43 = .ok (.laload, 1) := by decide +kernel
theorem dX12_takeNumber_44 : decode cX12_takeNumber 44 = .ok (.iload_n 1, 1) := by decide +kernel
theorem dX12_takeNumber_45 : decode cX12_takeNumber 45 = .ok (.i2l, 1) := by decide +kernel
theorem dX12_takeNumber_46 : decode cX12_takeNumber 46 = .ok (.lcmp, 1) := by decide +kernel
theorem dX12_takeNumber_47 : decode cX12_takeNumber 47 = .ok (.ifCond .lt 18, 3) := by decide +kernel
theorem dX12_takeNumber_50 : decode cX12_takeNumber 50 = .ok (.aload_n 0, 1) := by decide +kernel
theorem dX12_takeNumber_51 : decode cX12_takeNumber 51 = .ok (.getfield 30, 3) := by decide +kernel
theorem dX12_takeNumber_54 : decode cX12_takeNumber 54 = .ok (.aload_n 0, 1) := by decide +kernel
theorem dX12_takeNumber_55 : decode cX12_takeNumber 55 = .ok (.getfield 146, 3) := by decide +kernel
theorem dX12_takeNumber_58 : decode cX12_takeNumber 58 = .ok (.laload, 1) := by decide +kernel
theorem dX12_takeNumber_59 : decode cX12_takeNumber 59 = .ok (.iload_n 2, 1) := by decide +kernel
theorem dX12_takeNumber_60 : decode cX12_takeNumber 60 = .ok (.i2l, 1) := by decide +kernel
theorem dX12_takeNumber_61 : decode cX12_takeNumber 61 = .ok (.lcmp, 1) := by decide +kernel
theorem dX12_takeNumber_62 : decode cX12_takeNumber 62 = .ok (.ifCond .le 8, 3) := by decide +kernel
theorem dX12_takeNumber_65 : decode cX12_takeNumber 65 = .ok (.aload_n 0, 1) := by decide +kernel
theorem dX12_takeNumber_66 : decode cX12_takeNumber 66 = .ok (.iconst 4, 1) := by decide +kernel
theorem dX12_takeNumber_67 : decode cX12_takeNumber 67 = .ok (.invokevirtual 155, 3) := by decide +kernel
theorem dX12_takeNumber_70 : decode cX12_takeNumber 70 = .ok (.aload_n 0, 1) := by decide +kernel
theorem dX12_takeNumber_71 : decode cX12_takeNumber 71 = .ok (.getfield 149, 3) := by decide +kernel
theorem dX12_takeNumber_74 : decode cX12_takeNumber 74 = .ok (.ifCond .le 5, 3) := by decide +kernel
theorem dX12_takeNumber_77 : decode cX12_takeNumber 77 = .ok (.iconst 0, 1) := by decide +kernel
theorem dX12_takeNumber_78 : decode cX12_takeNumber 78 = .ok (.ireturn, 1) := by decide +kernel
theorem dX12_takeNumber_79 : decode cX12_takeNumber 79 = .ok (.aload_n 0, 1) := by decide +kernel
theorem dX12_takeNumber_80 : decode cX12_takeNumber 80 = .ok (.dup, 1) := by decide +kernel
theorem dX12_takeNumber_81 : decode cX12_takeNumber 81 = .ok (.getfield 146, 3) := by decide +kernel
theorem dX12_takeNumber_84 : decode cX12_takeNumber 84 = .ok (.iconst 1, 1) := by decide +kernel
theorem dX12_takeNumber_85 : decode cX12_takeNumber 85 = .ok (.iadd, 1) := by decide +kernel
theorem dX12_takeNumber_86 : decode cX12_takeNumber 86 = .ok (.putfield 146, 3) := by decide +kernel
theorem dX12_takeNumber_89 : decode cX12_takeNumber 89 = .ok (.aload_n 0, 1) := by decide +kernel
theorem dX12_takeNumber_90 : decode cX12_takeNumber 90 = .ok (.getfield 30, 3) := by decide +kernel
theorem dX12_takeNumber_93 : decode cX12_takeNumber 93 = .ok (.aload_n 0, 1) := by decide +kernel
theorem dX12_takeNumber_94 : decode cX12_takeNumber 94 = .ok (.getfield 146, 3) := by decide +kernel
theorem dX12_takeNumber_97 : decode cX12_takeNumber 97 = .ok (.iconst 1, 1) := by decide +kernel
theorem dX12_takeNumber_98 : decode cX12_takeNumber 98 = .ok (.isub, 1) := by decide +kernel
theorem dX12_takeNumber_99 : decode cX12_takeNumber 99 = .ok (.laload, 1) := by decide +kernel
theorem dX12_takeNumber_100 : decode cX12_takeNumber 100 = .ok (.l2i, 1) := by decide +kernel
theorem dX12_takeNumber_101 : decode cX12_takeNumber 101 = .ok (.ireturn, 1) := by decide +kernel
theorem dX12_isName_0 : decode cX12_isName 0 = .ok (.aload_n 0, 1) := by decide +kernel
theorem dX12_isName_1 : decode cX12_isName 1 = .ok (.getfield 149, 3) := by decide +kernel
theorem dX12_isName_4 : decode cX12_isName 4 = .ok (.ifCond .ne 20, 3) := by decide +kernel
theorem dX12_isName_7 : decode cX12_isName 7 = .ok (.aload_n 0, 1) := by decide +kernel
theorem dX12_isName_8 : decode cX12_isName 8 = .ok (.getfield 24, 3) := by decide +kernel
theorem dX12_isName_11 : decode cX12_isName 11 = .ok (.aload_n 0, 1) := by decide +kernel
theorem dX12_isName_12 : decode cX12_isName 12 = .ok (.getfield 146, 3) := by decide +kernel
theorem dX12_isName_15 : decode cX12_isName 15 = .ok (.iaload, 1) := by decide +kernel
theorem dX12_isName_16 : decode cX12_isName 16 = .ok (.iconst 1, 1) := by decide +kernel
theorem dX12_isName_17 : decode cX12_isName 17 = .ok (.if_icmp .ne 7, 3) := by decide +kernel
theorem dX12_isName_20 : decode cX12_isName 20 = .ok (.iconst 1, 1) := by decide +kernel
theorem dX12_isName_21 : decode cX12_isName 21 = .ok (.goto 4, 3) := by decide +kernel
theorem dX12_isName_24 : decode cX12_isName 24 = .ok (.iconst 0, 1) := by decide +kernel
theorem dX12_isName_25 : decode cX12_isName 25 = .ok (.istore_n 1, 1) := by decide +kernel
theorem dX12_isName_26 : decode cX12_isName 26 = .ok (.iconst 0, 1) := by decide +kernel
theorem dX12_isName_27 : decode cX12_isName 27 = .ok (.istore_n 2, 1) := by decide +kernel
theorem dX12_isName_28 : decode cX12_isName 28 = .ok (.iload_n 2, 1) := by decide +kernel
theorem dX12_isName_29 : decode cX12_isName 29 = .ok (.bipush 14, 2) := by decide +kernel
theorem dX12_isName_31 : decode cX12_isName 31 = .ok (.if_icmp .ge 38, 3) := by decide +kernel
theorem dX12_isName_34 : decode cX12_isName 34 = .ok (.iload_n 1, 1) := by decide +kernel
theorem dX12_isName_35 : decode cX12_isName 35 = .ok (.ifCond .eq 26, 3) := by decide +kernel
theorem dX12_isName_38 : decode cX12_isName 38 = .ok (.aload_n 0, 1) := by decide +kernel
theorem dX12_isName_39 : decode cX12_isName 39 = .ok (.getfield 30, 3) := by decide +kernel
theorem dX12_isName_42 : decode cX12_isName 42 = .ok (.aload_n 0, 1) := by decide +kernel
theorem dX12_isName_43 : decode cX12_isName 43 = .ok (.getfield 146, 3) := by decide +kernel
theorem dX12_isName_46 : decode cX12_isName 46 = .ok (.laload, 1) := by decide +kernel
theorem dX12_isName_47 : decode cX12_isName 47 = .ok (.aload_n 0, 1) := by decide +kernel
theorem dX12_isName_48 : decode cX12_isName 48 = .ok (.getfield 62, 3) := by decide +kernel
theorem dX12_isName_51 : decode cX12_isName 51 = .ok (.iload_n 2, 1) := by decide +kernel
theorem dX12_isName_52 : decode cX12_isName 52 = .ok (.laload, 1) := by decide +kernel
theorem dX12_isName_53 : decode cX12_isName 53 = .ok (.lcmp, 1) := by decide +kernel
theorem dX12_isName_54 : decode cX12_isName 54 = .ok (.ifCond .eq 7, 3) := by decide +kernel
theorem dX12_isName_57 : decode cX12_isName 57 = .ok (.iconst 1, 1) := by decide +kernel
theorem dX12_isName_58 : decode cX12_isName 58 = .ok (.goto 4, 3) := by decide +kernel
theorem dX12_isName_61 : decode cX12_isName 61 = .ok (.iconst 0, 1) := by decide +kernel
theorem dX12_isName_62 : decode cX12_isName 62 = .ok (.istore_n 1, 1) := by decide +kernel
theorem dX12_isName_63 : decode cX12_isName 63 = .ok (.iinc 2 1, 3) := by decide +kernel
theorem dX12_isName_66 : decode cX12_isName 66 = .ok (.goto (-38), 3) := by decide +kernel
theorem dX12_isName_69 : decode cX12_isName 69 = .ok (.iload_n 1, 1) := by decide +kernel
theorem dX12_isName_70 : decode cX12_isName 70 = .ok (.ireturn, 1) := by decide +kernel
theorem dX12_find_0 : decode cX12_find 0 = .ok (.iconst 0, 1) := by decide +kernel
theorem dX12_find_1 : decode cX12_find 1 = .ok (.istore_n 1, 1) := by decide +kernel
theorem dX12_find_2 : decode cX12_find 2 = .ok (.iload_n 1, 1) := by decide +kernel
theorem dX12_find_3 : decode cX12_find 3 = .ok (.aload_n 0, 1) := by decide +kernel
theorem dX12_find_4 : decode cX12_find 4 = .ok (.getfield 165, 3) := by decide +kernel
theorem dX12_find_7 : decode cX12_find 7 = .ok (.if_icmp .ge 35, 3) := by decide +kernel
theorem dX12_find_10 : decode cX12_find 10 = .ok (.aload_n 0, 1) := by decide +kernel
theorem dX12_find_11 : decode cX12_find 11 = .ok (.getfield 68, 3) := by decide +kernel
theorem dX12_find_14 : decode cX12_find 14 = .ok (.iload_n 1, 1) := by decide +kernel
theorem dX12_find_15 : decode cX12_find 15 = .ok (.laload, 1) := by decide +kernel
theorem dX12_find_16 : decode cX12_find 16 = .ok (.aload_n 0, 1) := by decide +kernel
theorem dX12_find_17 : decode cX12_find 17 = .ok (.getfield 30, 3) := by decide +kernel
theorem dX12_find_20 : decode cX12_find 20 = .ok (.aload_n 0, 1) := by decide +kernel
theorem dX12_find_21 : decode cX12_find 21 = .ok (.getfield 146, 3) := by decide +kernel
theorem dX12_find_24 : decode cX12_find 24 = .ok (.laload, 1) := by decide +kernel
theorem dX12_find_25 : decode cX12_find 25 = .ok (.lcmp, 1) := by decide +kernel
theorem dX12_find_26 : decode cX12_find 26 = .ok (.ifCond .ne 10, 3) := by decide +kernel
theorem dX12_find_29 : decode cX12_find 29 = .ok (.aload_n 0, 1) := by decide +kernel
theorem dX12_find_30 : decode cX12_find 30 = .ok (.getfield 71, 3) := by decide +kernel
theorem dX12_find_33 : decode cX12_find 33 = .ok (.iload_n 1, 1) := by decide +kernel
theorem dX12_find_34 : decode cX12_find 34 = .ok (.iaload, 1) := by decide +kernel
theorem dX12_find_35 : decode cX12_find 35 = .ok (.ireturn, 1) := by decide +kernel
theorem dX12_find_36 : decode cX12_find 36 = .ok (.iinc 1 1, 3) := by decide +kernel
theorem dX12_find_39 : decode cX12_find 39 = .ok (.goto (-37), 3) := by decide +kernel
theorem dX12_find_42 : decode cX12_find 42 = .ok (.iconst (-1), 1) := by decide +kernel
theorem dX12_find_43 : decode cX12_find 43 = .ok (.ireturn, 1) := by decide +kernel
theorem dX12_carry_0 : decode cX12_carry 0 = .ok (.iconst 0, 1) := by decide +kernel
theorem dX12_carry_1 : decode cX12_carry 1 = .ok (.istore_n 3, 1) := by decide +kernel
theorem dX12_carry_2 : decode cX12_carry 2 = .ok (.iload_n 3, 1) := by decide +kernel
theorem dX12_carry_3 : decode cX12_carry 3 = .ok (.sipush 170, 3) := by decide +kernel
theorem dX12_carry_6 : decode cX12_carry 6 = .ok (.if_icmp .ge 33, 3) := by decide +kernel
theorem dX12_carry_9 : decode cX12_carry 9 = .ok (.aload_n 0, 1) := by decide +kernel
theorem dX12_carry_10 : decode cX12_carry 10 = .ok (.getfield 65, 3) := by decide +kernel
theorem dX12_carry_13 : decode cX12_carry 13 = .ok (.sipush 170, 3) := by decide +kernel
theorem dX12_carry_16 : decode cX12_carry 16 = .ok (.iload_n 2, 1) := by decide +kernel
theorem dX12_carry_17 : decode cX12_carry 17 = .ok (.imul, 1) := by decide +kernel
theorem dX12_carry_18 : decode cX12_carry 18 = .ok (.iload_n 3, 1) := by decide +kernel
theorem dX12_carry_19 : decode cX12_carry 19 = .ok (.iadd, 1) := by decide +kernel
theorem dX12_carry_20 : decode cX12_carry 20 = .ok (.aload_n 0, 1) := by decide +kernel
theorem dX12_carry_21 : decode cX12_carry 21 = .ok (.getfield 65, 3) := by decide +kernel
theorem dX12_carry_24 : decode cX12_carry 24 = .ok (.sipush 170, 3) := by decide +kernel
theorem dX12_carry_27 : decode cX12_carry 27 = .ok (.iload_n 1, 1) := by decide +kernel
theorem dX12_carry_28 : decode cX12_carry 28 = .ok (.imul, 1) := by decide +kernel
theorem dX12_carry_29 : decode cX12_carry 29 = .ok (.iload_n 3, 1) := by decide +kernel
theorem dX12_carry_30 : decode cX12_carry 30 = .ok (.iadd, 1) := by decide +kernel
theorem dX12_carry_31 : decode cX12_carry 31 = .ok (.iaload, 1) := by decide +kernel
theorem dX12_carry_32 : decode cX12_carry 32 = .ok (.iastore, 1) := by decide +kernel
theorem dX12_carry_33 : decode cX12_carry 33 = .ok (.iinc 3 1, 3) := by decide +kernel
theorem dX12_carry_36 : decode cX12_carry 36 = .ok (.goto (-34), 3) := by decide +kernel
theorem dX12_carry_39 : decode cX12_carry 39 = .ok (.return_, 1) := by decide +kernel
theorem dX12_town_0 : decode cX12_town 0 = .ok (.aload_n 0, 1) := by decide +kernel
theorem dX12_town_1 : decode cX12_town 1 = .ok (.iconst 0, 1) := by decide +kernel
theorem dX12_town_2 : decode cX12_town 2 = .ok (.putfield 1, 3) := by decide +kernel
theorem dX12_town_5 : decode cX12_town 5 = .ok (.aload_n 0, 1) := by decide +kernel
theorem dX12_town_6 : decode cX12_town 6 = .ok (.invokevirtual 168, 3) := by decide +kernel
theorem dX12_town_9 : decode cX12_town 9 = .ok (.aload_n 0, 1) := by decide +kernel
theorem dX12_town_10 : decode cX12_town 10 = .ok (.iconst 0, 1) := by decide +kernel
theorem dX12_town_11 : decode cX12_town 11 = .ok (.putfield 165, 3) := by decide +kernel
theorem dX12_town_14 : decode cX12_town 14 = .ok (.aload_n 0, 1) := by decide +kernel
theorem dX12_town_15 : decode cX12_town 15 = .ok (.iconst 0, 1) := by decide +kernel
theorem dX12_town_16 : decode cX12_town 16 = .ok (.putfield 171, 3) := by decide +kernel
theorem dX12_town_19 : decode cX12_town 19 = .ok (.iconst 0, 1) := by decide +kernel
theorem dX12_town_20 : decode cX12_town 20 = .ok (.istore_n 1, 1) := by decide +kernel
theorem dX12_town_21 : decode cX12_town 21 = .ok (.iload_n 1, 1) := by decide +kernel
theorem dX12_town_22 : decode cX12_town 22 = .ok (.sipush 170, 3) := by decide +kernel
theorem dX12_town_25 : decode cX12_town 25 = .ok (.if_icmp .ge 20, 3) := by decide +kernel
theorem dX12_town_28 : decode cX12_town 28 = .ok (.aload_n 0, 1) := by decide +kernel
theorem dX12_town_29 : decode cX12_town 29 = .ok (.getfield 65, 3) := by decide +kernel
theorem dX12_town_32 : decode cX12_town 32 = .ok (.sipush 170, 3) := by decide +kernel
theorem dX12_town_35 : decode cX12_town 35 = .ok (.iload_n 1, 1) := by decide +kernel
theorem dX12_town_36 : decode cX12_town 36 = .ok (.iadd, 1) := by decide +kernel
theorem dX12_town_37 : decode cX12_town 37 = .ok (.iconst 0, 1) := by decide +kernel
theorem dX12_town_38 : decode cX12_town 38 = .ok (.iastore, 1) := by decide +kernel
theorem dX12_town_39 : decode cX12_town 39 = .ok (.iinc 1 1, 3) := by decide +kernel
theorem dX12_town_42 : decode cX12_town 42 = .ok (.goto (-21), 3) := by decide +kernel
theorem dX12_town_45 : decode cX12_town 45 = .ok (.aload_n 0, 1) := by decide +kernel
theorem dX12_town_46 : decode cX12_town 46 = .ok (.getfield 149, 3) := by decide +kernel
theorem dX12_town_49 : decode cX12_town 49 = .ok (.ifCond .ne 28, 3) := by decide +kernel
theorem dX12_town_52 : decode cX12_town 52 = .ok (.aload_n 0, 1) := by decide +kernel
theorem dX12_town_53 : decode cX12_town 53 = .ok (.getfield 24, 3) := by decide +kernel
theorem dX12_town_56 : decode cX12_town 56 = .ok (.aload_n 0, 1) := by decide +kernel
theorem dX12_town_57 : decode cX12_town 57 = .ok (.getfield 146, 3) := by decide +kernel
theorem dX12_town_60 : decode cX12_town 60 = .ok (.iaload, 1) := by decide +kernel
theorem dX12_town_61 : decode cX12_town 61 = .ok (.ifCond .eq 16, 3) := by decide +kernel
theorem dX12_town_64 : decode cX12_town 64 = .ok (.aload_n 0, 1) := by decide +kernel
theorem dX12_town_65 : decode cX12_town 65 = .ok (.invokevirtual 175, 3) := by decide +kernel
theorem dX12_town_68 : decode cX12_town 68 = .ok (.aload_n 0, 1) := by decide +kernel
theorem dX12_town_69 : decode cX12_town 69 = .ok (.bipush 59, 2) := by decide +kernel
theorem dX12_town_71 : decode cX12_town 71 = .ok (.invokevirtual 178, 3) := by decide +kernel
theorem dX12_town_74 : decode cX12_town 74 = .ok (.goto (-29), 3) := by decide +kernel
theorem dX12_town_77 : decode cX12_town 77 = .ok (.aload_n 0, 1) := by decide +kernel
theorem dX12_town_78 : decode cX12_town 78 = .ok (.getfield 149, 3) := by decide +kernel
theorem dX12_town_81 : decode cX12_town 81 = .ok (.ifCond .le 8, 3) := by decide +kernel
theorem dX12_town_84 : decode cX12_town 84 = .ok (.aload_n 0, 1) := by decide +kernel
theorem dX12_town_85 : decode cX12_town 85 = .ok (.getfield 149, 3) := by decide +kernel
theorem dX12_town_88 : decode cX12_town 88 = .ok (.ireturn, 1) := by decide +kernel
theorem dX12_town_89 : decode cX12_town 89 = .ok (.aload_n 0, 1) := by decide +kernel
theorem dX12_town_90 : decode cX12_town 90 = .ok (.iconst 1, 1) := by decide +kernel
theorem dX12_town_91 : decode cX12_town 91 = .ok (.iconst 0, 1) := by decide +kernel
theorem dX12_town_92 : decode cX12_town 92 = .ok (.invokevirtual 181, 3) := by decide +kernel
theorem dX12_town_95 : decode cX12_town 95 = .ok (.iconst 0, 1) := by decide +kernel
theorem dX12_town_96 : decode cX12_town 96 = .ok (.istore_n 1, 1) := by decide +kernel
theorem dX12_town_97 : decode cX12_town 97 = .ok (.iload_n 1, 1) := by decide +kernel
theorem dX12_town_98 : decode cX12_town 98 = .ok (.iconst 4, 1) := by decide +kernel
theorem dX12_town_99 : decode cX12_town 99 = .ok (.if_icmp .ge 16, 3) := by decide +kernel
theorem dX12_town_102 : decode cX12_town 102 = .ok (.aload_n 0, 1) := by decide +kernel
theorem dX12_town_103 : decode cX12_town 103 = .ok (.getfield 120, 3) := by decide +kernel
theorem dX12_town_106 : decode cX12_town 106 = .ok (.iload_n 1, 1) := by decide +kernel
theorem dX12_town_107 : decode cX12_town 107 = .ok (.iconst 0, 1) := by decide +kernel
theorem dX12_town_108 : decode cX12_town 108 = .ok (.bastore, 1) := by decide +kernel
theorem dX12_town_109 : decode cX12_town 109 = .ok (.iinc 1 1, 3) := by decide +kernel
theorem dX12_town_112 : decode cX12_town 112 = .ok (.goto (-15), 3) := by decide +kernel
theorem dX12_town_115 : decode cX12_town 115 = .ok (.iconst 0, 1) := by decide +kernel
theorem dX12_town_116 : decode cX12_town 116 = .ok (.ireturn, 1) := by decide +kernel
theorem dX12_readLine_0 : decode cX12_readLine 0 = .ok (.aload_n 0, 1) := by decide +kernel
theorem dX12_readLine_1 : decode cX12_readLine 1 = .ok (.iconst 0, 1) := by decide +kernel
theorem dX12_readLine_2 : decode cX12_readLine 2 = .ok (.invokevirtual 159, 3) := by decide +kernel
theorem dX12_readLine_5 : decode cX12_readLine 5 = .ok (.ifCond .eq 10, 3) := by decide +kernel
theorem dX12_readLine_8 : decode cX12_readLine 8 = .ok (.aload_n 0, 1) := by decide +kernel
theorem dX12_readLine_9 : decode cX12_readLine 9 = .ok (.invokevirtual 185, 3) := by decide +kernel
theorem dX12_readLine_12 : decode cX12_readLine 12 = .ok (.goto 86, 3) := by decide +kernel
theorem dX12_readLine_15 : decode cX12_readLine 15 = .ok (.aload_n 0, 1) := by decide +kernel
theorem dX12_readLine_16 : decode cX12_readLine 16 = .ok (.iconst 1, 1) := by decide +kernel
theorem dX12_readLine_17 : decode cX12_readLine 17 = .ok (.invokevirtual 159, 3) := by decide +kernel
theorem dX12_readLine_20 : decode cX12_readLine 20 = .ok (.ifCond .eq 10, 3) := by decide +kernel
theorem dX12_readLine_23 : decode cX12_readLine 23 = .ok (.aload_n 0, 1) := by decide +kernel
theorem dX12_readLine_24 : decode cX12_readLine 24 = .ok (.invokevirtual 188, 3) := by decide +kernel
theorem dX12_readLine_27 : decode cX12_readLine 27 = .ok (.goto 71, 3) := by decide +kernel
theorem dX12_readLine_30 : decode cX12_readLine 30 = .ok (.aload_n 0, 1) := by decide +kernel
theorem dX12_readLine_31 : decode cX12_readLine 31 = .ok (.iconst 5, 1) := by decide +kernel
theorem dX12_readLine_32 : decode cX12_readLine 32 = .ok (.invokevirtual 159, 3) := by decide +kernel
theorem dX12_readLine_35 : decode cX12_readLine 35 = .ok (.ifCond .eq 10, 3) := by decide +kernel
theorem dX12_readLine_38 : decode cX12_readLine 38 = .ok (.aload_n 0, 1) := by decide +kernel
theorem dX12_readLine_39 : decode cX12_readLine 39 = .ok (.invokevirtual 191, 3) := by decide +kernel
theorem dX12_readLine_42 : decode cX12_readLine 42 = .ok (.goto 56, 3) := by decide +kernel
theorem dX12_readLine_45 : decode cX12_readLine 45 = .ok (.aload_n 0, 1) := by decide +kernel
theorem dX12_readLine_46 : decode cX12_readLine 46 = .ok (.bipush 7, 2) := by decide +kernel
theorem dX12_readLine_48 : decode cX12_readLine 48 = .ok (.invokevirtual 159, 3) := by decide +kernel
theorem dX12_readLine_51 : decode cX12_readLine 51 = .ok (.ifCond .eq 10, 3) := by decide +kernel
theorem dX12_readLine_54 : decode cX12_readLine 54 = .ok (.aload_n 0, 1) := by decide +kernel
theorem dX12_readLine_55 : decode cX12_readLine 55 = .ok (.invokevirtual 194, 3) := by decide +kernel
theorem dX12_readLine_58 : decode cX12_readLine 58 = .ok (.goto 40, 3) := by decide +kernel
theorem dX12_readLine_61 : decode cX12_readLine 61 = .ok (.aload_n 0, 1) := by decide +kernel
theorem dX12_readLine_62 : decode cX12_readLine 62 = .ok (.bipush 10, 2) := by decide +kernel
theorem dX12_readLine_64 : decode cX12_readLine 64 = .ok (.invokevirtual 159, 3) := by decide +kernel
theorem dX12_readLine_67 : decode cX12_readLine 67 = .ok (.ifCond .eq 10, 3) := by decide +kernel
theorem dX12_readLine_70 : decode cX12_readLine 70 = .ok (.aload_n 0, 1) := by decide +kernel
theorem dX12_readLine_71 : decode cX12_readLine 71 = .ok (.invokevirtual 197, 3) := by decide +kernel
theorem dX12_readLine_74 : decode cX12_readLine 74 = .ok (.goto 24, 3) := by decide +kernel
theorem dX12_readLine_77 : decode cX12_readLine 77 = .ok (.aload_n 0, 1) := by decide +kernel
theorem dX12_readLine_78 : decode cX12_readLine 78 = .ok (.bipush 12, 2) := by decide +kernel
theorem dX12_readLine_80 : decode cX12_readLine 80 = .ok (.invokevirtual 159, 3) := by decide +kernel
theorem dX12_readLine_83 : decode cX12_readLine 83 = .ok (.ifCond .eq 10, 3) := by decide +kernel
theorem dX12_readLine_86 : decode cX12_readLine 86 = .ok (.aload_n 0, 1) := by decide +kernel
theorem dX12_readLine_87 : decode cX12_readLine 87 = .ok (.invokevirtual 200, 3) := by decide +kernel
theorem dX12_readLine_90 : decode cX12_readLine 90 = .ok (.goto 8, 3) := by decide +kernel
theorem dX12_readLine_93 : decode cX12_readLine 93 = .ok (.aload_n 0, 1) := by decide +kernel
theorem dX12_readLine_94 : decode cX12_readLine 94 = .ok (.iconst 1, 1) := by decide +kernel
theorem dX12_readLine_95 : decode cX12_readLine 95 = .ok (.invokevirtual 155, 3) := by decide +kernel
theorem dX12_readLine_98 : decode cX12_readLine 98 = .ok (.return_, 1) := by decide +kernel
theorem dX12_readLeap_0 : decode cX12_readLeap 0 = .ok (.aload_n 0, 1) := by decide +kernel
theorem dX12_readLeap_1 : decode cX12_readLeap 1 = .ok (.getfield 171, 3) := by decide +kernel
theorem dX12_readLeap_4 : decode cX12_readLeap 4 = .ok (.ifCond .eq 9, 3) := by decide +kernel
theorem dX12_readLeap_7 : decode cX12_readLeap 7 = .ok (.aload_n 0, 1) := by decide +kernel
theorem dX12_readLeap_8 : decode cX12_readLeap 8 = .ok (.iconst 3, 1) := by decide +kernel
theorem dX12_readLeap_9 : decode cX12_readLeap 9 = .ok (.invokevirtual 155, 3) := by decide +kernel
theorem dX12_readLeap_12 : decode cX12_readLeap 12 = .ok (.return_, 1) := by decide +kernel
theorem dX12_readLeap_13 : decode cX12_readLeap 13 = .ok (.aload_n 0, 1) := by decide +kernel
theorem dX12_readLeap_14 : decode cX12_readLeap 14 = .ok (.iconst 1, 1) := by decide +kernel
theorem dX12_readLeap_15 : decode cX12_readLeap 15 = .ok (.putfield 171, 3) := by decide +kernel
theorem dX12_readLeap_18 : decode cX12_readLeap 18 = .ok (.aload_n 0, 1) := by decide +kernel
theorem dX12_readLeap_19 : decode cX12_readLeap 19 = .ok (.dup, 1) := by decide +kernel
theorem dX12_readLeap_20 : decode cX12_readLeap 20 = .ok (.getfield 146, 3) := by decide +kernel
theorem dX12_readLeap_23 : decode cX12_readLeap 23 = .ok (.iconst 1, 1) := by decide +kernel
theorem dX12_readLeap_24 : decode cX12_readLeap 24 = .ok (.iadd, 1) := by decide +kernel
theorem dX12_readLeap_25 : decode cX12_readLeap 25 = .ok (.putfield 146, 3) := by decide +kernel
theorem dX12_readLeap_28 : decode cX12_readLeap 28 = .ok (.aload_n 0, 1) := by decide +kernel
theorem dX12_readLeap_29 : decode cX12_readLeap 29 = .ok (.getfield 65, 3) := by decide +kernel
theorem dX12_readLeap_32 : decode cX12_readLeap 32 = .ok (.sipush 170, 3) := by decide +kernel
theorem dX12_readLeap_35 : decode cX12_readLeap 35 = .ok (.aload_n 0, 1) := by decide +kernel
theorem dX12_readLeap_36 : decode cX12_readLeap 36 = .ok (.iconst 0, 1) := by decide +kernel
theorem dX12_readLeap_37 : decode cX12_readLeap 37 = .ok (.iconst 3, 1) := by decide +kernel
theorem dX12_readLeap_38 : decode cX12_readLeap 38 = .ok (.invokevirtual 203, 3) := by decide +kernel
theorem dX12_readLeap_41 : decode cX12_readLeap 41 = .ok (.iastore, 1) := by decide +kernel
theorem dX12_readLeap_42 : decode cX12_readLeap 42 = .ok (.return_, 1) := by decide +kernel
theorem dX12_readLaw_0 : decode cX12_readLaw 0 = .ok (.aload_n 0, 1) := by decide +kernel
theorem dX12_readLaw_1 : decode cX12_readLaw 1 = .ok (.getfield 65, 3) := by decide +kernel
theorem dX12_readLaw_4 : decode cX12_readLaw 4 = .ok (.sipush 171, 3) := by decide +kernel
theorem dX12_readLaw_7 : decode cX12_readLaw 7 = .ok (.iaload, 1) := by decide +kernel
theorem dX12_readLaw_8 : decode cX12_readLaw 8 = .ok (.iconst 1, 1) := by decide +kernel
theorem dX12_readLaw_9 : decode cX12_readLaw 9 = .ok (.if_icmp .ne 9, 3) := by decide +kernel
theorem dX12_readLaw_12 : decode cX12_readLaw 12 = .ok (.aload_n 0, 1) := by decide +kernel
theorem dX12_readLaw_13 : decode cX12_readLaw 13 = .ok (.iconst 3, 1) := by decide +kernel
theorem dX12_readLaw_14 : decode cX12_readLaw 14 = .ok (.invokevirtual 155, 3) := by decide +kernel
theorem dX12_readLaw_17 : decode cX12_readLaw 17 = .ok (.return_, 1) := by decide +kernel
theorem dX12_readLaw_18 : decode cX12_readLaw 18 = .ok (.aload_n 0, 1) := by decide +kernel
theorem dX12_readLaw_19 : decode cX12_readLaw 19 = .ok (.dup, 1) := by decide +kernel
theorem dX12_readLaw_20 : decode cX12_readLaw 20 = .ok (.getfield 146, 3) := by decide +kernel
theorem dX12_readLaw_23 : decode cX12_readLaw 23 = .ok (.iconst 1, 1) := by decide +kernel
theorem dX12_readLaw_24 : decode cX12_readLaw 24 = .ok (.iadd, 1) := by decide +kernel
theorem dX12_readLaw_25 : decode cX12_readLaw 25 = .ok (.putfield 146, 3) := by decide +kernel
theorem dX12_readLaw_28 : decode cX12_readLaw 28 = .ok (.aload_n 0, 1) := by decide +kernel
theorem dX12_readLaw_29 : decode cX12_readLaw 29 = .ok (.bipush 13, 2) := by decide +kernel
theorem dX12_readLaw_31 : decode cX12_readLaw 31 = .ok (.invokevirtual 207, 3) := by decide +kernel
theorem dX12_readLaw_34 : decode cX12_readLaw 34 = .ok (.aload_n 0, 1) := by decide +kernel
theorem dX12_readLaw_35 : decode cX12_readLaw 35 = .ok (.getfield 65, 3) := by decide +kernel
theorem dX12_readLaw_38 : decode cX12_readLaw 38 = .ok (.sipush 171, 3) := by decide +kernel
theorem dX12_readLaw_41 : decode cX12_readLaw 41 = .ok (.iconst 1, 1) := by decide +kernel
theorem dX12_readLaw_42 : decode cX12_readLaw 42 = .ok (.iastore, 1) := by decide +kernel
theorem dX12_readLaw_43 : decode cX12_readLaw 43 = .ok (.return_, 1) := by decide +kernel
theorem dX12_readName_0 : decode cX12_readName 0 = .ok (.aload_n 0, 1) := by decide +kernel
theorem dX12_readName_1 : decode cX12_readName 1 = .ok (.invokevirtual 210, 3) := by decide +kernel
theorem dX12_readName_4 : decode cX12_readName 4 = .ok (.ifCond .ne 11, 3) := by decide +kernel
theorem dX12_readName_7 : decode cX12_readName 7 = .ok (.aload_n 0, 1) := by decide +kernel
theorem dX12_readName_8 : decode cX12_readName 8 = .ok (.iconst 1, 1) := by decide +kernel
theorem dX12_readName_9 : decode cX12_readName 9 = .ok (.invokevirtual 155, 3) := by decide +kernel
theorem dX12_readName_12 : decode cX12_readName 12 = .ok (.goto 15, 3) := by decide +kernel
theorem dX12_readName_15 : decode cX12_readName 15 = .ok (.aload_n 0, 1) := by decide +kernel
theorem dX12_readName_16 : decode cX12_readName 16 = .ok (.invokevirtual 214, 3) := by decide +kernel
theorem dX12_readName_19 : decode cX12_readName 19 = .ok (.ifCond .lt 8, 3) := by decide +kernel
theorem dX12_readName_22 : decode cX12_readName 22 = .ok (.aload_n 0, 1) := by decide +kernel
theorem dX12_readName_23 : decode cX12_readName 23 = .ok (.iconst 3, 1) := by decide +kernel
theorem dX12_readName_24 : decode cX12_readName 24 = .ok (.invokevirtual 155, 3) := by decide +kernel
theorem dX12_readName_27 : decode cX12_readName 27 = .ok (.aload_n 0, 1) := by decide +kernel
theorem dX12_readName_28 : decode cX12_readName 28 = .ok (.getfield 149, 3) := by decide +kernel
theorem dX12_readName_31 : decode cX12_readName 31 = .ok (.ifCond .ne 51, 3) := by decide +kernel
theorem dX12_readName_34 : decode cX12_readName 34 = .ok (.aload_n 0, 1) := by decide +kernel
theorem dX12_readName_35 : decode cX12_readName 35 = .ok (.getfield 68, 3) := by decide +kernel
theorem dX12_readName_38 : decode cX12_readName 38 = .ok (.aload_n 0, 1) := by decide +kernel
theorem dX12_readName_39 : decode cX12_readName 39 = .ok (.getfield 165, 3) := by decide +kernel
theorem dX12_readName_42 : decode cX12_readName 42 = .ok (.aload_n 0, 1) := by decide +kernel
theorem dX12_readName_43 : decode cX12_readName 43 = .ok (.getfield 30, 3) := by decide +kernel
theorem dX12_readName_46 : decode cX12_readName 46 = .ok (.aload_n 0, 1) := by decide +kernel
theorem dX12_readName_47 : decode cX12_readName 47 = .ok (.getfield 146, 3) := by decide +kernel
theorem dX12_readName_50 : decode cX12_readName 50 = .ok (.laload, 1) := by decide +kernel
theorem dX12_readName_51 : decode cX12_readName 51 = .ok (.lastore, 1) := by decide +kernel
theorem dX12_readName_52 : decode cX12_readName 52 = .ok (.aload_n 0, 1) := by decide +kernel
theorem dX12_readName_53 : decode cX12_readName 53 = .ok (.getfield 71, 3) := by decide +kernel
theorem dX12_readName_56 : decode cX12_readName 56 = .ok (.aload_n 0, 1) := by decide +kernel
theorem dX12_readName_57 : decode cX12_readName 57 = .ok (.getfield 165, 3) := by decide +kernel
theorem dX12_readName_60 : decode cX12_readName 60 = .ok (.iload_n 1, 1) := by decide +kernel
theorem dX12_readName_61 : decode cX12_readName 61 = .ok (.iastore, 1) := by decide +kernel
theorem dX12_readName_62 : decode cX12_readName 62 = .ok (.aload_n 0, 1) := by decide +kernel
theorem dX12_readName_63 : decode cX12_readName 63 = .ok (.dup, 1) := by decide +kernel
theorem dX12_readName_64 : decode cX12_readName 64 = .ok (.getfield 165, 3) := by decide +kernel
theorem dX12_readName_67 : decode cX12_readName 67 = .ok (.iconst 1, 1) := by decide +kernel
theorem dX12_readName_68 : decode cX12_readName 68 = .ok (.iadd, 1) := by decide +kernel
theorem dX12_readName_69 : decode cX12_readName 69 = .ok (.putfield 165, 3) := by decide +kernel
theorem dX12_readName_72 : decode cX12_readName 72 = .ok (.aload_n 0, 1) := by decide +kernel
theorem dX12_readName_73 : decode cX12_readName 73 = .ok (.dup, 1) := by decide +kernel
theorem dX12_readName_74 : decode cX12_readName 74 = .ok (.getfield 146, 3) := by decide +kernel
theorem dX12_readName_77 : decode cX12_readName 77 = .ok (.iconst 1, 1) := by decide +kernel
theorem dX12_readName_78 : decode cX12_readName 78 = .ok (.iadd, 1) := by decide +kernel
theorem dX12_readName_79 : decode cX12_readName 79 = .ok (.putfield 146, 3) := by decide +kernel
theorem dX12_readName_82 : decode cX12_readName 82 = .ok (.return_, 1) := by decide +kernel
theorem dX12_personHere_0 : decode cX12_personHere 0 = .ok (.aload_n 0, 1) := by decide +kernel
theorem dX12_personHere_1 : decode cX12_personHere 1 = .ok (.invokevirtual 210, 3) := by decide +kernel
theorem dX12_personHere_4 : decode cX12_personHere 4 = .ok (.ifCond .ne 10, 3) := by decide +kernel
theorem dX12_personHere_7 : decode cX12_personHere 7 = .ok (.aload_n 0, 1) := by decide +kernel
theorem dX12_personHere_8 : decode cX12_personHere 8 = .ok (.iconst 1, 1) := by decide +kernel
theorem dX12_personHere_9 : decode cX12_personHere 9 = .ok (.invokevirtual 155, 3) := by decide +kernel
theorem dX12_personHere_12 : decode cX12_personHere 12 = .ok (.iconst (-1), 1) := by decide +kernel
theorem dX12_personHere_13 : decode cX12_personHere 13 = .ok (.ireturn, 1) := by decide +kernel
theorem dX12_personHere_14 : decode cX12_personHere 14 = .ok (.aload_n 0, 1) := by decide +kernel
theorem dX12_personHere_15 : decode cX12_personHere 15 = .ok (.invokevirtual 214, 3) := by decide +kernel
theorem dX12_personHere_18 : decode cX12_personHere 18 = .ok (.istore_n 1, 1) := by decide +kernel
theorem dX12_personHere_19 : decode cX12_personHere 19 = .ok (.iload_n 1, 1) := by decide +kernel
theorem dX12_personHere_20 : decode cX12_personHere 20 = .ok (.ifCond .lt 9, 3) := by decide +kernel
theorem dX12_personHere_23 : decode cX12_personHere 23 = .ok (.iload_n 1, 1) := by decide +kernel
theorem dX12_personHere_24 : decode cX12_personHere 24 = .ok (.bipush 12, 2) := by decide +kernel
theorem dX12_personHere_26 : decode cX12_personHere 26 = .ok (.if_icmp .lt 10, 3) := by decide +kernel
theorem dX12_personHere_29 : decode cX12_personHere 29 = .ok (.aload_n 0, 1) := by decide +kernel
theorem dX12_personHere_30 : decode cX12_personHere 30 = .ok (.iconst 2, 1) := by decide +kernel
theorem dX12_personHere_31 : decode cX12_personHere 31 = .ok (.invokevirtual 155, 3) := by decide +kernel
theorem dX12_personHere_34 : decode cX12_personHere 34 = .ok (.iconst (-1), 1) := by decide +kernel
theorem dX12_personHere_35 : decode cX12_personHere 35 = .ok (.ireturn, 1) := by decide +kernel
theorem dX12_personHere_36 : decode cX12_personHere 36 = .ok (.iload_n 1, 1) := by decide +kernel
theorem dX12_personHere_37 : decode cX12_personHere 37 = .ok (.ireturn, 1) := by decide +kernel
theorem dX12_takePerson_0 : decode cX12_takePerson 0 = .ok (.aload_n 0, 1) := by decide +kernel
theorem dX12_takePerson_1 : decode cX12_takePerson 1 = .ok (.getfield 149, 3) := by decide +kernel
theorem dX12_takePerson_4 : decode cX12_takePerson 4 = .ok (.ifCond .le 7, 3) := by decide +kernel
theorem dX12_takePerson_7 : decode cX12_takePerson 7 = .ok (.iconst (-1), 1) := by decide +kernel
theorem dX12_takePerson_8 : decode cX12_takePerson 8 = .ok (.goto 7, 3) := by decide +kernel
theorem dX12_takePerson_11 : decode cX12_takePerson 11 = .ok (.aload_n 0, 1) := by decide +kernel
theorem dX12_takePerson_12 : decode cX12_takePerson 12 = .ok (.invokevirtual 218, 3) := by decide +kernel
theorem dX12_takePerson_15 : decode cX12_takePerson 15 = .ok (.istore_n 1, 1) := by decide +kernel
theorem dX12_takePerson_16 : decode cX12_takePerson 16 = .ok (.aload_n 0, 1) := by decide +kernel
theorem dX12_takePerson_17 : decode cX12_takePerson 17 = .ok (.dup, 1) := by decide +kernel
theorem dX12_takePerson_18 : decode cX12_takePerson 18 = .ok (.getfield 146, 3) := by decide +kernel
theorem dX12_takePerson_21 : decode cX12_takePerson 21 = .ok (.iload_n 1, 1) := by decide +kernel
theorem dX12_takePerson_22 : decode cX12_takePerson 22 = .ok (.ifCond .ge 7, 3) := by decide +kernel
theorem dX12_takePerson_25 : decode cX12_takePerson 25 = .ok (.iconst 0, 1) := by decide +kernel
theorem dX12_takePerson_26 : decode cX12_takePerson 26 = .ok (.goto 4, 3) := by decide +kernel
theorem dX12_takePerson_29 : decode cX12_takePerson 29 = .ok (.iconst 1, 1) := by decide +kernel
theorem dX12_takePerson_30 : decode cX12_takePerson 30 = .ok (.iadd, 1) := by decide +kernel
theorem dX12_takePerson_31 : decode cX12_takePerson 31 = .ok (.putfield 146, 3) := by decide +kernel
theorem dX12_takePerson_34 : decode cX12_takePerson 34 = .ok (.iload_n 1, 1) := by decide +kernel
theorem dX12_takePerson_35 : decode cX12_takePerson 35 = .ok (.ireturn, 1) := by decide +kernel
theorem dX12_readPerson_0 : decode cX12_readPerson 0 = .ok (.aload_n 0, 1) := by decide +kernel
theorem dX12_readPerson_1 : decode cX12_readPerson 1 = .ok (.getfield 65, 3) := by decide +kernel
theorem dX12_readPerson_4 : decode cX12_readPerson 4 = .ok (.sipush 172, 3) := by decide +kernel
theorem dX12_readPerson_7 : decode cX12_readPerson 7 = .ok (.iaload, 1) := by decide +kernel
theorem dX12_readPerson_8 : decode cX12_readPerson 8 = .ok (.istore_n 1, 1) := by decide +kernel
theorem dX12_readPerson_9 : decode cX12_readPerson 9 = .ok (.iload_n 1, 1) := by decide +kernel
theorem dX12_readPerson_10 : decode cX12_readPerson 10 = .ok (.bipush 12, 2) := by decide +kernel
theorem dX12_readPerson_12 : decode cX12_readPerson 12 = .ok (.if_icmp .ne 9, 3) := by decide +kernel
theorem dX12_readPerson_15 : decode cX12_readPerson 15 = .ok (.aload_n 0, 1) := by decide +kernel
theorem dX12_readPerson_16 : decode cX12_readPerson 16 = .ok (.iconst 5, 1) := by decide +kernel
theorem dX12_readPerson_17 : decode cX12_readPerson 17 = .ok (.invokevirtual 155, 3) := by decide +kernel
theorem dX12_readPerson_20 : decode cX12_readPerson 20 = .ok (.return_, 1) := by decide +kernel
theorem dX12_readPerson_21 : decode cX12_readPerson 21 = .ok (.aload_n 0, 1) := by decide +kernel
theorem dX12_readPerson_22 : decode cX12_readPerson 22 = .ok (.dup, 1) := by decide +kernel
theorem dX12_readPerson_23 : decode cX12_readPerson 23 = .ok (.getfield 146, 3) := by decide +kernel
theorem dX12_readPerson_26 : decode cX12_readPerson 26 = .ok (.iconst 1, 1) := by decide +kernel
theorem dX12_readPerson_27 : decode cX12_readPerson 27 = .ok (.iadd, 1) := by decide +kernel
theorem dX12_readPerson_28 : decode cX12_readPerson 28 = .ok (.putfield 146, 3) := by decide +kernel
theorem dX12_readPerson_31 : decode cX12_readPerson 31 = .ok (.aload_n 0, 1) := by decide +kernel
theorem dX12_readPerson_32 : decode cX12_readPerson 32 = .ok (.iload_n 1, 1) := by decide +kernel
theorem dX12_readPerson_33 : decode cX12_readPerson 33 = .ok (.invokevirtual 221, 3) := by decide +kernel
theorem dX12_readPerson_36 : decode cX12_readPerson 36 = .ok (.aload_n 0, 1) := by decide +kernel
theorem dX12_readPerson_37 : decode cX12_readPerson 37 = .ok (.iconst 2, 1) := by decide +kernel
theorem dX12_readPerson_38 : decode cX12_readPerson 38 = .ok (.invokevirtual 207, 3) := by decide +kernel
theorem dX12_readPerson_41 : decode cX12_readPerson 41 = .ok (.sipush 173, 3) := by decide +kernel
theorem dX12_readPerson_44 : decode cX12_readPerson 44 = .ok (.iconst 4, 1) := by decide +kernel
theorem dX12_readPerson_45 : decode cX12_readPerson 45 = .ok (.iload_n 1, 1) := by decide +kernel
theorem dX12_readPerson_46 : decode cX12_readPerson 46 = .ok (.imul, 1) := by decide +kernel
theorem dX12_readPerson_47 : decode cX12_readPerson 47 = .ok (.iadd, 1) := by decide +kernel
theorem dX12_readPerson_48 : decode cX12_readPerson 48 = .ok (.istore_n 2, 1) := by decide +kernel
theorem dX12_readPerson_49 : decode cX12_readPerson 49 = .ok (.aload_n 0, 1) := by decide +kernel
theorem dX12_readPerson_50 : decode cX12_readPerson 50 = .ok (.getfield 65, 3) := by decide +kernel
theorem dX12_readPerson_53 : decode cX12_readPerson 53 = .ok (.iload_n 2, 1) := by decide +kernel
theorem dX12_readPerson_54 : decode cX12_readPerson 54 = .ok (.aload_n 0, 1) := by decide +kernel
theorem dX12_readPerson_55 : decode cX12_readPerson 55 = .ok (.iconst 0, 1) := by decide +kernel
theorem dX12_readPerson_56 : decode cX12_readPerson 56 = .ok (.sipush 365, 3) := by decide +kernel
theorem dX12_readPerson_59 : decode cX12_readPerson 59 = .ok (.invokevirtual 203, 3) := by decide +kernel
theorem dX12_readPerson_62 : decode cX12_readPerson 62 = .ok (.iastore, 1) := by decide +kernel
theorem dX12_readPerson_63 : decode cX12_readPerson 63 = .ok (.iconst 0, 1) := by decide +kernel
theorem dX12_readPerson_64 : decode cX12_readPerson 64 = .ok (.istore_n 3, 1) := by decide +kernel
theorem dX12_readPerson_65 : decode cX12_readPerson 65 = .ok (.iconst 0, 1) := by decide +kernel
theorem dX12_readPerson_66 : decode cX12_readPerson 66 = .ok (.istore 4, 2) := by decide +kernel
theorem dX12_readPerson_68 : decode cX12_readPerson 68 = .ok (.aload_n 0, 1) := by decide +kernel
theorem dX12_readPerson_69 : decode cX12_readPerson 69 = .ok (.iconst 3, 1) := by decide +kernel
theorem dX12_readPerson_70 : decode cX12_readPerson 70 = .ok (.invokevirtual 159, 3) := by decide +kernel
theorem dX12_readPerson_73 : decode cX12_readPerson 73 = .ok (.ifCond .ne 11, 3) := by decide +kernel
theorem dX12_readPerson_76 : decode cX12_readPerson 76 = .ok (.aload_n 0, 1) := by decide +kernel
theorem dX12_readPerson_77 : decode cX12_readPerson 77 = .ok (.iconst 4, 1) := by decide +kernel
theorem dX12_readPerson_78 : decode cX12_readPerson 78 = .ok (.invokevirtual 159, 3) := by decide +kernel
theorem dX12_readPerson_81 : decode cX12_readPerson 81 = .ok (.ifCond .eq 119, 3) := by decide +kernel
theorem dX12_readPerson_84 : decode cX12_readPerson 84 = .ok (.aload_n 0, 1) := by decide +kernel
theorem dX12_readPerson_85 : decode cX12_readPerson 85 = .ok (.iconst 3, 1) := by decide +kernel
theorem dX12_readPerson_86 : decode cX12_readPerson 86 = .ok (.invokevirtual 159, 3) := by decide +kernel
theorem dX12_readPerson_89 : decode cX12_readPerson 89 = .ok (.istore 5, 2) := by decide +kernel
theorem dX12_readPerson_91 : decode cX12_readPerson 91 = .ok (.iload 5, 2) := by decide +kernel
theorem dX12_readPerson_93 : decode cX12_readPerson 93 = .ok (.ifCond .eq 10, 3) := by decide +kernel
theorem dX12_readPerson_96 : decode cX12_readPerson 96 = .ok (.iload_n 3, 1) := by decide +kernel
theorem dX12_readPerson_97 : decode cX12_readPerson 97 = .ok (.ifCond .eq 17, 3) := by decide +kernel
theorem dX12_readPerson_100 : decode cX12_readPerson 100 = .ok (.goto 8, 3) := by decide +kernel
theorem dX12_readPerson_103 : decode cX12_readPerson 103 = .ok (.iload 4, 2) := by decide +kernel
theorem dX12_readPerson_105 : decode cX12_readPerson 105 = .ok (.ifCond .eq 9, 3) := by decide +kernel
theorem dX12_readPerson_108 : decode cX12_readPerson 108 = .ok (.aload_n 0, 1) := by decide +kernel
theorem dX12_readPerson_109 : decode cX12_readPerson 109 = .ok (.iconst 3, 1) := by decide +kernel
theorem dX12_readPerson_110 : decode cX12_readPerson 110 = .ok (.invokevirtual 155, 3) := by decide +kernel
theorem dX12_readPerson_113 : decode cX12_readPerson 113 = .ok (.return_, 1) := by decide +kernel
theorem dX12_readPerson_114 : decode cX12_readPerson 114 = .ok (.aload_n 0, 1) := by decide +kernel
theorem dX12_readPerson_115 : decode cX12_readPerson 115 = .ok (.dup, 1) := by decide +kernel
theorem dX12_readPerson_116 : decode cX12_readPerson 116 = .ok (.getfield 146, 3) := by decide +kernel
theorem dX12_readPerson_119 : decode cX12_readPerson 119 = .ok (.iconst 1, 1) := by decide +kernel
theorem dX12_readPerson_120 : decode cX12_readPerson 120 = .ok (.iadd, 1) := by decide +kernel
theorem dX12_readPerson_121 : decode cX12_readPerson 121 = .ok (.putfield 146, 3) := by decide +kernel
theorem dX12_readPerson_124 : decode cX12_readPerson 124 = .ok (.iload_n 3, 1) := by decide +kernel
theorem dX12_readPerson_125 : decode cX12_readPerson 125 = .ok (.ifCond .ne 8, 3) := by decide +kernel
theorem dX12_readPerson_128 : decode cX12_readPerson 128 = .ok (.iload 5, 2) := by decide +kernel
theorem dX12_readPerson_130 : decode cX12_readPerson 130 = .ok (.ifCond .eq 7, 3) := by decide +kernel
theorem dX12_readPerson_133 : decode cX12_readPerson 133 = .ok (.iconst 1, 1) := by decide +kernel
theorem dX12_readPerson_134 : decode cX12_readPerson 134 = .ok (.goto 4, 3) := by decide +kernel
theorem dX12_readPerson_137 : decode cX12_readPerson 137 = .ok (.iconst 0, 1) := by decide +kernel
theorem dX12_readPerson_138 : decode cX12_readPerson 138 = .ok (.istore_n 3, 1) := by decide +kernel
theorem dX12_readPerson_139 : decode cX12_readPerson 139 = .ok (.iload 4, 2) := by decide +kernel
theorem dX12_readPerson_141 : decode cX12_readPerson 141 = .ok (.ifCond .ne 8, 3) := by decide +kernel
theorem dX12_readPerson_144 : decode cX12_readPerson 144 = .ok (.iload 5, 2) := by decide +kernel
theorem dX12_readPerson_146 : decode cX12_readPerson 146 = .ok (.ifCond .ne 7, 3) := by decide +kernel
theorem dX12_readPerson_149 : decode cX12_readPerson 149 = .ok (.iconst 1, 1) := by decide +kernel
theorem dX12_readPerson_150 : decode cX12_readPerson 150 = .ok (.goto 4, 3) := by decide +kernel
theorem dX12_readPerson_153 : decode cX12_readPerson 153 = .ok (.iconst 0, 1) := by decide +kernel
theorem dX12_readPerson_154 : decode cX12_readPerson 154 = .ok (.istore 4, 2) := by decide +kernel
theorem dX12_readPerson_156 : decode cX12_readPerson 156 = .ok (.iload 5, 2) := by decide +kernel
theorem dX12_readPerson_158 : decode cX12_readPerson 158 = .ok (.ifCond .eq 24, 3) := by decide +kernel
theorem dX12_readPerson_161 : decode cX12_readPerson 161 = .ok (.aload_n 0, 1) := by decide +kernel
theorem dX12_readPerson_162 : decode cX12_readPerson 162 = .ok (.getfield 65, 3) := by decide +kernel
theorem dX12_readPerson_165 : decode cX12_readPerson 165 = .ok (.iload_n 2, 1) := by decide +kernel
theorem dX12_readPerson_166 : decode cX12_readPerson 166 = .ok (.iconst 1, 1) := by decide +kernel
theorem dX12_readPerson_167 : decode cX12_readPerson 167 = .ok (.iadd, 1) := by decide +kernel
theorem dX12_readPerson_168 : decode cX12_readPerson 168 = .ok (.iconst 1, 1) := by decide +kernel
theorem dX12_readPerson_169 : decode cX12_readPerson 169 = .ok (.aload_n 0, 1) := by decide +kernel
theorem dX12_readPerson_170 : decode cX12_readPerson 170 = .ok (.iconst 0, 1) := by decide +kernel
theorem dX12_readPerson_171 : decode cX12_readPerson 171 = .ok (.sipush 365, 3) := by decide +kernel
theorem dX12_readPerson_174 : decode cX12_readPerson 174 = .ok (.invokevirtual 203, 3) := by decide +kernel
theorem dX12_readPerson_177 : decode cX12_readPerson 177 = .ok (.iadd, 1) := by decide +kernel
theorem dX12_readPerson_178 : decode cX12_readPerson 178 = .ok (.iastore, 1) := by decide +kernel
theorem dX12_readPerson_179 : decode cX12_readPerson 179 = .ok (.goto 18, 3) := by decide +kernel
theorem dX12_readPerson_182 : decode cX12_readPerson 182 = .ok (.aload_n 0, 1) := by decide +kernel
theorem dX12_readPerson_183 : decode cX12_readPerson 183 = .ok (.getfield 65, 3) := by decide +kernel
theorem dX12_readPerson_186 : decode cX12_readPerson 186 = .ok (.iload_n 2, 1) := by decide +kernel
theorem dX12_readPerson_187 : decode cX12_readPerson 187 = .ok (.iconst 2, 1) := by decide +kernel
theorem dX12_readPerson_188 : decode cX12_readPerson 188 = .ok (.iadd, 1) := by decide +kernel
theorem dX12_readPerson_189 : decode cX12_readPerson 189 = .ok (.aload_n 0, 1) := by decide +kernel
theorem dX12_readPerson_190 : decode cX12_readPerson 190 = .ok (.iconst 0, 1) := by decide +kernel
theorem dX12_readPerson_191 : decode cX12_readPerson 191 = .ok (.bipush 99, 2) := by decide +kernel
theorem dX12_readPerson_193 : decode cX12_readPerson 193 = .ok (.invokevirtual 203, 3) := by decide +kernel
theorem dX12_readPerson_196 : decode cX12_readPerson 196 = .ok (.iastore, 1) := by decide +kernel
theorem dX12_readPerson_197 : decode cX12_readPerson 197 = .ok (.goto (-129), 3) := by decide +kernel
theorem dX12_readPerson_200 : decode cX12_readPerson 200 = .ok (.aload_n 0, 1) := by decide +kernel
theorem dX12_readPerson_201 : decode cX12_readPerson 201 = .ok (.getfield 65, 3) := by decide +kernel
theorem dX12_readPerson_204 : decode cX12_readPerson 204 = .ok (.sipush 172, 3) := by decide +kernel
theorem dX12_readPerson_207 : decode cX12_readPerson 207 = .ok (.dup2, 1) := by decide +kernel
theorem dX12_readPerson_208 : decode cX12_readPerson 208 = .ok (.iaload, 1) := by decide +kernel
theorem dX12_readPerson_209 : decode cX12_readPerson 209 = .ok (.iconst 1, 1) := by decide +kernel
theorem dX12_readPerson_210 : decode cX12_readPerson 210 = .ok (.iadd, 1) := by decide +kernel
theorem dX12_readPerson_211 : decode cX12_readPerson 211 = .ok (.iastore, 1) := by decide +kernel
theorem dX12_readPerson_212 : decode cX12_readPerson 212 = .ok (.return_, 1) := by decide +kernel
theorem dX12_readCalls_0 : decode cX12_readCalls 0 = .ok (.aload_n 0, 1) := by decide +kernel
theorem dX12_readCalls_1 : decode cX12_readCalls 1 = .ok (.dup, 1) := by decide +kernel
theorem dX12_readCalls_2 : decode cX12_readCalls 2 = .ok (.getfield 146, 3) := by decide +kernel
theorem dX12_readCalls_5 : decode cX12_readCalls 5 = .ok (.iconst 1, 1) := by decide +kernel
theorem dX12_readCalls_6 : decode cX12_readCalls 6 = .ok (.iadd, 1) := by decide +kernel
theorem dX12_readCalls_7 : decode cX12_readCalls 7 = .ok (.putfield 146, 3) := by decide +kernel
theorem dX12_readCalls_10 : decode cX12_readCalls 10 = .ok (.aload_n 0, 1) := by decide +kernel
theorem dX12_readCalls_11 : decode cX12_readCalls 11 = .ok (.invokevirtual 224, 3) := by decide +kernel
theorem dX12_readCalls_14 : decode cX12_readCalls 14 = .ok (.istore_n 1, 1) := by decide +kernel
theorem dX12_readCalls_15 : decode cX12_readCalls 15 = .ok (.aload_n 0, 1) := by decide +kernel
theorem dX12_readCalls_16 : decode cX12_readCalls 16 = .ok (.bipush 6, 2) := by decide +kernel
theorem dX12_readCalls_18 : decode cX12_readCalls 18 = .ok (.invokevirtual 207, 3) := by decide +kernel
theorem dX12_readCalls_21 : decode cX12_readCalls 21 = .ok (.aload_n 0, 1) := by decide +kernel
theorem dX12_readCalls_22 : decode cX12_readCalls 22 = .ok (.getfield 149, 3) := by decide +kernel
theorem dX12_readCalls_25 : decode cX12_readCalls 25 = .ok (.ifCond .ne 15, 3) := by decide +kernel
theorem dX12_readCalls_28 : decode cX12_readCalls 28 = .ok (.aload_n 0, 1) := by decide +kernel
theorem dX12_readCalls_29 : decode cX12_readCalls 29 = .ok (.invokevirtual 210, 3) := by decide +kernel
theorem dX12_readCalls_32 : decode cX12_readCalls 32 = .ok (.ifCond .ne 8, 3) := by decide +kernel
theorem dX12_readCalls_35 : decode cX12_readCalls 35 = .ok (.aload_n 0, 1) := by decide +kernel
theorem dX12_readCalls_36 : decode cX12_readCalls 36 = .ok (.iconst 1, 1) := by decide +kernel
theorem dX12_readCalls_37 : decode cX12_readCalls 37 = .ok (.invokevirtual 155, 3) := by decide +kernel
theorem dX12_readCalls_40 : decode cX12_readCalls 40 = .ok (.aload_n 0, 1) := by decide +kernel
theorem dX12_readCalls_41 : decode cX12_readCalls 41 = .ok (.invokevirtual 210, 3) := by decide +kernel
theorem dX12_readCalls_44 : decode cX12_readCalls 44 = .ok (.ifCond .eq 99, 3) := by decide +kernel
theorem dX12_readCalls_47 : decode cX12_readCalls 47 = .ok (.aload_n 0, 1) := by decide +kernel
theorem dX12_readCalls_48 : decode cX12_readCalls 48 = .ok (.invokevirtual 218, 3) := by decide +kernel
theorem dX12_readCalls_51 : decode cX12_readCalls 51 = .ok (.istore_n 2, 1) := by decide +kernel
theorem dX12_readCalls_52 : decode cX12_readCalls 52 = .ok (.aload_n 0, 1) := by decide +kernel
theorem dX12_readCalls_53 : decode cX12_readCalls 53 = .ok (.getfield 149, 3) := by decide +kernel
theorem dX12_readCalls_56 : decode cX12_readCalls 56 = .ok (.ifCond .ne 84, 3) := by decide +kernel
theorem dX12_readCalls_59 : decode cX12_readCalls 59 = .ok (.sipush 173, 3) := by decide +kernel
theorem dX12_readCalls_62 : decode cX12_readCalls 62 = .ok (.iconst 4, 1) := by decide +kernel
theorem dX12_readCalls_63 : decode cX12_readCalls 63 = .ok (.iload_n 2, 1) := by decide +kernel
theorem dX12_readCalls_64 : decode cX12_readCalls 64 = .ok (.imul, 1) := by decide +kernel
theorem dX12_readCalls_65 : decode cX12_readCalls 65 = .ok (.iadd, 1) := by decide +kernel
theorem dX12_readCalls_66 : decode cX12_readCalls 66 = .ok (.iconst 3, 1) := by decide +kernel
theorem dX12_readCalls_67 : decode cX12_readCalls 67 = .ok (.iadd, 1) := by decide +kernel
theorem dX12_readCalls_68 : decode cX12_readCalls 68 = .ok (.istore_n 3, 1) := by decide +kernel
theorem dX12_readCalls_69 : decode cX12_readCalls 69 = .ok (.iload_n 2, 1) := by decide +kernel
theorem dX12_readCalls_70 : decode cX12_readCalls 70 = .ok (.iload_n 1, 1) := by decide +kernel
theorem dX12_readCalls_71 : decode cX12_readCalls 71 = .ok (.if_icmp .eq 17, 3) := by decide +kernel
theorem dX12_readCalls_74 : decode cX12_readCalls 74 = .ok (.aload_n 0, 1) := by decide +kernel
theorem dX12_readCalls_75 : decode cX12_readCalls 75 = .ok (.getfield 65, 3) := by decide +kernel
theorem dX12_readCalls_78 : decode cX12_readCalls 78 = .ok (.iload_n 3, 1) := by decide +kernel
theorem dX12_readCalls_79 : decode cX12_readCalls 79 = .ok (.iaload, 1) := by decide +kernel
theorem dX12_readCalls_80 : decode cX12_readCalls 80 = .ok (.iload_n 1, 1) := by decide +kernel
theorem dX12_readCalls_81 : decode cX12_readCalls 81 = .ok (.ishr, 1) := by decide +kernel
theorem dX12_readCalls_82 : decode cX12_readCalls 82 = .ok (.iconst 1, 1) := by decide +kernel
theorem dX12_readCalls_83 : decode cX12_readCalls 83 = .ok (.iand, 1) := by decide +kernel
theorem dX12_readCalls_84 : decode cX12_readCalls 84 = .ok (.iconst 1, 1) := by decide +kernel
theorem dX12_readCalls_85 : decode cX12_readCalls 85 = .ok (.if_icmp .ne 11, 3) := by decide +kernel
theorem dX12_readCalls_88 : decode cX12_readCalls 88 = .ok (.aload_n 0, 1) := by decide +kernel
theorem dX12_readCalls_89 : decode cX12_readCalls 89 = .ok (.iconst 3, 1) := by decide +kernel
theorem dX12_readCalls_90 : decode cX12_readCalls 90 = .ok (.invokevirtual 155, 3) := by decide +kernel
theorem dX12_readCalls_93 : decode cX12_readCalls 93 = .ok (.goto 47, 3) := by decide +kernel
theorem dX12_readCalls_96 : decode cX12_readCalls 96 = .ok (.aload_n 0, 1) := by decide +kernel
theorem dX12_readCalls_97 : decode cX12_readCalls 97 = .ok (.getfield 65, 3) := by decide +kernel
theorem dX12_readCalls_100 : decode cX12_readCalls 100 = .ok (.iload_n 3, 1) := by decide +kernel
theorem dX12_readCalls_101 : decode cX12_readCalls 101 = .ok (.iaload, 1) := by decide +kernel
theorem dX12_readCalls_102 : decode cX12_readCalls 102 = .ok (.invokestatic 227, 3) := by decide +kernel
theorem dX12_readCalls_105 : decode cX12_readCalls 105 = .ok (.bipush 6, 2) := by decide +kernel
theorem dX12_readCalls_107 : decode cX12_readCalls 107 = .ok (.if_icmp .ne 11, 3) := by decide +kernel
theorem dX12_readCalls_110 : decode cX12_readCalls 110 = .ok (.aload_n 0, 1) := by decide +kernel
theorem dX12_readCalls_111 : decode cX12_readCalls 111 = .ok (.iconst 5, 1) := by decide +kernel
theorem dX12_readCalls_112 : decode cX12_readCalls 112 = .ok (.invokevirtual 155, 3) := by decide +kernel
theorem dX12_readCalls_115 : decode cX12_readCalls 115 = .ok (.goto 25, 3) := by decide +kernel
theorem dX12_readCalls_118 : decode cX12_readCalls 118 = .ok (.aload_n 0, 1) := by decide +kernel
theorem dX12_readCalls_119 : decode cX12_readCalls 119 = .ok (.getfield 65, 3) := by decide +kernel
theorem dX12_readCalls_122 : decode cX12_readCalls 122 = .ok (.iload_n 3, 1) := by decide +kernel
theorem dX12_readCalls_123 : decode cX12_readCalls 123 = .ok (.dup2, 1) := by decide +kernel
theorem dX12_readCalls_124 : decode cX12_readCalls 124 = .ok (.iaload, 1) := by decide +kernel
theorem dX12_readCalls_125 : decode cX12_readCalls 125 = .ok (.iconst 1, 1) := by decide +kernel
theorem dX12_readCalls_126 : decode cX12_readCalls 126 = .ok (.iload_n 1, 1) := by decide +kernel
theorem dX12_readCalls_127 : decode cX12_readCalls 127 = .ok (.ishl, 1) := by decide +kernel
theorem dX12_readCalls_128 : decode cX12_readCalls 128 = .ok (.ior, 1) := by decide +kernel
theorem dX12_readCalls_129 : decode cX12_readCalls 129 = .ok (.iastore, 1) := by decide +kernel
theorem dX12_readCalls_130 : decode cX12_readCalls 130 = .ok (.aload_n 0, 1) := by decide +kernel
theorem dX12_readCalls_131 : decode cX12_readCalls 131 = .ok (.dup, 1) := by decide +kernel
theorem dX12_readCalls_132 : decode cX12_readCalls 132 = .ok (.getfield 146, 3) := by decide +kernel
theorem dX12_readCalls_135 : decode cX12_readCalls 135 = .ok (.iconst 1, 1) := by decide +kernel
theorem dX12_readCalls_136 : decode cX12_readCalls 136 = .ok (.iadd, 1) := by decide +kernel
theorem dX12_readCalls_137 : decode cX12_readCalls 137 = .ok (.putfield 146, 3) := by decide +kernel
theorem dX12_readCalls_140 : decode cX12_readCalls 140 = .ok (.goto (-100), 3) := by decide +kernel
theorem dX12_readCalls_143 : decode cX12_readCalls 143 = .ok (.return_, 1) := by decide +kernel
theorem dX12_bits_0 : decode cX12_bits 0 = .ok (.iconst 0, 1) := by decide +kernel
theorem dX12_bits_1 : decode cX12_bits 1 = .ok (.istore_n 1, 1) := by decide +kernel
theorem dX12_bits_2 : decode cX12_bits 2 = .ok (.iconst 0, 1) := by decide +kernel
theorem dX12_bits_3 : decode cX12_bits 3 = .ok (.istore_n 2, 1) := by decide +kernel
theorem dX12_bits_4 : decode cX12_bits 4 = .ok (.iload_n 2, 1) := by decide +kernel
theorem dX12_bits_5 : decode cX12_bits 5 = .ok (.bipush 12, 2) := by decide +kernel
theorem dX12_bits_7 : decode cX12_bits 7 = .ok (.if_icmp .ge 17, 3) := by decide +kernel
theorem dX12_bits_10 : decode cX12_bits 10 = .ok (.iload_n 1, 1) := by decide +kernel
theorem dX12_bits_11 : decode cX12_bits 11 = .ok (.iload_n 0, 1) := by decide +kernel
theorem dX12_bits_12 : decode cX12_bits 12 = .ok (.iload_n 2, 1) := by decide +kernel
theorem dX12_bits_13 : decode cX12_bits 13 = .ok (.ishr, 1) := by decide +kernel
theorem dX12_bits_14 : decode cX12_bits 14 = .ok (.iconst 1, 1) := by decide +kernel
theorem dX12_bits_15 : decode cX12_bits 15 = .ok (.iand, 1) := by decide +kernel
theorem dX12_bits_16 : decode cX12_bits 16 = .ok (.iadd, 1) := by decide +kernel
theorem dX12_bits_17 : decode cX12_bits 17 = .ok (.istore_n 1, 1) := by decide +kernel
theorem dX12_bits_18 : decode cX12_bits 18 = .ok (.iinc 2 1, 3) := by decide +kernel
theorem dX12_bits_21 : decode cX12_bits 21 = .ok (.goto (-17), 3) := by decide +kernel
theorem dX12_bits_24 : decode cX12_bits 24 = .ok (.iload_n 1, 1) := by decide +kernel
theorem dX12_bits_25 : decode cX12_bits 25 = .ok (.ireturn, 1) := by decide +kernel
theorem dX12_takeDate_0 : decode cX12_takeDate 0 = .ok (.aload_n 0, 1) := by decide +kernel
theorem dX12_takeDate_1 : decode cX12_takeDate 1 = .ok (.iconst 0, 1) := by decide +kernel
theorem dX12_takeDate_2 : decode cX12_takeDate 2 = .ok (.bipush 11, 2) := by decide +kernel
theorem dX12_takeDate_4 : decode cX12_takeDate 4 = .ok (.invokevirtual 203, 3) := by decide +kernel
theorem dX12_takeDate_7 : decode cX12_takeDate 7 = .ok (.istore_n 2, 1) := by decide +kernel
theorem dX12_takeDate_8 : decode cX12_takeDate 8 = .ok (.aload_n 0, 1) := by decide +kernel
theorem dX12_takeDate_9 : decode cX12_takeDate 9 = .ok (.getfield 149, 3) := by decide +kernel
theorem dX12_takeDate_12 : decode cX12_takeDate 12 = .ok (.ifCond .ne 59, 3) := by decide +kernel
theorem dX12_takeDate_15 : decode cX12_takeDate 15 = .ok (.aload_n 0, 1) := by decide +kernel
theorem dX12_takeDate_16 : decode cX12_takeDate 16 = .ok (.getfield 24, 3) := by decide +kernel
theorem dX12_takeDate_19 : decode cX12_takeDate 19 = .ok (.aload_n 0, 1) := by decide +kernel
theorem dX12_takeDate_20 : decode cX12_takeDate 20 = .ok (.getfield 146, 3) := by decide +kernel
theorem dX12_takeDate_23 : decode cX12_takeDate 23 = .ok (.iaload, 1) := by decide +kernel
theorem dX12_takeDate_24 : decode cX12_takeDate 24 = .ok (.iconst 2, 1) := by decide +kernel
theorem dX12_takeDate_25 : decode cX12_takeDate 25 = .ok (.if_icmp .ne 46, 3) := by decide +kernel
theorem dX12_takeDate_28 : decode cX12_takeDate 28 = .ok (.aload_n 0, 1) := by decide +kernel
theorem dX12_takeDate_29 : decode cX12_takeDate 29 = .ok (.getfield 30, 3) := by decide +kernel
theorem dX12_takeDate_32 : decode cX12_takeDate 32 = .ok (.aload_n 0, 1) := by decide +kernel
theorem dX12_takeDate_33 : decode cX12_takeDate 33 = .ok (.getfield 146, 3) := by decide +kernel
theorem dX12_takeDate_36 : decode cX12_takeDate 36 = .ok (.laload, 1) := by decide +kernel
theorem dX12_takeDate_37 : decode cX12_takeDate 37 = .ok (.ldc2_w 230, 3) := by decide +kernel
theorem dX12_takeDate_40 : decode cX12_takeDate 40 = .ok (.lcmp, 1) := by decide +kernel
theorem dX12_takeDate_41 : decode cX12_takeDate 41 = .ok (.ifCond .ge 30, 3) := by decide +kernel
theorem dX12_takeDate_44 : decode cX12_takeDate 44 = .ok (.sipush 366, 3) := by decide +kernel
theorem dX12_takeDate_47 : decode cX12_takeDate 47 = .ok (.iload_n 2, 1) := by decide +kernel
theorem dX12_takeDate_48 : decode cX12_takeDate 48 = .ok (.imul, 1) := by decide +kernel
theorem dX12_takeDate_49 : decode cX12_takeDate 49 = .ok (.i2l, 1) := by decide +kernel
theorem dX12_takeDate_50 : decode cX12_takeDate 50 = .ok (.aload_n 0, 1) := by decide +kernel
theorem dX12_takeDate_51 : decode cX12_takeDate 51 = .ok (.getfield 30, 3) := by decide +kernel
theorem dX12_takeDate_54 : decode cX12_takeDate 54 = .ok (.aload_n 0, 1) := by decide +kernel
theorem dX12_takeDate_55 : decode cX12_takeDate 55 = .ok (.getfield 146, 3) := by decide +kernel
theorem dX12_takeDate_58 : decode cX12_takeDate 58 = .ok (.laload, 1) := by decide +kernel
theorem dX12_takeDate_59 : decode cX12_takeDate 59 = .ok (.ladd, 1) := by decide +kernel
theorem dX12_takeDate_60 : decode cX12_takeDate 60 = .ok (.iload_n 1, 1) := by decide +kernel
theorem dX12_takeDate_61 : decode cX12_takeDate 61 = .ok (.i2l, 1) := by decide +kernel
theorem dX12_takeDate_62 : decode cX12_takeDate 62 = .ok (.lcmp, 1) := by decide +kernel
theorem dX12_takeDate_63 : decode cX12_takeDate 63 = .ok (.ifCond .ge 8, 3) := by decide +kernel
theorem dX12_takeDate_66 : decode cX12_takeDate 66 = .ok (.aload_n 0, 1) := by decide +kernel
theorem dX12_takeDate_67 : decode cX12_takeDate 67 = .ok (.iconst 4, 1) := by decide +kernel
theorem dX12_takeDate_68 : decode cX12_takeDate 68 = .ok (.invokevirtual 155, 3) := by decide +kernel
theorem dX12_takeDate_71 : decode cX12_takeDate 71 = .ok (.sipush 366, 3) := by decide +kernel
theorem dX12_takeDate_74 : decode cX12_takeDate 74 = .ok (.iload_n 2, 1) := by decide +kernel
theorem dX12_takeDate_75 : decode cX12_takeDate 75 = .ok (.imul, 1) := by decide +kernel
theorem dX12_takeDate_76 : decode cX12_takeDate 76 = .ok (.aload_n 0, 1) := by decide +kernel
theorem dX12_takeDate_77 : decode cX12_takeDate 77 = .ok (.iconst 0, 1) := by decide +kernel
theorem dX12_takeDate_78 : decode cX12_takeDate 78 = .ok (.sipush 365, 3) := by decide +kernel
theorem dX12_takeDate_81 : decode cX12_takeDate 81 = .ok (.invokevirtual 203, 3) := by decide +kernel
theorem dX12_takeDate_84 : decode cX12_takeDate 84 = .ok (.iadd, 1) := by decide +kernel
theorem dX12_takeDate_85 : decode cX12_takeDate 85 = .ok (.ireturn, 1) := by decide +kernel
theorem dX12_readAway_0 : decode cX12_readAway 0 = .ok (.aload_n 0, 1) := by decide +kernel
theorem dX12_readAway_1 : decode cX12_readAway 1 = .ok (.getfield 65, 3) := by decide +kernel
theorem dX12_readAway_4 : decode cX12_readAway 4 = .ok (.sipush 221, 3) := by decide +kernel
theorem dX12_readAway_7 : decode cX12_readAway 7 = .ok (.iaload, 1) := by decide +kernel
theorem dX12_readAway_8 : decode cX12_readAway 8 = .ok (.istore_n 1, 1) := by decide +kernel
theorem dX12_readAway_9 : decode cX12_readAway 9 = .ok (.iload_n 1, 1) := by decide +kernel
theorem dX12_readAway_10 : decode cX12_readAway 10 = .ok (.bipush 12, 2) := by decide +kernel
theorem dX12_readAway_12 : decode cX12_readAway 12 = .ok (.if_icmp .ne 9, 3) := by decide +kernel
theorem dX12_readAway_15 : decode cX12_readAway 15 = .ok (.aload_n 0, 1) := by decide +kernel
theorem dX12_readAway_16 : decode cX12_readAway 16 = .ok (.iconst 5, 1) := by decide +kernel
theorem dX12_readAway_17 : decode cX12_readAway 17 = .ok (.invokevirtual 155, 3) := by decide +kernel
theorem dX12_readAway_20 : decode cX12_readAway 20 = .ok (.return_, 1) := by decide +kernel
theorem dX12_readAway_21 : decode cX12_readAway 21 = .ok (.aload_n 0, 1) := by decide +kernel
theorem dX12_readAway_22 : decode cX12_readAway 22 = .ok (.dup, 1) := by decide +kernel
theorem dX12_readAway_23 : decode cX12_readAway 23 = .ok (.getfield 146, 3) := by decide +kernel
theorem dX12_readAway_26 : decode cX12_readAway 26 = .ok (.iconst 1, 1) := by decide +kernel
theorem dX12_readAway_27 : decode cX12_readAway 27 = .ok (.iadd, 1) := by decide +kernel
theorem dX12_readAway_28 : decode cX12_readAway 28 = .ok (.putfield 146, 3) := by decide +kernel
theorem dX12_readAway_31 : decode cX12_readAway 31 = .ok (.sipush 222, 3) := by decide +kernel
theorem dX12_readAway_34 : decode cX12_readAway 34 = .ok (.iconst 3, 1) := by decide +kernel
theorem dX12_readAway_35 : decode cX12_readAway 35 = .ok (.iload_n 1, 1) := by decide +kernel
theorem dX12_readAway_36 : decode cX12_readAway 36 = .ok (.imul, 1) := by decide +kernel
theorem dX12_readAway_37 : decode cX12_readAway 37 = .ok (.iadd, 1) := by decide +kernel
theorem dX12_readAway_38 : decode cX12_readAway 38 = .ok (.istore_n 2, 1) := by decide +kernel
theorem dX12_readAway_39 : decode cX12_readAway 39 = .ok (.aload_n 0, 1) := by decide +kernel
theorem dX12_readAway_40 : decode cX12_readAway 40 = .ok (.getfield 65, 3) := by decide +kernel
theorem dX12_readAway_43 : decode cX12_readAway 43 = .ok (.iload_n 2, 1) := by decide +kernel
theorem dX12_readAway_44 : decode cX12_readAway 44 = .ok (.aload_n 0, 1) := by decide +kernel
theorem dX12_readAway_45 : decode cX12_readAway 45 = .ok (.invokevirtual 224, 3) := by decide +kernel
theorem dX12_readAway_48 : decode cX12_readAway 48 = .ok (.iastore, 1) := by decide +kernel
theorem dX12_readAway_49 : decode cX12_readAway 49 = .ok (.aload_n 0, 1) := by decide +kernel
theorem dX12_readAway_50 : decode cX12_readAway 50 = .ok (.bipush 8, 2) := by decide +kernel
theorem dX12_readAway_52 : decode cX12_readAway 52 = .ok (.invokevirtual 207, 3) := by decide +kernel
theorem dX12_readAway_55 : decode cX12_readAway 55 = .ok (.aload_n 0, 1) := by decide +kernel
theorem dX12_readAway_56 : decode cX12_readAway 56 = .ok (.getfield 65, 3) := by decide +kernel
theorem dX12_readAway_59 : decode cX12_readAway 59 = .ok (.iload_n 2, 1) := by decide +kernel
theorem dX12_readAway_60 : decode cX12_readAway 60 = .ok (.iconst 1, 1) := by decide +kernel
theorem dX12_readAway_61 : decode cX12_readAway 61 = .ok (.iadd, 1) := by decide +kernel
theorem dX12_readAway_62 : decode cX12_readAway 62 = .ok (.aload_n 0, 1) := by decide +kernel
theorem dX12_readAway_63 : decode cX12_readAway 63 = .ok (.iconst 0, 1) := by decide +kernel
theorem dX12_readAway_64 : decode cX12_readAway 64 = .ok (.invokevirtual 232, 3) := by decide +kernel
theorem dX12_readAway_67 : decode cX12_readAway 67 = .ok (.iastore, 1) := by decide +kernel
theorem dX12_readAway_68 : decode cX12_readAway 68 = .ok (.aload_n 0, 1) := by decide +kernel
theorem dX12_readAway_69 : decode cX12_readAway 69 = .ok (.bipush 9, 2) := by decide +kernel
theorem dX12_readAway_71 : decode cX12_readAway 71 = .ok (.invokevirtual 207, 3) := by decide +kernel
theorem dX12_readAway_74 : decode cX12_readAway 74 = .ok (.aload_n 0, 1) := by decide +kernel
theorem dX12_readAway_75 : decode cX12_readAway 75 = .ok (.getfield 65, 3) := by decide +kernel
theorem dX12_readAway_78 : decode cX12_readAway 78 = .ok (.iload_n 2, 1) := by decide +kernel
theorem dX12_readAway_79 : decode cX12_readAway 79 = .ok (.iconst 2, 1) := by decide +kernel
theorem dX12_readAway_80 : decode cX12_readAway 80 = .ok (.iadd, 1) := by decide +kernel
theorem dX12_readAway_81 : decode cX12_readAway 81 = .ok (.aload_n 0, 1) := by decide +kernel
theorem dX12_readAway_82 : decode cX12_readAway 82 = .ok (.aload_n 0, 1) := by decide +kernel
theorem dX12_readAway_83 : decode cX12_readAway 83 = .ok (.getfield 65, 3) := by decide +kernel
theorem dX12_readAway_86 : decode cX12_readAway 86 = .ok (.iload_n 2, 1) := by decide +kernel
theorem dX12_readAway_87 : decode cX12_readAway 87 = .ok (.iconst 1, 1) := by decide +kernel
theorem dX12_readAway_88 : decode cX12_readAway 88 = .ok (.iadd, 1) := by decide +kernel
theorem dX12_readAway_89 : decode cX12_readAway 89 = .ok (.iaload, 1) := by decide +kernel
theorem dX12_readAway_90 : decode cX12_readAway 90 = .ok (.invokevirtual 232, 3) := by decide +kernel
theorem dX12_readAway_93 : decode cX12_readAway 93 = .ok (.iastore, 1) := by decide +kernel
theorem dX12_readAway_94 : decode cX12_readAway 94 = .ok (.aload_n 0, 1) := by decide +kernel
theorem dX12_readAway_95 : decode cX12_readAway 95 = .ok (.getfield 65, 3) := by decide +kernel
theorem dX12_readAway_98 : decode cX12_readAway 98 = .ok (.sipush 221, 3) := by decide +kernel
theorem dX12_readAway_101 : decode cX12_readAway 101 = .ok (.dup2, 1) := by decide +kernel
theorem dX12_readAway_102 : decode cX12_readAway 102 = .ok (.iaload, 1) := by decide +kernel
theorem dX12_readAway_103 : decode cX12_readAway 103 = .ok (.iconst 1, 1) := by decide +kernel
theorem dX12_readAway_104 : decode cX12_readAway 104 = .ok (.iadd, 1) := by decide +kernel
theorem dX12_readAway_105 : decode cX12_readAway 105 = .ok (.iastore, 1) := by decide +kernel
theorem dX12_readAway_106 : decode cX12_readAway 106 = .ok (.return_, 1) := by decide +kernel
theorem dX12_readSecret_0 : decode cX12_readSecret 0 = .ok (.aload_n 0, 1) := by decide +kernel
theorem dX12_readSecret_1 : decode cX12_readSecret 1 = .ok (.getfield 65, 3) := by decide +kernel
theorem dX12_readSecret_4 : decode cX12_readSecret 4 = .ok (.sipush 258, 3) := by decide +kernel
theorem dX12_readSecret_7 : decode cX12_readSecret 7 = .ok (.iaload, 1) := by decide +kernel
theorem dX12_readSecret_8 : decode cX12_readSecret 8 = .ok (.istore_n 1, 1) := by decide +kernel
theorem dX12_readSecret_9 : decode cX12_readSecret 9 = .ok (.iload_n 1, 1) := by decide +kernel
theorem dX12_readSecret_10 : decode cX12_readSecret 10 = .ok (.iconst 4, 1) := by decide +kernel
theorem dX12_readSecret_11 : decode cX12_readSecret 11 = .ok (.if_icmp .ne 9, 3) := by decide +kernel
theorem dX12_readSecret_14 : decode cX12_readSecret 14 = .ok (.aload_n 0, 1) := by decide +kernel
theorem dX12_readSecret_15 : decode cX12_readSecret 15 = .ok (.iconst 5, 1) := by decide +kernel
theorem dX12_readSecret_16 : decode cX12_readSecret 16 = .ok (.invokevirtual 155, 3) := by decide +kernel
theorem dX12_readSecret_19 : decode cX12_readSecret 19 = .ok (.return_, 1) := by decide +kernel
theorem dX12_readSecret_20 : decode cX12_readSecret 20 = .ok (.aload_n 0, 1) := by decide +kernel
theorem dX12_readSecret_21 : decode cX12_readSecret 21 = .ok (.dup, 1) := by decide +kernel
theorem dX12_readSecret_22 : decode cX12_readSecret 22 = .ok (.getfield 146, 3) := by decide +kernel
theorem dX12_readSecret_25 : decode cX12_readSecret 25 = .ok (.iconst 1, 1) := by decide +kernel
theorem dX12_readSecret_26 : decode cX12_readSecret 26 = .ok (.iadd, 1) := by decide +kernel
theorem dX12_readSecret_27 : decode cX12_readSecret 27 = .ok (.putfield 146, 3) := by decide +kernel
theorem dX12_readSecret_30 : decode cX12_readSecret 30 = .ok (.aload_n 0, 1) := by decide +kernel
theorem dX12_readSecret_31 : decode cX12_readSecret 31 = .ok (.bipush 12, 2) := by decide +kernel
theorem dX12_readSecret_33 : decode cX12_readSecret 33 = .ok (.iload_n 1, 1) := by decide +kernel
theorem dX12_readSecret_34 : decode cX12_readSecret 34 = .ok (.iadd, 1) := by decide +kernel
theorem dX12_readSecret_35 : decode cX12_readSecret 35 = .ok (.invokevirtual 221, 3) := by decide +kernel
theorem dX12_readSecret_38 : decode cX12_readSecret 38 = .ok (.aload_n 0, 1) := by decide +kernel
theorem dX12_readSecret_39 : decode cX12_readSecret 39 = .ok (.bipush 11, 2) := by decide +kernel
theorem dX12_readSecret_41 : decode cX12_readSecret 41 = .ok (.invokevirtual 207, 3) := by decide +kernel
theorem dX12_readSecret_44 : decode cX12_readSecret 44 = .ok (.sipush 259, 3) := by decide +kernel
theorem dX12_readSecret_47 : decode cX12_readSecret 47 = .ok (.iconst 2, 1) := by decide +kernel
theorem dX12_readSecret_48 : decode cX12_readSecret 48 = .ok (.iload_n 1, 1) := by decide +kernel
theorem dX12_readSecret_49 : decode cX12_readSecret 49 = .ok (.imul, 1) := by decide +kernel
theorem dX12_readSecret_50 : decode cX12_readSecret 50 = .ok (.iadd, 1) := by decide +kernel
theorem dX12_readSecret_51 : decode cX12_readSecret 51 = .ok (.istore_n 2, 1) := by decide +kernel
theorem dX12_readSecret_52 : decode cX12_readSecret 52 = .ok (.aload_n 0, 1) := by decide +kernel
theorem dX12_readSecret_53 : decode cX12_readSecret 53 = .ok (.getfield 65, 3) := by decide +kernel
theorem dX12_readSecret_56 : decode cX12_readSecret 56 = .ok (.iload_n 2, 1) := by decide +kernel
theorem dX12_readSecret_57 : decode cX12_readSecret 57 = .ok (.aload_n 0, 1) := by decide +kernel
theorem dX12_readSecret_58 : decode cX12_readSecret 58 = .ok (.invokevirtual 224, 3) := by decide +kernel
theorem dX12_readSecret_61 : decode cX12_readSecret 61 = .ok (.iastore, 1) := by decide +kernel
theorem dX12_readSecret_62 : decode cX12_readSecret 62 = .ok (.aload_n 0, 1) := by decide +kernel
theorem dX12_readSecret_63 : decode cX12_readSecret 63 = .ok (.bipush 8, 2) := by decide +kernel
theorem dX12_readSecret_65 : decode cX12_readSecret 65 = .ok (.invokevirtual 207, 3) := by decide +kernel
theorem dX12_readSecret_68 : decode cX12_readSecret 68 = .ok (.aload_n 0, 1) := by decide +kernel
theorem dX12_readSecret_69 : decode cX12_readSecret 69 = .ok (.getfield 65, 3) := by decide +kernel
theorem dX12_readSecret_72 : decode cX12_readSecret 72 = .ok (.iload_n 2, 1) := by decide +kernel
theorem dX12_readSecret_73 : decode cX12_readSecret 73 = .ok (.iconst 1, 1) := by decide +kernel
theorem dX12_readSecret_74 : decode cX12_readSecret 74 = .ok (.iadd, 1) := by decide +kernel
theorem dX12_readSecret_75 : decode cX12_readSecret 75 = .ok (.aload_n 0, 1) := by decide +kernel
theorem dX12_readSecret_76 : decode cX12_readSecret 76 = .ok (.iconst 0, 1) := by decide +kernel
theorem dX12_readSecret_77 : decode cX12_readSecret 77 = .ok (.invokevirtual 232, 3) := by decide +kernel
theorem dX12_readSecret_80 : decode cX12_readSecret 80 = .ok (.iastore, 1) := by decide +kernel
theorem dX12_readSecret_81 : decode cX12_readSecret 81 = .ok (.aload_n 0, 1) := by decide +kernel
theorem dX12_readSecret_82 : decode cX12_readSecret 82 = .ok (.getfield 65, 3) := by decide +kernel
theorem dX12_readSecret_85 : decode cX12_readSecret 85 = .ok (.sipush 258, 3) := by decide +kernel
theorem dX12_readSecret_88 : decode cX12_readSecret 88 = .ok (.dup2, 1) := by decide +kernel
theorem dX12_readSecret_89 : decode cX12_readSecret 89 = .ok (.iaload, 1) := by decide +kernel
theorem dX12_readSecret_90 : decode cX12_readSecret 90 = .ok (.iconst 1, 1) := by decide +kernel
theorem dX12_readSecret_91 : decode cX12_readSecret 91 = .ok (.iadd, 1) := by decide +kernel
theorem dX12_readSecret_92 : decode cX12_readSecret 92 = .ok (.iastore, 1) := by decide +kernel
theorem dX12_readSecret_93 : decode cX12_readSecret 93 = .ok (.return_, 1) := by decide +kernel
theorem dX12_people_0 : decode cX12_people 0 = .ok (.aload_n 0, 1) := by decide +kernel
theorem dX12_people_1 : decode cX12_people 1 = .ok (.getfield 65, 3) := by decide +kernel
theorem dX12_people_4 : decode cX12_people 4 = .ok (.iconst 2, 1) := by decide +kernel
theorem dX12_people_5 : decode cX12_people 5 = .ok (.iaload, 1) := by decide +kernel
theorem dX12_people_6 : decode cX12_people 6 = .ok (.ireturn, 1) := by decide +kernel
theorem dX12_secrets_0 : decode cX12_secrets 0 = .ok (.aload_n 0, 1) := by decide +kernel
theorem dX12_secrets_1 : decode cX12_secrets 1 = .ok (.getfield 65, 3) := by decide +kernel
theorem dX12_secrets_4 : decode cX12_secrets 4 = .ok (.bipush 88, 2) := by decide +kernel
theorem dX12_secrets_6 : decode cX12_secrets 6 = .ok (.iaload, 1) := by decide +kernel
theorem dX12_secrets_7 : decode cX12_secrets 7 = .ok (.ireturn, 1) := by decide +kernel
theorem dX12_isPerson_0 : decode cX12_isPerson 0 = .ok (.iload_n 1, 1) := by decide +kernel
theorem dX12_isPerson_1 : decode cX12_isPerson 1 = .ok (.ifCond .lt 15, 3) := by decide +kernel
theorem dX12_isPerson_4 : decode cX12_isPerson 4 = .ok (.iload_n 1, 1) := by decide +kernel
theorem dX12_isPerson_5 : decode cX12_isPerson 5 = .ok (.aload_n 0, 1) := by decide +kernel
theorem dX12_isPerson_6 : decode cX12_isPerson 6 = .ok (.invokevirtual 235, 3) := by decide +kernel
theorem dX12_isPerson_9 : decode cX12_isPerson 9 = .ok (.if_icmp .ge 7, 3) := by decide +kernel
theorem dX12_isPerson_12 : decode cX12_isPerson 12 = .ok (.iconst 1, 1) := by decide +kernel
theorem dX12_isPerson_13 : decode cX12_isPerson 13 = .ok (.goto 4, 3) := by decide +kernel
theorem dX12_isPerson_16 : decode cX12_isPerson 16 = .ok (.iconst 0, 1) := by decide +kernel
theorem dX12_isPerson_17 : decode cX12_isPerson 17 = .ok (.ireturn, 1) := by decide +kernel
theorem dX12_isSecret_0 : decode cX12_isSecret 0 = .ok (.iload_n 1, 1) := by decide +kernel
theorem dX12_isSecret_1 : decode cX12_isSecret 1 = .ok (.ifCond .lt 15, 3) := by decide +kernel
theorem dX12_isSecret_4 : decode cX12_isSecret 4 = .ok (.iload_n 1, 1) := by decide +kernel
theorem dX12_isSecret_5 : decode cX12_isSecret 5 = .ok (.aload_n 0, 1) := by decide +kernel
theorem dX12_isSecret_6 : decode cX12_isSecret 6 = .ok (.invokevirtual 238, 3) := by decide +kernel
theorem dX12_isSecret_9 : decode cX12_isSecret 9 = .ok (.if_icmp .ge 7, 3) := by decide +kernel
theorem dX12_isSecret_12 : decode cX12_isSecret 12 = .ok (.iconst 1, 1) := by decide +kernel
theorem dX12_isSecret_13 : decode cX12_isSecret 13 = .ok (.goto 4, 3) := by decide +kernel
theorem dX12_isSecret_16 : decode cX12_isSecret 16 = .ok (.iconst 0, 1) := by decide +kernel
theorem dX12_isSecret_17 : decode cX12_isSecret 17 = .ok (.ireturn, 1) := by decide +kernel
theorem dX12_isDate_0 : decode cX12_isDate 0 = .ok (.iload_n 0, 1) := by decide +kernel
theorem dX12_isDate_1 : decode cX12_isDate 1 = .ok (.ifCond .lt 14, 3) := by decide +kernel
theorem dX12_isDate_4 : decode cX12_isDate 4 = .ok (.iload_n 0, 1) := by decide +kernel
theorem dX12_isDate_5 : decode cX12_isDate 5 = .ok (.sipush 4392, 3) := by decide +kernel
theorem dX12_isDate_8 : decode cX12_isDate 8 = .ok (.if_icmp .ge 7, 3) := by decide +kernel
theorem dX12_isDate_11 : decode cX12_isDate 11 = .ok (.iconst 1, 1) := by decide +kernel
theorem dX12_isDate_12 : decode cX12_isDate 12 = .ok (.goto 4, 3) := by decide +kernel
theorem dX12_isDate_15 : decode cX12_isDate 15 = .ok (.iconst 0, 1) := by decide +kernel
theorem dX12_isDate_16 : decode cX12_isDate 16 = .ok (.ireturn, 1) := by decide +kernel
theorem dX12_isThere_0 : decode cX12_isThere 0 = .ok (.iload_n 1, 1) := by decide +kernel
theorem dX12_isThere_1 : decode cX12_isThere 1 = .ok (.invokestatic 241, 3) := by decide +kernel
theorem dX12_isThere_4 : decode cX12_isThere 4 = .ok (.ifCond .eq 33, 3) := by decide +kernel
theorem dX12_isThere_7 : decode cX12_isThere 7 = .ok (.iload_n 1, 1) := by decide +kernel
theorem dX12_isThere_8 : decode cX12_isThere 8 = .ok (.sipush 366, 3) := by decide +kernel
theorem dX12_isThere_11 : decode cX12_isThere 11 = .ok (.irem, 1) := by decide +kernel
theorem dX12_isThere_12 : decode cX12_isThere 12 = .ok (.bipush 59, 2) := by decide +kernel
theorem dX12_isThere_14 : decode cX12_isThere 14 = .ok (.if_icmp .ne 19, 3) := by decide +kernel
theorem dX12_isThere_17 : decode cX12_isThere 17 = .ok (.iload_n 1, 1) := by decide +kernel
theorem dX12_isThere_18 : decode cX12_isThere 18 = .ok (.sipush 366, 3) := by decide +kernel
theorem dX12_isThere_21 : decode cX12_isThere 21 = .ok (.idiv, 1) := by decide +kernel
theorem dX12_isThere_22 : decode cX12_isThere 22 = .ok (.iconst 4, 1) := by decide +kernel
theorem dX12_isThere_23 : decode cX12_isThere 23 = .ok (.irem, 1) := by decide +kernel
theorem dX12_isThere_24 : decode cX12_isThere 24 = .ok (.aload_n 0, 1) := by decide +kernel
theorem dX12_isThere_25 : decode cX12_isThere 25 = .ok (.getfield 65, 3) := by decide +kernel
theorem dX12_isThere_28 : decode cX12_isThere 28 = .ok (.iconst 0, 1) := by decide +kernel
theorem dX12_isThere_29 : decode cX12_isThere 29 = .ok (.iaload, 1) := by decide +kernel
theorem dX12_isThere_30 : decode cX12_isThere 30 = .ok (.if_icmp .ne 7, 3) := by decide +kernel
theorem dX12_isThere_33 : decode cX12_isThere 33 = .ok (.iconst 1, 1) := by decide +kernel
theorem dX12_isThere_34 : decode cX12_isThere 34 = .ok (.goto 4, 3) := by decide +kernel
theorem dX12_isThere_37 : decode cX12_isThere 37 = .ok (.iconst 0, 1) := by decide +kernel
theorem dX12_isThere_38 : decode cX12_isThere 38 = .ok (.ireturn, 1) := by decide +kernel
theorem dX12_bornOf_0 : decode cX12_bornOf 0 = .ok (.aload_n 0, 1) := by decide +kernel
theorem dX12_bornOf_1 : decode cX12_bornOf 1 = .ok (.getfield 65, 3) := by decide +kernel
theorem dX12_bornOf_4 : decode cX12_bornOf 4 = .ok (.iconst 3, 1) := by decide +kernel
theorem dX12_bornOf_5 : decode cX12_bornOf 5 = .ok (.iconst 4, 1) := by decide +kernel
theorem dX12_bornOf_6 : decode cX12_bornOf 6 = .ok (.iload_n 1, 1) := by decide +kernel
theorem dX12_bornOf_7 : decode cX12_bornOf 7 = .ok (.imul, 1) := by decide +kernel
theorem dX12_bornOf_8 : decode cX12_bornOf 8 = .ok (.iadd, 1) := by decide +kernel
theorem dX12_bornOf_9 : decode cX12_bornOf 9 = .ok (.iaload, 1) := by decide +kernel
theorem dX12_bornOf_10 : decode cX12_bornOf 10 = .ok (.ireturn, 1) := by decide +kernel
theorem dX12_callers_0 : decode cX12_callers 0 = .ok (.aload_n 0, 1) := by decide +kernel
theorem dX12_callers_1 : decode cX12_callers 1 = .ok (.getfield 65, 3) := by decide +kernel
theorem dX12_callers_4 : decode cX12_callers 4 = .ok (.iconst 3, 1) := by decide +kernel
theorem dX12_callers_5 : decode cX12_callers 5 = .ok (.iconst 4, 1) := by decide +kernel
theorem dX12_callers_6 : decode cX12_callers 6 = .ok (.iload_n 1, 1) := by decide +kernel
theorem dX12_callers_7 : decode cX12_callers 7 = .ok (.imul, 1) := by decide +kernel
theorem dX12_callers_8 : decode cX12_callers 8 = .ok (.iadd, 1) := by decide +kernel
theorem dX12_callers_9 : decode cX12_callers 9 = .ok (.iconst 3, 1) := by decide +kernel
theorem dX12_callers_10 : decode cX12_callers 10 = .ok (.iadd, 1) := by decide +kernel
theorem dX12_callers_11 : decode cX12_callers 11 = .ok (.iaload, 1) := by decide +kernel
theorem dX12_callers_12 : decode cX12_callers 12 = .ok (.ireturn, 1) := by decide +kernel
theorem dX12_calls_0 : decode cX12_calls 0 = .ok (.aload_n 0, 1) := by decide +kernel
theorem dX12_calls_1 : decode cX12_calls 1 = .ok (.iload_n 2, 1) := by decide +kernel
theorem dX12_calls_2 : decode cX12_calls 2 = .ok (.invokevirtual 244, 3) := by decide +kernel
theorem dX12_calls_5 : decode cX12_calls 5 = .ok (.iload_n 1, 1) := by decide +kernel
theorem dX12_calls_6 : decode cX12_calls 6 = .ok (.ishr, 1) := by decide +kernel
theorem dX12_calls_7 : decode cX12_calls 7 = .ok (.iconst 1, 1) := by decide +kernel
theorem dX12_calls_8 : decode cX12_calls 8 = .ok (.iand, 1) := by decide +kernel
theorem dX12_calls_9 : decode cX12_calls 9 = .ok (.iconst 1, 1) := by decide +kernel
theorem dX12_calls_10 : decode cX12_calls 10 = .ok (.if_icmp .ne 7, 3) := by decide +kernel
theorem dX12_calls_13 : decode cX12_calls 13 = .ok (.iconst 1, 1) := by decide +kernel
theorem dX12_calls_14 : decode cX12_calls 14 = .ok (.goto 4, 3) := by decide +kernel
theorem dX12_calls_17 : decode cX12_calls 17 = .ok (.iconst 0, 1) := by decide +kernel
theorem dX12_calls_18 : decode cX12_calls 18 = .ok (.ireturn, 1) := by decide +kernel
theorem dX12_isGone_0 : decode cX12_isGone 0 = .ok (.iconst 0, 1) := by decide +kernel
theorem dX12_isGone_1 : decode cX12_isGone 1 = .ok (.istore_n 3, 1) := by decide +kernel
theorem dX12_isGone_2 : decode cX12_isGone 2 = .ok (.iconst 0, 1) := by decide +kernel
theorem dX12_isGone_3 : decode cX12_isGone 3 = .ok (.istore 4, 2) := by decide +kernel
theorem dX12_isGone_5 : decode cX12_isGone 5 = .ok (.iload 4, 2) := by decide +kernel
theorem dX12_isGone_7 : decode cX12_isGone 7 = .ok (.aload_n 0, 1) := by decide +kernel
theorem dX12_isGone_8 : decode cX12_isGone 8 = .ok (.getfield 65, 3) := by decide +kernel
theorem dX12_isGone_11 : decode cX12_isGone 11 = .ok (.bipush 51, 2) := by decide +kernel
theorem dX12_isGone_13 : decode cX12_isGone 13 = .ok (.iaload, 1) := by decide +kernel
theorem dX12_isGone_14 : decode cX12_isGone 14 = .ok (.if_icmp .ge 65, 3) := by decide +kernel
theorem dX12_isGone_17 : decode cX12_isGone 17 = .ok (.bipush 52, 2) := by decide +kernel
theorem dX12_isGone_19 : decode cX12_isGone 19 = .ok (.iconst 3, 1) := by decide +kernel
theorem dX12_isGone_20 : decode cX12_isGone 20 = .ok (.iload 4, 2) := by decide +kernel
theorem dX12_isGone_22 : decode cX12_isGone 22 = .ok (.imul, 1) := by decide +kernel
theorem dX12_isGone_23 : decode cX12_isGone 23 = .ok (.iadd, 1) := by decide +kernel
theorem dX12_isGone_24 : decode cX12_isGone 24 = .ok (.istore 5, 2) := by decide +kernel
theorem dX12_isGone_26 : decode cX12_isGone 26 = .ok (.iload_n 3, 1) := by decide +kernel
theorem dX12_isGone_27 : decode cX12_isGone 27 = .ok (.ifCond .ne 40, 3) := by decide +kernel
theorem dX12_isGone_30 : decode cX12_isGone 30 = .ok (.aload_n 0, 1) := by decide +kernel
theorem dX12_isGone_31 : decode cX12_isGone 31 = .ok (.getfield 65, 3) := by decide +kernel
theorem dX12_isGone_34 : decode cX12_isGone 34 = .ok (.iload 5, 2) := by decide +kernel
theorem dX12_isGone_36 : decode cX12_isGone 36 = .ok (.iaload, 1) := by decide +kernel
theorem dX12_isGone_37 : decode cX12_isGone 37 = .ok (.iload_n 1, 1) := by decide +kernel
theorem dX12_isGone_38 : decode cX12_isGone 38 = .ok (.if_icmp .ne 33, 3) := by decide +kernel
theorem dX12_isGone_41 : decode cX12_isGone 41 = .ok (.iload_n 2, 1) := by decide +kernel
theorem dX12_isGone_42 : decode cX12_isGone 42 = .ok (.aload_n 0, 1) := by decide +kernel
theorem dX12_isGone_43 : decode cX12_isGone 43 = .ok (.getfield 65, 3) := by decide +kernel
theorem dX12_isGone_46 : decode cX12_isGone 46 = .ok (.iload 5, 2) := by decide +kernel
theorem dX12_isGone_48 : decode cX12_isGone 48 = .ok (.iconst 1, 1) := by decide +kernel
theorem dX12_isGone_49 : decode cX12_isGone 49 = .ok (.iadd, 1) := by decide +kernel
theorem dX12_isGone_50 : decode cX12_isGone 50 = .ok (.iaload, 1) := by decide +kernel
theorem dX12_isGone_51 : decode cX12_isGone 51 = .ok (.if_icmp .lt 20, 3) := by decide +kernel
theorem dX12_isGone_54 : decode cX12_isGone 54 = .ok (.iload_n 2, 1) := by decide +kernel
theorem dX12_isGone_55 : decode cX12_isGone 55 = .ok (.aload_n 0, 1) := by decide +kernel
theorem dX12_isGone_56 : decode cX12_isGone 56 = .ok (.getfield 65, 3) := by decide +kernel
theorem dX12_isGone_59 : decode cX12_isGone 59 = .ok (.iload 5, 2) := by decide +kernel
theorem dX12_isGone_61 : decode cX12_isGone 61 = .ok (.iconst 2, 1) := by decide +kernel
theorem dX12_isGone_62 : decode cX12_isGone 62 = .ok (.iadd, 1) := by decide +kernel
theorem dX12_isGone_63 : decode cX12_isGone 63 = .ok (.iaload, 1) := by decide +kernel
theorem dX12_isGone_64 : decode cX12_isGone 64 = .ok (.if_icmp .gt 7, 3) := by decide +kernel
theorem dX12_isGone_67 : decode cX12_isGone 67 = .ok (.iconst 1, 1) := by decide +kernel
theorem dX12_isGone_68 : decode cX12_isGone 68 = .ok (.goto 4, 3) := by decide +kernel
theorem dX12_isGone_71 : decode cX12_isGone 71 = .ok (.iconst 0, 1) := by decide +kernel
theorem dX12_isGone_72 : decode cX12_isGone 72 = .ok (.istore_n 3, 1) := by decide +kernel
theorem dX12_isGone_73 : decode cX12_isGone 73 = .ok (.iinc 4 1, 3) := by decide +kernel
theorem dX12_isGone_76 : decode cX12_isGone 76 = .ok (.goto (-71), 3) := by decide +kernel
theorem dX12_isGone_79 : decode cX12_isGone 79 = .ok (.iload_n 3, 1) := by decide +kernel
theorem dX12_isGone_80 : decode cX12_isGone 80 = .ok (.ireturn, 1) := by decide +kernel
theorem dX12_isDayOf_0 : decode cX12_isDayOf 0 = .ok (.aload_n 0, 1) := by decide +kernel
theorem dX12_isDayOf_1 : decode cX12_isDayOf 1 = .ok (.iload_n 1, 1) := by decide +kernel
theorem dX12_isDayOf_2 : decode cX12_isDayOf 2 = .ok (.invokevirtual 247, 3) := by decide +kernel
theorem dX12_isDayOf_5 : decode cX12_isDayOf 5 = .ok (.iload_n 2, 1) := by decide +kernel
theorem dX12_isDayOf_6 : decode cX12_isDayOf 6 = .ok (.if_icmp .eq 31, 3) := by decide +kernel
theorem dX12_isDayOf_9 : decode cX12_isDayOf 9 = .ok (.aload_n 0, 1) := by decide +kernel
theorem dX12_isDayOf_10 : decode cX12_isDayOf 10 = .ok (.getfield 65, 3) := by decide +kernel
theorem dX12_isDayOf_13 : decode cX12_isDayOf 13 = .ok (.iconst 1, 1) := by decide +kernel
theorem dX12_isDayOf_14 : decode cX12_isDayOf 14 = .ok (.iaload, 1) := by decide +kernel
theorem dX12_isDayOf_15 : decode cX12_isDayOf 15 = .ok (.iconst 1, 1) := by decide +kernel
theorem dX12_isDayOf_16 : decode cX12_isDayOf 16 = .ok (.if_icmp .ne 25, 3) := by decide +kernel
theorem dX12_isDayOf_19 : decode cX12_isDayOf 19 = .ok (.aload_n 0, 1) := by decide +kernel
theorem dX12_isDayOf_20 : decode cX12_isDayOf 20 = .ok (.getfield 65, 3) := by decide +kernel
theorem dX12_isDayOf_23 : decode cX12_isDayOf 23 = .ok (.iconst 3, 1) := by decide +kernel
theorem dX12_isDayOf_24 : decode cX12_isDayOf 24 = .ok (.iconst 4, 1) := by decide +kernel
theorem dX12_isDayOf_25 : decode cX12_isDayOf 25 = .ok (.iload_n 1, 1) := by decide +kernel
theorem dX12_isDayOf_26 : decode cX12_isDayOf 26 = .ok (.imul, 1) := by decide +kernel
theorem dX12_isDayOf_27 : decode cX12_isDayOf 27 = .ok (.iadd, 1) := by decide +kernel
theorem dX12_isDayOf_28 : decode cX12_isDayOf 28 = .ok (.iconst 1, 1) := by decide +kernel
theorem dX12_isDayOf_29 : decode cX12_isDayOf 29 = .ok (.iadd, 1) := by decide +kernel
theorem dX12_isDayOf_30 : decode cX12_isDayOf 30 = .ok (.iaload, 1) := by decide +kernel
theorem dX12_isDayOf_31 : decode cX12_isDayOf 31 = .ok (.iload_n 2, 1) := by decide +kernel
theorem dX12_isDayOf_32 : decode cX12_isDayOf 32 = .ok (.iconst 1, 1) := by decide +kernel
theorem dX12_isDayOf_33 : decode cX12_isDayOf 33 = .ok (.iadd, 1) := by decide +kernel
theorem dX12_isDayOf_34 : decode cX12_isDayOf 34 = .ok (.if_icmp .ne 7, 3) := by decide +kernel
theorem dX12_isDayOf_37 : decode cX12_isDayOf 37 = .ok (.iconst 1, 1) := by decide +kernel
theorem dX12_isDayOf_38 : decode cX12_isDayOf 38 = .ok (.goto 4, 3) := by decide +kernel
theorem dX12_isDayOf_41 : decode cX12_isDayOf 41 = .ok (.iconst 0, 1) := by decide +kernel
theorem dX12_isDayOf_42 : decode cX12_isDayOf 42 = .ok (.ireturn, 1) := by decide +kernel
theorem dX12_isFree_0 : decode cX12_isFree 0 = .ok (.aload_n 0, 1) := by decide +kernel
theorem dX12_isFree_1 : decode cX12_isFree 1 = .ok (.iload_n 2, 1) := by decide +kernel
theorem dX12_isFree_2 : decode cX12_isFree 2 = .ok (.invokevirtual 250, 3) := by decide +kernel
theorem dX12_isFree_5 : decode cX12_isFree 5 = .ok (.ifCond .eq 29, 3) := by decide +kernel
theorem dX12_isFree_8 : decode cX12_isFree 8 = .ok (.aload_n 0, 1) := by decide +kernel
theorem dX12_isFree_9 : decode cX12_isFree 9 = .ok (.iload_n 1, 1) := by decide +kernel
theorem dX12_isFree_10 : decode cX12_isFree 10 = .ok (.iload_n 2, 1) := by decide +kernel
theorem dX12_isFree_11 : decode cX12_isFree 11 = .ok (.sipush 366, 3) := by decide +kernel
theorem dX12_isFree_14 : decode cX12_isFree 14 = .ok (.irem, 1) := by decide +kernel
theorem dX12_isFree_15 : decode cX12_isFree 15 = .ok (.invokevirtual 253, 3) := by decide +kernel
theorem dX12_isFree_18 : decode cX12_isFree 18 = .ok (.ifCond .eq 16, 3) := by decide +kernel
theorem dX12_isFree_21 : decode cX12_isFree 21 = .ok (.aload_n 0, 1) := by decide +kernel
theorem dX12_isFree_22 : decode cX12_isFree 22 = .ok (.iload_n 1, 1) := by decide +kernel
theorem dX12_isFree_23 : decode cX12_isFree 23 = .ok (.iload_n 2, 1) := by decide +kernel
theorem dX12_isFree_24 : decode cX12_isFree 24 = .ok (.invokevirtual 257, 3) := by decide +kernel
theorem dX12_isFree_27 : decode cX12_isFree 27 = .ok (.ifCond .ne 7, 3) := by decide +kernel
theorem dX12_isFree_30 : decode cX12_isFree 30 = .ok (.iconst 1, 1) := by decide +kernel
theorem dX12_isFree_31 : decode cX12_isFree 31 = .ok (.goto 4, 3) := by decide +kernel
theorem dX12_isFree_34 : decode cX12_isFree 34 = .ok (.iconst 0, 1) := by decide +kernel
theorem dX12_isFree_35 : decode cX12_isFree 35 = .ok (.ireturn, 1) := by decide +kernel
theorem dX12_law_0 : decode cX12_law 0 = .ok (.aload_n 0, 1) := by decide +kernel
theorem dX12_law_1 : decode cX12_law 1 = .ok (.iconst 0, 1) := by decide +kernel
theorem dX12_law_2 : decode cX12_law 2 = .ok (.putfield 1, 3) := by decide +kernel
theorem dX12_law_5 : decode cX12_law 5 = .ok (.aload_n 0, 1) := by decide +kernel
theorem dX12_law_6 : decode cX12_law 6 = .ok (.getfield 65, 3) := by decide +kernel
theorem dX12_law_9 : decode cX12_law 9 = .ok (.iconst 1, 1) := by decide +kernel
theorem dX12_law_10 : decode cX12_law 10 = .ok (.iload_n 1, 1) := by decide +kernel
theorem dX12_law_11 : decode cX12_law 11 = .ok (.ifCond .eq 7, 3) := by decide +kernel
theorem dX12_law_14 : decode cX12_law 14 = .ok (.iconst 1, 1) := by decide +kernel
theorem dX12_law_15 : decode cX12_law 15 = .ok (.goto 4, 3) := by decide +kernel
theorem dX12_law_18 : decode cX12_law 18 = .ok (.iconst 0, 1) := by decide +kernel
theorem dX12_law_19 : decode cX12_law 19 = .ok (.iastore, 1) := by decide +kernel
theorem dX12_law_20 : decode cX12_law 20 = .ok (.iconst 1, 1) := by decide +kernel
theorem dX12_law_21 : decode cX12_law 21 = .ok (.ireturn, 1) := by decide +kernel
theorem dX12_person_0 : decode cX12_person 0 = .ok (.aload_n 0, 1) := by decide +kernel
theorem dX12_person_1 : decode cX12_person 1 = .ok (.iconst 0, 1) := by decide +kernel
theorem dX12_person_2 : decode cX12_person 2 = .ok (.putfield 1, 3) := by decide +kernel
theorem dX12_person_5 : decode cX12_person 5 = .ok (.aload_n 0, 1) := by decide +kernel
theorem dX12_person_6 : decode cX12_person 6 = .ok (.iload_n 1, 1) := by decide +kernel
theorem dX12_person_7 : decode cX12_person 7 = .ok (.invokevirtual 260, 3) := by decide +kernel
theorem dX12_person_10 : decode cX12_person 10 = .ok (.ifCond .eq 12, 3) := by decide +kernel
theorem dX12_person_13 : decode cX12_person 13 = .ok (.iload_n 2, 1) := by decide +kernel
theorem dX12_person_14 : decode cX12_person 14 = .ok (.iconst 0, 1) := by decide +kernel
theorem dX12_person_15 : decode cX12_person 15 = .ok (.iconst 4, 1) := by decide +kernel
theorem dX12_person_16 : decode cX12_person 16 = .ok (.invokestatic 263, 3) := by decide +kernel
theorem dX12_person_19 : decode cX12_person 19 = .ok (.ifCond .ne 5, 3) := by decide +kernel
theorem dX12_person_22 : decode cX12_person 22 = .ok (.iconst (-1), 1) := by decide +kernel
theorem dX12_person_23 : decode cX12_person 23 = .ok (.ireturn, 1) := by decide +kernel
theorem dX12_person_24 : decode cX12_person 24 = .ok (.iconst 0, 1) := by decide +kernel
theorem dX12_person_25 : decode cX12_person 25 = .ok (.istore_n 3, 1) := by decide +kernel
theorem dX12_person_26 : decode cX12_person 26 = .ok (.iconst 0, 1) := by decide +kernel
theorem dX12_person_27 : decode cX12_person 27 = .ok (.istore 4, 2) := by decide +kernel
theorem dX12_person_29 : decode cX12_person 29 = .ok (.iload 4, 2) := by decide +kernel
theorem dX12_person_31 : decode cX12_person 31 = .ok (.aload_n 0, 1) := by decide +kernel
theorem dX12_person_32 : decode cX12_person 32 = .ok (.invokevirtual 235, 3) := by decide +kernel
theorem dX12_person_35 : decode cX12_person 35 = .ok (.if_icmp .ge 30, 3) := by decide +kernel
theorem dX12_person_38 : decode cX12_person 38 = .ok (.iload_n 3, 1) := by decide +kernel
theorem dX12_person_39 : decode cX12_person 39 = .ok (.aload_n 0, 1) := by decide +kernel
theorem dX12_person_40 : decode cX12_person 40 = .ok (.iload_n 1, 1) := by decide +kernel
theorem dX12_person_41 : decode cX12_person 41 = .ok (.iload 4, 2) := by decide +kernel
theorem dX12_person_43 : decode cX12_person 43 = .ok (.invokevirtual 267, 3) := by decide +kernel
theorem dX12_person_46 : decode cX12_person 46 = .ok (.ifCond .eq 10, 3) := by decide +kernel
theorem dX12_person_49 : decode cX12_person 49 = .ok (.iconst 1, 1) := by decide +kernel
theorem dX12_person_50 : decode cX12_person 50 = .ok (.iload 4, 2) := by decide +kernel
theorem dX12_person_52 : decode cX12_person 52 = .ok (.ishl, 1) := by decide +kernel
theorem dX12_person_53 : decode cX12_person 53 = .ok (.goto 4, 3) := by decide +kernel
theorem dX12_person_56 : decode cX12_person 56 = .ok (.iconst 0, 1) := by decide +kernel
theorem dX12_person_57 : decode cX12_person 57 = .ok (.ior, 1) := by decide +kernel
theorem dX12_person_58 : decode cX12_person 58 = .ok (.istore_n 3, 1) := by decide +kernel
theorem dX12_person_59 : decode cX12_person 59 = .ok (.iinc 4 1, 3) := by decide +kernel
theorem dX12_person_62 : decode cX12_person 62 = .ok (.goto (-33), 3) := by decide +kernel
theorem dX12_person_65 : decode cX12_person 65 = .ok (.iconst 3, 1) := by decide +kernel
theorem dX12_person_66 : decode cX12_person 66 = .ok (.iconst 4, 1) := by decide +kernel
theorem dX12_person_67 : decode cX12_person 67 = .ok (.iload_n 1, 1) := by decide +kernel
theorem dX12_person_68 : decode cX12_person 68 = .ok (.imul, 1) := by decide +kernel
theorem dX12_person_69 : decode cX12_person 69 = .ok (.iadd, 1) := by decide +kernel
theorem dX12_person_70 : decode cX12_person 70 = .ok (.istore 4, 2) := by decide +kernel
theorem dX12_person_72 : decode cX12_person 72 = .ok (.iload_n 2, 1) := by decide +kernel
theorem dX12_person_73 : decode cX12_person 73 = .ok (.iconst 4, 1) := by decide +kernel
theorem dX12_person_74 : decode cX12_person 74 = .ok (.if_icmp .ne 7, 3) := by decide +kernel
theorem dX12_person_77 : decode cX12_person 77 = .ok (.iload_n 3, 1) := by decide +kernel
theorem dX12_person_78 : decode cX12_person 78 = .ok (.goto 31, 3) := by decide +kernel
theorem dX12_person_81 : decode cX12_person 81 = .ok (.iload_n 2, 1) := by decide +kernel
theorem dX12_person_82 : decode cX12_person 82 = .ok (.iconst 1, 1) := by decide +kernel
theorem dX12_person_83 : decode cX12_person 83 = .ok (.if_icmp .ne 17, 3) := by decide +kernel
theorem dX12_person_86 : decode cX12_person 86 = .ok (.aload_n 0, 1) := by decide +kernel
theorem dX12_person_87 : decode cX12_person 87 = .ok (.getfield 65, 3) := by decide +kernel
theorem dX12_person_90 : decode cX12_person 90 = .ok (.iload 4, 2) := by decide +kernel
theorem dX12_person_92 : decode cX12_person 92 = .ok (.iconst 1, 1) := by decide +kernel
theorem dX12_person_93 : decode cX12_person 93 = .ok (.iadd, 1) := by decide +kernel
theorem dX12_person_94 : decode cX12_person 94 = .ok (.iaload, 1) := by decide +kernel
theorem dX12_person_95 : decode cX12_person 95 = .ok (.iconst 1, 1) := by decide +kernel
theorem dX12_person_96 : decode cX12_person 96 = .ok (.isub, 1) := by decide +kernel
theorem dX12_person_97 : decode cX12_person 97 = .ok (.goto 12, 3) := by decide +kernel
theorem dX12_person_100 : decode cX12_person 100 = .ok (.aload_n 0, 1) := by decide +kernel
theorem dX12_person_101 : decode cX12_person 101 = .ok (.getfield 65, 3) := by decide +kernel
theorem dX12_person_104 : decode cX12_person 104 = .ok (.iload 4, 2) := by decide +kernel
theorem dX12_person_106 : decode cX12_person 106 = .ok (.iload_n 2, 1) := by decide +kernel
theorem dX12_person_107 : decode cX12_person 107 = .ok (.iadd, 1) := by decide +kernel
theorem dX12_person_108 : decode cX12_person 108 = .ok (.iaload, 1) := by decide +kernel
theorem dX12_person_109 : decode cX12_person 109 = .ok (.ireturn, 1) := by decide +kernel
theorem dX12_date_0 : decode cX12_date 0 = .ok (.aload_n 0, 1) := by decide +kernel
theorem dX12_date_1 : decode cX12_date 1 = .ok (.iconst 0, 1) := by decide +kernel
theorem dX12_date_2 : decode cX12_date 2 = .ok (.putfield 1, 3) := by decide +kernel
theorem dX12_date_5 : decode cX12_date 5 = .ok (.iload_n 1, 1) := by decide +kernel
theorem dX12_date_6 : decode cX12_date 6 = .ok (.iconst 0, 1) := by decide +kernel
theorem dX12_date_7 : decode cX12_date 7 = .ok (.bipush 11, 2) := by decide +kernel
theorem dX12_date_9 : decode cX12_date 9 = .ok (.invokestatic 263, 3) := by decide +kernel
theorem dX12_date_12 : decode cX12_date 12 = .ok (.ifCond .eq 38, 3) := by decide +kernel
theorem dX12_date_15 : decode cX12_date 15 = .ok (.iload_n 2, 1) := by decide +kernel
theorem dX12_date_16 : decode cX12_date 16 = .ok (.iconst 0, 1) := by decide +kernel
theorem dX12_date_17 : decode cX12_date 17 = .ok (.sipush 365, 3) := by decide +kernel
theorem dX12_date_20 : decode cX12_date 20 = .ok (.invokestatic 263, 3) := by decide +kernel
theorem dX12_date_23 : decode cX12_date 23 = .ok (.ifCond .eq 27, 3) := by decide +kernel
theorem dX12_date_26 : decode cX12_date 26 = .ok (.aload_n 0, 1) := by decide +kernel
theorem dX12_date_27 : decode cX12_date 27 = .ok (.sipush 366, 3) := by decide +kernel
theorem dX12_date_30 : decode cX12_date 30 = .ok (.iload_n 1, 1) := by decide +kernel
theorem dX12_date_31 : decode cX12_date 31 = .ok (.imul, 1) := by decide +kernel
theorem dX12_date_32 : decode cX12_date 32 = .ok (.iload_n 2, 1) := by decide +kernel
theorem dX12_date_33 : decode cX12_date 33 = .ok (.iadd, 1) := by decide +kernel
theorem dX12_date_34 : decode cX12_date 34 = .ok (.invokevirtual 250, 3) := by decide +kernel
theorem dX12_date_37 : decode cX12_date 37 = .ok (.ifCond .eq 13, 3) := by decide +kernel
theorem dX12_date_40 : decode cX12_date 40 = .ok (.sipush 366, 3) := by decide +kernel
theorem dX12_date_43 : decode cX12_date 43 = .ok (.iload_n 1, 1) := by decide +kernel
theorem dX12_date_44 : decode cX12_date 44 = .ok (.imul, 1) := by decide +kernel
theorem dX12_date_45 : decode cX12_date 45 = .ok (.iload_n 2, 1) := by decide +kernel
theorem dX12_date_46 : decode cX12_date 46 = .ok (.iadd, 1) := by decide +kernel
theorem dX12_date_47 : decode cX12_date 47 = .ok (.goto 4, 3) := by decide +kernel
theorem dX12_date_50 : decode cX12_date 50 = .ok (.iconst (-1), 1) := by decide +kernel
theorem dX12_date_51 : decode cX12_date 51 = .ok (.ireturn, 1) := by decide +kernel
theorem dX12_free_0 : decode cX12_free 0 = .ok (.aload_n 0, 1) := by decide +kernel
theorem dX12_free_1 : decode cX12_free 1 = .ok (.iconst 0, 1) := by decide +kernel
theorem dX12_free_2 : decode cX12_free 2 = .ok (.putfield 1, 3) := by decide +kernel
theorem dX12_free_5 : decode cX12_free 5 = .ok (.aload_n 0, 1) := by decide +kernel
theorem dX12_free_6 : decode cX12_free 6 = .ok (.iload_n 1, 1) := by decide +kernel
theorem dX12_free_7 : decode cX12_free 7 = .ok (.invokevirtual 260, 3) := by decide +kernel
theorem dX12_free_10 : decode cX12_free 10 = .ok (.ifCond .eq 28, 3) := by decide +kernel
theorem dX12_free_13 : decode cX12_free 13 = .ok (.aload_n 0, 1) := by decide +kernel
theorem dX12_free_14 : decode cX12_free 14 = .ok (.iload_n 2, 1) := by decide +kernel
theorem dX12_free_15 : decode cX12_free 15 = .ok (.invokevirtual 250, 3) := by decide +kernel
theorem dX12_free_18 : decode cX12_free 18 = .ok (.ifCond .eq 20, 3) := by decide +kernel
theorem dX12_free_21 : decode cX12_free 21 = .ok (.aload_n 0, 1) := by decide +kernel
theorem dX12_free_22 : decode cX12_free 22 = .ok (.iload_n 1, 1) := by decide +kernel
theorem dX12_free_23 : decode cX12_free 23 = .ok (.iload_n 2, 1) := by decide +kernel
theorem dX12_free_24 : decode cX12_free 24 = .ok (.invokevirtual 270, 3) := by decide +kernel
theorem dX12_free_27 : decode cX12_free 27 = .ok (.ifCond .eq 7, 3) := by decide +kernel
theorem dX12_free_30 : decode cX12_free 30 = .ok (.iconst 1, 1) := by decide +kernel
theorem dX12_free_31 : decode cX12_free 31 = .ok (.goto 8, 3) := by decide +kernel
theorem dX12_free_34 : decode cX12_free 34 = .ok (.iconst 0, 1) := by decide +kernel
theorem dX12_free_35 : decode cX12_free 35 = .ok (.goto 4, 3) := by decide +kernel
theorem dX12_free_38 : decode cX12_free 38 = .ok (.iconst (-1), 1) := by decide +kernel
theorem dX12_free_39 : decode cX12_free 39 = .ok (.ireturn, 1) := by decide +kernel
theorem dX12_away_0 : decode cX12_away 0 = .ok (.aload_n 0, 1) := by decide +kernel
theorem dX12_away_1 : decode cX12_away 1 = .ok (.iconst 0, 1) := by decide +kernel
theorem dX12_away_2 : decode cX12_away 2 = .ok (.putfield 1, 3) := by decide +kernel
theorem dX12_away_5 : decode cX12_away 5 = .ok (.aload_n 0, 1) := by decide +kernel
theorem dX12_away_6 : decode cX12_away 6 = .ok (.iload_n 1, 1) := by decide +kernel
theorem dX12_away_7 : decode cX12_away 7 = .ok (.invokevirtual 260, 3) := by decide +kernel
theorem dX12_away_10 : decode cX12_away 10 = .ok (.ifCond .eq 28, 3) := by decide +kernel
theorem dX12_away_13 : decode cX12_away 13 = .ok (.aload_n 0, 1) := by decide +kernel
theorem dX12_away_14 : decode cX12_away 14 = .ok (.iload_n 2, 1) := by decide +kernel
theorem dX12_away_15 : decode cX12_away 15 = .ok (.invokevirtual 250, 3) := by decide +kernel
theorem dX12_away_18 : decode cX12_away 18 = .ok (.ifCond .eq 20, 3) := by decide +kernel
theorem dX12_away_21 : decode cX12_away 21 = .ok (.aload_n 0, 1) := by decide +kernel
theorem dX12_away_22 : decode cX12_away 22 = .ok (.iload_n 1, 1) := by decide +kernel
theorem dX12_away_23 : decode cX12_away 23 = .ok (.iload_n 2, 1) := by decide +kernel
theorem dX12_away_24 : decode cX12_away 24 = .ok (.invokevirtual 257, 3) := by decide +kernel
theorem dX12_away_27 : decode cX12_away 27 = .ok (.ifCond .eq 7, 3) := by decide +kernel
theorem dX12_away_30 : decode cX12_away 30 = .ok (.iconst 1, 1) := by decide +kernel
theorem dX12_away_31 : decode cX12_away 31 = .ok (.goto 8, 3) := by decide +kernel
theorem dX12_away_34 : decode cX12_away 34 = .ok (.iconst 0, 1) := by decide +kernel
theorem dX12_away_35 : decode cX12_away 35 = .ok (.goto 4, 3) := by decide +kernel
theorem dX12_away_38 : decode cX12_away 38 = .ok (.iconst (-1), 1) := by decide +kernel
theorem dX12_away_39 : decode cX12_away 39 = .ok (.ireturn, 1) := by decide +kernel
theorem dX12_adds_0 : decode cX12_adds 0 = .ok (.iconst 0, 1) := by decide +kernel
theorem dX12_adds_1 : decode cX12_adds 1 = .ok (.istore_n 2, 1) := by decide +kernel
theorem dX12_adds_2 : decode cX12_adds 2 = .ok (.iload_n 2, 1) := by decide +kernel
theorem dX12_adds_3 : decode cX12_adds 3 = .ok (.aload_n 0, 1) := by decide +kernel
theorem dX12_adds_4 : decode cX12_adds 4 = .ok (.getfield 273, 3) := by decide +kernel
theorem dX12_adds_7 : decode cX12_adds 7 = .ok (.if_icmp .ge 19, 3) := by decide +kernel
theorem dX12_adds_10 : decode cX12_adds 10 = .ok (.aload_n 0, 1) := by decide +kernel
theorem dX12_adds_11 : decode cX12_adds 11 = .ok (.getfield 74, 3) := by decide +kernel
theorem dX12_adds_14 : decode cX12_adds 14 = .ok (.iload_n 2, 1) := by decide +kernel
theorem dX12_adds_15 : decode cX12_adds 15 = .ok (.iaload, 1) := by decide +kernel
theorem dX12_adds_16 : decode cX12_adds 16 = .ok (.iload_n 1, 1) := by decide +kernel
theorem dX12_adds_17 : decode cX12_adds 17 = .ok (.if_icmp .ge 9, 3) := by decide +kernel
theorem dX12_adds_20 : decode cX12_adds 20 = .ok (.iinc 2 1, 3) := by decide +kernel
theorem dX12_adds_23 : decode cX12_adds 23 = .ok (.goto (-21), 3) := by decide +kernel
theorem dX12_adds_26 : decode cX12_adds 26 = .ok (.iload_n 2, 1) := by decide +kernel
theorem dX12_adds_27 : decode cX12_adds 27 = .ok (.aload_n 0, 1) := by decide +kernel
theorem dX12_adds_28 : decode cX12_adds 28 = .ok (.getfield 273, 3) := by decide +kernel
theorem dX12_adds_31 : decode cX12_adds 31 = .ok (.if_icmp .eq 13, 3) := by decide +kernel
theorem dX12_adds_34 : decode cX12_adds 34 = .ok (.aload_n 0, 1) := by decide +kernel
theorem dX12_adds_35 : decode cX12_adds 35 = .ok (.getfield 74, 3) := by decide +kernel
theorem dX12_adds_38 : decode cX12_adds 38 = .ok (.iload_n 2, 1) := by decide +kernel
theorem dX12_adds_39 : decode cX12_adds 39 = .ok (.iaload, 1) := by decide +kernel
theorem dX12_adds_40 : decode cX12_adds 40 = .ok (.iload_n 1, 1) := by decide +kernel
theorem dX12_adds_41 : decode cX12_adds 41 = .ok (.if_icmp .eq 50, 3) := by decide +kernel
theorem dX12_adds_44 : decode cX12_adds 44 = .ok (.aload_n 0, 1) := by decide +kernel
theorem dX12_adds_45 : decode cX12_adds 45 = .ok (.getfield 273, 3) := by decide +kernel
theorem dX12_adds_48 : decode cX12_adds 48 = .ok (.istore_n 3, 1) := by decide +kernel
theorem dX12_adds_49 : decode cX12_adds 49 = .ok (.iload_n 3, 1) := by decide +kernel
theorem dX12_adds_50 : decode cX12_adds 50 = .ok (.iload_n 2, 1) := by decide +kernel
theorem dX12_adds_51 : decode cX12_adds 51 = .ok (.if_icmp .le 23, 3) := by decide +kernel
theorem dX12_adds_54 : decode cX12_adds 54 = .ok (.aload_n 0, 1) := by decide +kernel
theorem dX12_adds_55 : decode cX12_adds 55 = .ok (.getfield 74, 3) := by decide +kernel
theorem dX12_adds_58 : decode cX12_adds 58 = .ok (.iload_n 3, 1) := by decide +kernel
theorem dX12_adds_59 : decode cX12_adds 59 = .ok (.aload_n 0, 1) := by decide +kernel
theorem dX12_adds_60 : decode cX12_adds 60 = .ok (.getfield 74, 3) := by decide +kernel
theorem dX12_adds_63 : decode cX12_adds 63 = .ok (.iload_n 3, 1) := by decide +kernel
theorem dX12_adds_64 : decode cX12_adds 64 = .ok (.iconst 1, 1) := by decide +kernel
theorem dX12_adds_65 : decode cX12_adds 65 = .ok (.isub, 1) := by decide +kernel
theorem dX12_adds_66 : decode cX12_adds 66 = .ok (.iaload, 1) := by decide +kernel
theorem dX12_adds_67 : decode cX12_adds 67 = .ok (.iastore, 1) := by decide +kernel
theorem dX12_adds_68 : decode cX12_adds 68 = .ok (.iinc 3 (-1), 3) := by decide +kernel
theorem dX12_adds_71 : decode cX12_adds 71 = .ok (.goto (-22), 3) := by decide +kernel
theorem dX12_adds_74 : decode cX12_adds 74 = .ok (.aload_n 0, 1) := by decide +kernel
theorem dX12_adds_75 : decode cX12_adds 75 = .ok (.getfield 74, 3) := by decide +kernel
theorem dX12_adds_78 : decode cX12_adds 78 = .ok (.iload_n 2, 1) := by decide +kernel
theorem dX12_adds_79 : decode cX12_adds 79 = .ok (.iload_n 1, 1) := by decide +kernel
theorem dX12_adds_80 : decode cX12_adds 80 = .ok (.iastore, 1) := by decide +kernel
theorem dX12_adds_81 : decode cX12_adds 81 = .ok (.aload_n 0, 1) := by decide +kernel
theorem dX12_adds_82 : decode cX12_adds 82 = .ok (.dup, 1) := by decide +kernel
theorem dX12_adds_83 : decode cX12_adds 83 = .ok (.getfield 273, 3) := by decide +kernel
theorem dX12_adds_86 : decode cX12_adds 86 = .ok (.iconst 1, 1) := by decide +kernel
theorem dX12_adds_87 : decode cX12_adds 87 = .ok (.iadd, 1) := by decide +kernel
theorem dX12_adds_88 : decode cX12_adds 88 = .ok (.putfield 273, 3) := by decide +kernel
theorem dX12_adds_91 : decode cX12_adds 91 = .ok (.return_, 1) := by decide +kernel
theorem dX12_findDays_0 : decode cX12_findDays 0 = .ok (.aload_n 0, 1) := by decide +kernel
theorem dX12_findDays_1 : decode cX12_findDays 1 = .ok (.iconst 0, 1) := by decide +kernel
theorem dX12_findDays_2 : decode cX12_findDays 2 = .ok (.putfield 273, 3) := by decide +kernel
theorem dX12_findDays_5 : decode cX12_findDays 5 = .ok (.iconst 0, 1) := by decide +kernel
theorem dX12_findDays_6 : decode cX12_findDays 6 = .ok (.istore_n 1, 1) := by decide +kernel
theorem dX12_findDays_7 : decode cX12_findDays 7 = .ok (.iload_n 1, 1) := by decide +kernel
theorem dX12_findDays_8 : decode cX12_findDays 8 = .ok (.aload_n 0, 1) := by decide +kernel
theorem dX12_findDays_9 : decode cX12_findDays 9 = .ok (.invokevirtual 235, 3) := by decide +kernel
theorem dX12_findDays_12 : decode cX12_findDays 12 = .ok (.if_icmp .ge 61, 3) := by decide +kernel
theorem dX12_findDays_15 : decode cX12_findDays 15 = .ok (.aload_n 0, 1) := by decide +kernel
theorem dX12_findDays_16 : decode cX12_findDays 16 = .ok (.aload_n 0, 1) := by decide +kernel
theorem dX12_findDays_17 : decode cX12_findDays 17 = .ok (.iload_n 1, 1) := by decide +kernel
theorem dX12_findDays_18 : decode cX12_findDays 18 = .ok (.invokevirtual 247, 3) := by decide +kernel
theorem dX12_findDays_21 : decode cX12_findDays 21 = .ok (.invokevirtual 276, 3) := by decide +kernel
theorem dX12_findDays_24 : decode cX12_findDays 24 = .ok (.aload_n 0, 1) := by decide +kernel
