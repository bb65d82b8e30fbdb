theorem dX12_isGood_8 : decode cX12_isGood 8 = .ok (.goto 4, 3) := by decide +kernel
theorem dX12_isGood_11 : decode cX12_isGood 11 = .ok (.iconst 0, 1) := by decide +kernel
theorem dX12_isGood_12 : decode cX12_isGood 12 = .ok (.ireturn, 1) := by decide +kernel
theorem dX12_isKept_0 : decode cX12_isKept 0 = .ok (.lload_n 0, 1) := by decide +kernel
theorem dX12_isKept_1 : decode cX12_isKept 1 = .ok (.ldc2_w 140, 3) := by decide +kernel
theorem dX12_isKept_4 : decode cX12_isKept 4 = .ok (.lcmp, 1) := by decide +kernel
theorem dX12_isKept_5 : decode cX12_isKept 5 = .ok (.ifCond .eq 51, 3) := by decide +kernel
theorem dX12_isKept_8 : decode cX12_isKept 8 = .ok (.lload_n 0, 1) := by decide +kernel
theorem dX12_isKept_9 : decode cX12_isKept 9 = .ok (.ldc2_w 142, 3) := by decide +kernel
theorem dX12_isKept_12 : decode cX12_isKept 12 = .ok (.lcmp, 1) := by decide +kernel
theorem dX12_isKept_13 : decode cX12_isKept 13 = .ok (.ifCond .eq 43, 3) := by decide +kernel
theorem dX12_isKept_16 : decode cX12_isKept 16 = .ok (.lload_n 0, 1) := by decide +kernel
theorem dX12_isKept_17 : decode cX12_isKept 17 = .ok (.ldc2_w 144, 3) := by decide +kernel
theorem dX12_isKept_20 : decode cX12_isKept 20 = .ok (.lcmp, 1) := by decide +kernel
theorem dX12_isKept_21 : decode cX12_isKept 21 = .ok (.ifCond .eq 35, 3) := by decide +kernel
theorem dX12_isKept_24 : decode cX12_isKept 24 = .ok (.lload_n 0, 1) := by decide +kernel
theorem dX12_isKept_25 : decode cX12_isKept 25 = .ok (.ldc2_w 146, 3) := by decide +kernel
theorem dX12_isKept_28 : decode cX12_isKept 28 = .ok (.lcmp, 1) := by decide +kernel
theorem dX12_isKept_29 : decode cX12_isKept 29 = .ok (.ifCond .eq 27, 3) := by decide +kernel
theorem dX12_isKept_32 : decode cX12_isKept 32 = .ok (.lload_n 0, 1) := by decide +kernel
theorem dX12_isKept_33 : decode cX12_isKept 33 = .ok (.ldc2_w 148, 3) := by decide +kernel
theorem dX12_isKept_36 : decode cX12_isKept 36 = .ok (.lcmp, 1) := by decide +kernel
theorem dX12_isKept_37 : decode cX12_isKept 37 = .ok (.ifCond .eq 19, 3) := by decide +kernel
theorem dX12_isKept_40 : decode cX12_isKept 40 = .ok (.lload_n 0, 1) := by decide +kernel
theorem dX12_isKept_41 : decode cX12_isKept 41 = .ok (.ldc2_w 150, 3) := by decide +kernel
theorem dX12_isKept_44 : decode cX12_isKept 44 = .ok (.lcmp, 1) := by decide +kernel
theorem dX12_isKept_45 : decode cX12_isKept 45 = .ok (.ifCond .eq 11, 3) := by decide +kernel
theorem dX12_isKept_48 : decode cX12_isKept 48 = .ok (.lload_n 0, 1) := by decide +kernel
theorem dX12_isKept_49 : decode cX12_isKept 49 = .ok (.ldc2_w 152, 3) := by decide +kernel
theorem dX12_isKept_52 : decode cX12_isKept 52 = .ok (.lcmp, 1) := by decide +kernel
theorem dX12_isKept_53 : decode cX12_isKept 53 = .ok (.ifCond .ne 7, 3) := by decide +kernel
theorem dX12_isKept_56 : decode cX12_isKept 56 = .ok (.iconst 1, 1) := by decide +kernel
theorem dX12_isKept_57 : decode cX12_isKept 57 = .ok (.goto 4, 3) := by decide +kernel
theorem dX12_isKept_60 : decode cX12_isKept 60 = .ok (.iconst 0, 1) := by decide +kernel
theorem dX12_isKept_61 : decode cX12_isKept 61 = .ok (.ireturn, 1) := by decide +kernel
theorem dX12_goOn_0 : decode cX12_goOn 0 = .ok (.aload_n 0, 1) := by decide +kernel
theorem dX12_goOn_1 : decode cX12_goOn 1 = .ok (.aload_n 0, 1) := by decide +kernel
theorem dX12_goOn_2 : decode cX12_goOn 2 = .ok (.getfield 154, 3) := by decide +kernel
theorem dX12_goOn_5 : decode cX12_goOn 5 = .ok (.putfield 157, 3) := by decide +kernel
theorem dX12_goOn_8 : decode cX12_goOn 8 = .ok (.aload_n 0, 1) := by decide +kernel
theorem dX12_goOn_9 : decode cX12_goOn 9 = .ok (.getfield 157, 3) := by decide +kernel
theorem dX12_goOn_12 : decode cX12_goOn 12 = .ok (.aload_n 0, 1) := by decide +kernel
theorem dX12_goOn_13 : decode cX12_goOn 13 = .ok (.getfield 134, 3) := by decide +kernel
theorem dX12_goOn_16 : decode cX12_goOn 16 = .ok (.if_icmp .ge 42, 3) := by decide +kernel
theorem dX12_goOn_19 : decode cX12_goOn 19 = .ok (.aload_n 0, 1) := by decide +kernel
theorem dX12_goOn_20 : decode cX12_goOn 20 = .ok (.aload_n 0, 1) := by decide +kernel
theorem dX12_goOn_21 : decode cX12_goOn 21 = .ok (.getfield 157, 3) := by decide +kernel
theorem dX12_goOn_24 : decode cX12_goOn 24 = .ok (.invokevirtual 160, 3) := by decide +kernel
theorem dX12_goOn_27 : decode cX12_goOn 27 = .ok (.bipush 32, 2) := by decide +kernel
theorem dX12_goOn_29 : decode cX12_goOn 29 = .ok (.if_icmp .eq 16, 3) := by decide +kernel
theorem dX12_goOn_32 : decode cX12_goOn 32 = .ok (.aload_n 0, 1) := by decide +kernel
theorem dX12_goOn_33 : decode cX12_goOn 33 = .ok (.aload_n 0, 1) := by decide +kernel
theorem dX12_goOn_34 : decode cX12_goOn 34 = .ok (.getfield 157, 3) := by decide +kernel
theorem dX12_goOn_37 : decode cX12_goOn 37 = .ok (.invokevirtual 160, 3) := by decide +kernel
theorem dX12_goOn_40 : decode cX12_goOn 40 = .ok (.bipush 10, 2) := by decide +kernel
theorem dX12_goOn_42 : decode cX12_goOn 42 = .ok (.if_icmp .ne 16, 3) := by decide +kernel
theorem dX12_goOn_45 : decode cX12_goOn 45 = .ok (.aload_n 0, 1) := by decide +kernel
theorem dX12_goOn_46 : decode cX12_goOn 46 = .ok (.dup, 1) := by decide +kernel
theorem dX12_goOn_47 : decode cX12_goOn 47 = .ok (.getfield 157, 3) := by decide +kernel
theorem dX12_goOn_50 : decode cX12_goOn 50 = .ok (.iconst 1, 1) := by decide +kernel
theorem dX12_goOn_51 : decode cX12_goOn 51 = .ok (.iadd, 1) := by decide +kernel
theorem dX12_goOn_52 : decode cX12_goOn 52 = .ok (.putfield 157, 3) := by decide +kernel
theorem dX12_goOn_55 : decode cX12_goOn 55 = .ok (.goto (-47), 3) := by decide +kernel
theorem dX12_goOn_58 : decode cX12_goOn 58 = .ok (.aload_n 0, 1) := by decide +kernel
theorem dX12_goOn_59 : decode cX12_goOn 59 = .ok (.aload_n 0, 1) := by decide +kernel
theorem dX12_goOn_60 : decode cX12_goOn 60 = .ok (.getfield 157, 3) := by decide +kernel
theorem dX12_goOn_63 : decode cX12_goOn 63 = .ok (.invokevirtual 160, 3) := by decide +kernel
theorem dX12_goOn_66 : decode cX12_goOn 66 = .ok (.istore_n 1, 1) := by decide +kernel
theorem dX12_goOn_67 : decode cX12_goOn 67 = .ok (.aload_n 0, 1) := by decide +kernel
theorem dX12_goOn_68 : decode cX12_goOn 68 = .ok (.aload_n 0, 1) := by decide +kernel
theorem dX12_goOn_69 : decode cX12_goOn 69 = .ok (.getfield 157, 3) := by decide +kernel
theorem dX12_goOn_72 : decode cX12_goOn 72 = .ok (.iconst 1, 1) := by decide +kernel
theorem dX12_goOn_73 : decode cX12_goOn 73 = .ok (.iadd, 1) := by decide +kernel
theorem dX12_goOn_74 : decode cX12_goOn 74 = .ok (.putfield 154, 3) := by decide +kernel
theorem dX12_goOn_77 : decode cX12_goOn 77 = .ok (.aload_n 0, 1) := by decide +kernel
theorem dX12_goOn_78 : decode cX12_goOn 78 = .ok (.getfield 157, 3) := by decide +kernel
theorem dX12_goOn_81 : decode cX12_goOn 81 = .ok (.aload_n 0, 1) := by decide +kernel
theorem dX12_goOn_82 : decode cX12_goOn 82 = .ok (.getfield 134, 3) := by decide +kernel
theorem dX12_goOn_85 : decode cX12_goOn 85 = .ok (.if_icmp .lt 27, 3) := by decide +kernel
theorem dX12_goOn_88 : decode cX12_goOn 88 = .ok (.aload_n 0, 1) := by decide +kernel
theorem dX12_goOn_89 : decode cX12_goOn 89 = .ok (.iconst 0, 1) := by decide +kernel
theorem dX12_goOn_90 : decode cX12_goOn 90 = .ok (.putfield 164, 3) := by decide +kernel
theorem dX12_goOn_93 : decode cX12_goOn 93 = .ok (.aload_n 0, 1) := by decide +kernel
theorem dX12_goOn_94 : decode cX12_goOn 94 = .ok (.aload_n 0, 1) := by decide +kernel
theorem dX12_goOn_95 : decode cX12_goOn 95 = .ok (.getfield 134, 3) := by decide +kernel
theorem dX12_goOn_98 : decode cX12_goOn 98 = .ok (.putfield 157, 3) := by decide +kernel
theorem dX12_goOn_101 : decode cX12_goOn 101 = .ok (.aload_n 0, 1) := by decide +kernel
theorem dX12_goOn_102 : decode cX12_goOn 102 = .ok (.aload_n 0, 1) := by decide +kernel
theorem dX12_goOn_103 : decode cX12_goOn 103 = .ok (.getfield 134, 3) := by decide +kernel
theorem dX12_goOn_106 : decode cX12_goOn 106 = .ok (.putfield 154, 3) := by decide +kernel
theorem dX12_goOn_109 : decode cX12_goOn 109 = .ok (.goto 267, 3) := by decide +kernel
theorem dX12_goOn_112 : decode cX12_goOn 112 = .ok (.iload_n 1, 1) := by decide +kernel
theorem dX12_goOn_113 : decode cX12_goOn 113 = .ok (.invokestatic 167, 3) := by decide +kernel
theorem dX12_goOn_116 : decode cX12_goOn 116 = .ok (.ifCond .eq 123, 3) := by decide +kernel
theorem dX12_goOn_119 : decode cX12_goOn 119 = .ok (.aload_n 0, 1) := by decide +kernel
theorem dX12_goOn_120 : decode cX12_goOn 120 = .ok (.aload_n 0, 1) := by decide +kernel
theorem dX12_goOn_121 : decode cX12_goOn 121 = .ok (.getfield 154, 3) := by decide +kernel
theorem dX12_goOn_124 : decode cX12_goOn 124 = .ok (.invokevirtual 160, 3) := by decide +kernel
theorem dX12_goOn_127 : decode cX12_goOn 127 = .ok (.invokestatic 167, 3) := by decide +kernel
theorem dX12_goOn_130 : decode cX12_goOn 130 = .ok (.ifCond .eq 16, 3) := by decide +kernel
theorem dX12_goOn_133 : decode cX12_goOn 133 = .ok (.aload_n 0, 1) := by decide +kernel
theorem dX12_goOn_134 : decode cX12_goOn 134 = .ok (.dup, 1) := by decide +kernel
theorem dX12_goOn_135 : decode cX12_goOn 135 = .ok (.getfield 154, 3) := by decide +kernel
theorem dX12_goOn_138 : decode cX12_goOn 138 = .ok (.iconst 1, 1) := by decide +kernel
theorem dX12_goOn_139 : decode cX12_goOn 139 = .ok (.iadd, 1) := by decide +kernel
theorem dX12_goOn_140 : decode cX12_goOn 140 = .ok (.putfield 154, 3) := by decide +kernel
theorem dX12_goOn_143 : decode cX12_goOn 143 = .ok (.goto (-24), 3) := by decide +kernel
theorem dX12_goOn_146 : decode cX12_goOn 146 = .ok (.aload_n 0, 1) := by decide +kernel
theorem dX12_goOn_147 : decode cX12_goOn 147 = .ok (.lconst 0, 1) := by decide +kernel
theorem dX12_goOn_148 : decode cX12_goOn 148 = .ok (.putfield 171, 3) := by decide +kernel
theorem dX12_goOn_151 : decode cX12_goOn 151 = .ok (.aload_n 0, 1) := by decide +kernel
theorem dX12_goOn_152 : decode cX12_goOn 152 = .ok (.getfield 157, 3) := by decide +kernel
theorem dX12_goOn_155 : decode cX12_goOn 155 = .ok (.istore_n 2, 1) := by decide +kernel
theorem dX12_goOn_156 : decode cX12_goOn 156 = .ok (.iload_n 2, 1) := by decide +kernel
theorem dX12_goOn_157 : decode cX12_goOn 157 = .ok (.aload_n 0, 1) := by decide +kernel
theorem dX12_goOn_158 : decode cX12_goOn 158 = .ok (.getfield 154, 3) := by decide +kernel
theorem dX12_goOn_161 : decode cX12_goOn 161 = .ok (.if_icmp .ge 38, 3) := by decide +kernel
theorem dX12_goOn_164 : decode cX12_goOn 164 = .ok (.iload_n 2, 1) := by decide +kernel
theorem dX12_goOn_165 : decode cX12_goOn 165 = .ok (.aload_n 0, 1) := by decide +kernel
theorem dX12_goOn_166 : decode cX12_goOn 166 = .ok (.getfield 157, 3) := by decide +kernel
theorem dX12_goOn_169 : decode cX12_goOn 169 = .ok (.bipush 8, 2) := by decide +kernel
theorem dX12_goOn_171 : decode cX12_goOn 171 = .ok (.iadd, 1) := by decide +kernel
theorem dX12_goOn_172 : decode cX12_goOn 172 = .ok (.if_icmp .ge 27, 3) := by decide +kernel
theorem dX12_goOn_175 : decode cX12_goOn 175 = .ok (.aload_n 0, 1) := by decide +kernel
theorem dX12_goOn_176 : decode cX12_goOn 176 = .ok (.aload_n 0, 1) := by decide +kernel
theorem dX12_goOn_177 : decode cX12_goOn 177 = .ok (.getfield 171, 3) := by decide +kernel
theorem dX12_goOn_180 : decode cX12_goOn 180 = .ok (.bipush 8, 2) := by decide +kernel
theorem dX12_goOn_182 : decode cX12_goOn 182 = .ok (.lshl, 1) := by decide +kernel
theorem dX12_goOn_183 : decode cX12_goOn 183 = .ok (.aload_n 0, 1) := by decide +kernel
theorem dX12_goOn_184 : decode cX12_goOn 184 = .ok (.iload_n 2, 1) := by decide +kernel
theorem dX12_goOn_185 : decode cX12_goOn 185 = .ok (.invokevirtual 160, 3) := by decide +kernel
theorem dX12_goOn_188 : decode cX12_goOn 188 = .ok (.i2l, 1) := by decide +kernel
theorem dX12_goOn_189 : decode cX12_goOn 189 = .ok (.lor, 1) := by decide +kernel
theorem dX12_goOn_190 : decode cX12_goOn 190 = .ok (.putfield 171, 3) := by decide +kernel
theorem dX12_goOn_193 : decode cX12_goOn 193 = .ok (.iinc 2 1, 3) := by decide +kernel
theorem dX12_goOn_196 : decode cX12_goOn 196 = .ok (.goto (-40), 3) := by decide +kernel
theorem dX12_goOn_199 : decode cX12_goOn 199 = .ok (.aload_n 0, 1) := by decide +kernel
theorem dX12_goOn_200 : decode cX12_goOn 200 = .ok (.aload_n 0, 1) := by decide +kernel
theorem dX12_goOn_201 : decode cX12_goOn 201 = .ok (.getfield 154, 3) := by decide +kernel
theorem dX12_goOn_204 : decode cX12_goOn 204 = .ok (.aload_n 0, 1) := by decide +kernel
theorem dX12_goOn_205 : decode cX12_goOn 205 = .ok (.getfield 157, 3) := by decide +kernel
theorem dX12_goOn_208 : decode cX12_goOn 208 = .ok (.isub, 1) := by decide +kernel
theorem dX12_goOn_209 : decode cX12_goOn 209 = .ok (.bipush 8, 2) := by decide +kernel
theorem dX12_goOn_211 : decode cX12_goOn 211 = .ok (.if_icmp .le 7, 3) := by decide +kernel
theorem dX12_goOn_214 : decode cX12_goOn 214 = .ok (.iconst 1, 1) := by decide +kernel
theorem dX12_goOn_215 : decode cX12_goOn 215 = .ok (.goto 18, 3) := by decide +kernel
theorem dX12_goOn_218 : decode cX12_goOn 218 = .ok (.aload_n 0, 1) := by decide +kernel
theorem dX12_goOn_219 : decode cX12_goOn 219 = .ok (.getfield 171, 3) := by decide +kernel
theorem dX12_goOn_222 : decode cX12_goOn 222 = .ok (.invokestatic 175, 3) := by decide +kernel
theorem dX12_goOn_225 : decode cX12_goOn 225 = .ok (.ifCond .eq 7, 3) := by decide +kernel
theorem dX12_goOn_228 : decode cX12_goOn 228 = .ok (.iconst 3, 1) := by decide +kernel
theorem dX12_goOn_229 : decode cX12_goOn 229 = .ok (.goto 4, 3) := by decide +kernel
theorem dX12_goOn_232 : decode cX12_goOn 232 = .ok (.iconst 2, 1) := by decide +kernel
theorem dX12_goOn_233 : decode cX12_goOn 233 = .ok (.putfield 164, 3) := by decide +kernel
theorem dX12_goOn_236 : decode cX12_goOn 236 = .ok (.goto 140, 3) := by decide +kernel
theorem dX12_goOn_239 : decode cX12_goOn 239 = .ok (.iload_n 1, 1) := by decide +kernel
theorem dX12_goOn_240 : decode cX12_goOn 240 = .ok (.invokestatic 179, 3) := by decide +kernel
theorem dX12_goOn_243 : decode cX12_goOn 243 = .ok (.ifCond .eq 118, 3) := by decide +kernel
theorem dX12_goOn_246 : decode cX12_goOn 246 = .ok (.aload_n 0, 1) := by decide +kernel
theorem dX12_goOn_247 : decode cX12_goOn 247 = .ok (.iconst 0, 1) := by decide +kernel
theorem dX12_goOn_248 : decode cX12_goOn 248 = .ok (.putfield 182, 3) := by decide +kernel
theorem dX12_goOn_251 : decode cX12_goOn 251 = .ok (.aload_n 0, 1) := by decide +kernel
theorem dX12_goOn_252 : decode cX12_goOn 252 = .ok (.aload_n 0, 1) := by decide +kernel
theorem dX12_goOn_253 : decode cX12_goOn 253 = .ok (.getfield 157, 3) := by decide +kernel
theorem dX12_goOn_256 : decode cX12_goOn 256 = .ok (.putfield 154, 3) := by decide +kernel
theorem dX12_goOn_259 : decode cX12_goOn 259 = .ok (.aload_n 0, 1) := by decide +kernel
theorem dX12_goOn_260 : decode cX12_goOn 260 = .ok (.aload_n 0, 1) := by decide +kernel
theorem dX12_goOn_261 : decode cX12_goOn 261 = .ok (.getfield 154, 3) := by decide +kernel
theorem dX12_goOn_264 : decode cX12_goOn 264 = .ok (.invokevirtual 160, 3) := by decide +kernel
theorem dX12_goOn_267 : decode cX12_goOn 267 = .ok (.invokestatic 179, 3) := by decide +kernel
theorem dX12_goOn_270 : decode cX12_goOn 270 = .ok (.ifCond .eq 52, 3) := by decide +kernel
theorem dX12_goOn_273 : decode cX12_goOn 273 = .ok (.aload_n 0, 1) := by decide +kernel
theorem dX12_goOn_274 : decode cX12_goOn 274 = .ok (.getfield 154, 3) := by decide +kernel
theorem dX12_goOn_277 : decode cX12_goOn 277 = .ok (.aload_n 0, 1) := by decide +kernel
theorem dX12_goOn_278 : decode cX12_goOn 278 = .ok (.getfield 157, 3) := by decide +kernel
theorem dX12_goOn_281 : decode cX12_goOn 281 = .ok (.isub, 1) := by decide +kernel
theorem dX12_goOn_282 : decode cX12_goOn 282 = .ok (.iconst 4, 1) := by decide +kernel
theorem dX12_goOn_283 : decode cX12_goOn 283 = .ok (.if_icmp .ge 26, 3) := by decide +kernel
theorem dX12_goOn_286 : decode cX12_goOn 286 = .ok (.aload_n 0, 1) := by decide +kernel
theorem dX12_goOn_287 : decode cX12_goOn 287 = .ok (.bipush 10, 2) := by decide +kernel
theorem dX12_goOn_289 : decode cX12_goOn 289 = .ok (.aload_n 0, 1) := by decide +kernel
theorem dX12_goOn_290 : decode cX12_goOn 290 = .ok (.getfield 182, 3) := by decide +kernel
theorem dX12_goOn_293 : decode cX12_goOn 293 = .ok (.imul, 1) := by decide +kernel
theorem dX12_goOn_294 : decode cX12_goOn 294 = .ok (.aload_n 0, 1) := by decide +kernel
theorem dX12_goOn_295 : decode cX12_goOn 295 = .ok (.aload_n 0, 1) := by decide +kernel
theorem dX12_goOn_296 : decode cX12_goOn 296 = .ok (.getfield 154, 3) := by decide +kernel
theorem dX12_goOn_299 : decode cX12_goOn 299 = .ok (.invokevirtual 160, 3) := by decide +kernel
theorem dX12_goOn_302 : decode cX12_goOn 302 = .ok (.iadd, 1) := by decide +kernel
theorem dX12_goOn_303 : decode cX12_goOn 303 = .ok (.bipush 48, 2) := by decide +kernel
theorem dX12_goOn_305 : decode cX12_goOn 305 = .ok (.isub, 1) := by decide +kernel
theorem dX12_goOn_306 : decode cX12_goOn 306 = .ok (.putfield 182, 3) := by decide +kernel
theorem dX12_goOn_309 : decode cX12_goOn 309 = .ok (.aload_n 0, 1) := by decide +kernel
theorem dX12_goOn_310 : decode cX12_goOn 310 = .ok (.dup, 1) := by decide +kernel
theorem dX12_goOn_311 : decode cX12_goOn 311 = .ok (.getfield 154, 3) := by decide +kernel
theorem dX12_goOn_314 : decode cX12_goOn 314 = .ok (.iconst 1, 1) := by decide +kernel
theorem dX12_goOn_315 : decode cX12_goOn 315 = .ok (.iadd, 1) := by decide +kernel
theorem dX12_goOn_316 : decode cX12_goOn 316 = .ok (.putfield 154, 3) := by decide +kernel
theorem dX12_goOn_319 : decode cX12_goOn 319 = .ok (.goto (-60), 3) := by decide +kernel
theorem dX12_goOn_322 : decode cX12_goOn 322 = .ok (.aload_n 0, 1) := by decide +kernel
theorem dX12_goOn_323 : decode cX12_goOn 323 = .ok (.aload_n 0, 1) := by decide +kernel
theorem dX12_goOn_324 : decode cX12_goOn 324 = .ok (.getfield 154, 3) := by decide +kernel
theorem dX12_goOn_327 : decode cX12_goOn 327 = .ok (.aload_n 0, 1) := by decide +kernel
theorem dX12_goOn_328 : decode cX12_goOn 328 = .ok (.getfield 157, 3) := by decide +kernel
theorem dX12_goOn_331 : decode cX12_goOn 331 = .ok (.isub, 1) := by decide +kernel
theorem dX12_goOn_332 : decode cX12_goOn 332 = .ok (.iconst 4, 1) := by decide +kernel
theorem dX12_goOn_333 : decode cX12_goOn 333 = .ok (.if_icmp .gt 17, 3) := by decide +kernel
theorem dX12_goOn_336 : decode cX12_goOn 336 = .ok (.aload_n 0, 1) := by decide +kernel
theorem dX12_goOn_337 : decode cX12_goOn 337 = .ok (.aload_n 0, 1) := by decide +kernel
theorem dX12_goOn_338 : decode cX12_goOn 338 = .ok (.getfield 154, 3) := by decide +kernel
theorem dX12_goOn_341 : decode cX12_goOn 341 = .ok (.invokevirtual 160, 3) := by decide +kernel
theorem dX12_goOn_344 : decode cX12_goOn 344 = .ok (.invokestatic 167, 3) := by decide +kernel
theorem dX12_goOn_347 : decode cX12_goOn 347 = .ok (.ifCond .eq 7, 3) := by decide +kernel
theorem dX12_goOn_350 : decode cX12_goOn 350 = .ok (.iconst 1, 1) := by decide +kernel
theorem dX12_goOn_351 : decode cX12_goOn 351 = .ok (.goto 4, 3) := by decide +kernel
theorem dX12_goOn_354 : decode cX12_goOn 354 = .ok (.iconst 4, 1) := by decide +kernel
theorem dX12_goOn_355 : decode cX12_goOn 355 = .ok (.putfield 164, 3) := by decide +kernel
theorem dX12_goOn_358 : decode cX12_goOn 358 = .ok (.goto 18, 3) := by decide +kernel
theorem dX12_goOn_361 : decode cX12_goOn 361 = .ok (.aload_n 0, 1) := by decide +kernel
theorem dX12_goOn_362 : decode cX12_goOn 362 = .ok (.iload_n 1, 1) := by decide +kernel
theorem dX12_goOn_363 : decode cX12_goOn 363 = .ok (.bipush 59, 2) := by decide +kernel
theorem dX12_goOn_365 : decode cX12_goOn 365 = .ok (.if_icmp .ne 7, 3) := by decide +kernel
theorem dX12_goOn_368 : decode cX12_goOn 368 = .ok (.iconst 5, 1) := by decide +kernel
theorem dX12_goOn_369 : decode cX12_goOn 369 = .ok (.goto 4, 3) := by decide +kernel
theorem dX12_goOn_372 : decode cX12_goOn 372 = .ok (.iconst 1, 1) := by decide +kernel
theorem dX12_goOn_373 : decode cX12_goOn 373 = .ok (.putfield 164, 3) := by decide +kernel
theorem dX12_goOn_376 : decode cX12_goOn 376 = .ok (.return_, 1) := by decide +kernel
theorem dX12_isWord_0 : decode cX12_isWord 0 = .ok (.aload_n 0, 1) := by decide +kernel
theorem dX12_isWord_1 : decode cX12_isWord 1 = .ok (.getfield 164, 3) := by decide +kernel
theorem dX12_isWord_4 : decode cX12_isWord 4 = .ok (.iconst 3, 1) := by decide +kernel
theorem dX12_isWord_5 : decode cX12_isWord 5 = .ok (.if_icmp .ne 16, 3) := by decide +kernel
theorem dX12_isWord_8 : decode cX12_isWord 8 = .ok (.aload_n 0, 1) := by decide +kernel
theorem dX12_isWord_9 : decode cX12_isWord 9 = .ok (.getfield 171, 3) := by decide +kernel
theorem dX12_isWord_12 : decode cX12_isWord 12 = .ok (.lload_n 1, 1) := by decide +kernel
theorem dX12_isWord_13 : decode cX12_isWord 13 = .ok (.lcmp, 1) := by decide +kernel
theorem dX12_isWord_14 : decode cX12_isWord 14 = .ok (.ifCond .ne 7, 3) := by decide +kernel
theorem dX12_isWord_17 : decode cX12_isWord 17 = .ok (.iconst 1, 1) := by decide +kernel
theorem dX12_isWord_18 : decode cX12_isWord 18 = .ok (.goto 4, 3) := by decide +kernel
theorem dX12_isWord_21 : decode cX12_isWord 21 = .ok (.iconst 0, 1) := by decide +kernel
theorem dX12_isWord_22 : decode cX12_isWord 22 = .ok (.ireturn, 1) := by decide +kernel
theorem dX12_misplaced_0 : decode cX12_misplaced 0 = .ok (.aload_n 0, 1) := by decide +kernel
theorem dX12_misplaced_1 : decode cX12_misplaced 1 = .ok (.aload_n 0, 1) := by decide +kernel
theorem dX12_misplaced_2 : decode cX12_misplaced 2 = .ok (.getfield 164, 3) := by decide +kernel
theorem dX12_misplaced_5 : decode cX12_misplaced 5 = .ok (.iconst 1, 1) := by decide +kernel
theorem dX12_misplaced_6 : decode cX12_misplaced 6 = .ok (.if_icmp .ne 7, 3) := by decide +kernel
theorem dX12_misplaced_9 : decode cX12_misplaced 9 = .ok (.iconst 1, 1) := by decide +kernel
theorem dX12_misplaced_10 : decode cX12_misplaced 10 = .ok (.goto 4, 3) := by decide +kernel
theorem dX12_misplaced_13 : decode cX12_misplaced 13 = .ok (.iconst 2, 1) := by decide +kernel
theorem dX12_misplaced_14 : decode cX12_misplaced 14 = .ok (.aload_n 0, 1) := by decide +kernel
theorem dX12_misplaced_15 : decode cX12_misplaced 15 = .ok (.getfield 157, 3) := by decide +kernel
theorem dX12_misplaced_18 : decode cX12_misplaced 18 = .ok (.invokevirtual 185, 3) := by decide +kernel
theorem dX12_misplaced_21 : decode cX12_misplaced 21 = .ok (.return_, 1) := by decide +kernel
theorem dX12_must_0 : decode cX12_must 0 = .ok (.aload_n 0, 1) := by decide +kernel
theorem dX12_must_1 : decode cX12_must 1 = .ok (.invokevirtual 189, 3) := by decide +kernel
theorem dX12_must_4 : decode cX12_must 4 = .ok (.ifCond .ne 4, 3) := by decide +kernel
theorem dX12_must_7 : decode cX12_must 7 = .ok (.return_, 1) := by decide +kernel
theorem dX12_must_8 : decode cX12_must 8 = .ok (.iload_n 1, 1) := by decide +kernel
theorem dX12_must_9 : decode cX12_must 9 = .ok (.ifCond .eq 10, 3) := by decide +kernel
theorem dX12_must_12 : decode cX12_must 12 = .ok (.aload_n 0, 1) := by decide +kernel
theorem dX12_must_13 : decode cX12_must 13 = .ok (.invokevirtual 193, 3) := by decide +kernel
theorem dX12_must_16 : decode cX12_must 16 = .ok (.goto 7, 3) := by decide +kernel
theorem dX12_must_19 : decode cX12_must 19 = .ok (.aload_n 0, 1) := by decide +kernel
theorem dX12_must_20 : decode cX12_must 20 = .ok (.invokevirtual 196, 3) := by decide +kernel
theorem dX12_must_23 : decode cX12_must 23 = .ok (.return_, 1) := by decide +kernel
theorem dX12_numeral_0 : decode cX12_numeral 0 = .ok (.aload_n 0, 1) := by decide +kernel
theorem dX12_numeral_1 : decode cX12_numeral 1 = .ok (.invokevirtual 189, 3) := by decide +kernel
theorem dX12_numeral_4 : decode cX12_numeral 4 = .ok (.ifCond .ne 5, 3) := by decide +kernel
theorem dX12_numeral_7 : decode cX12_numeral 7 = .ok (.iload_n 1, 1) := by decide +kernel
theorem dX12_numeral_8 : decode cX12_numeral 8 = .ok (.ireturn, 1) := by decide +kernel
theorem dX12_numeral_9 : decode cX12_numeral 9 = .ok (.aload_n 0, 1) := by decide +kernel
theorem dX12_numeral_10 : decode cX12_numeral 10 = .ok (.getfield 164, 3) := by decide +kernel
theorem dX12_numeral_13 : decode cX12_numeral 13 = .ok (.iconst 4, 1) := by decide +kernel
theorem dX12_numeral_14 : decode cX12_numeral 14 = .ok (.if_icmp .eq 7, 3) := by decide +kernel
theorem dX12_numeral_17 : decode cX12_numeral 17 = .ok (.aload_n 0, 1) := by decide +kernel
theorem dX12_numeral_18 : decode cX12_numeral 18 = .ok (.invokevirtual 196, 3) := by decide +kernel
theorem dX12_numeral_21 : decode cX12_numeral 21 = .ok (.aload_n 0, 1) := by decide +kernel
theorem dX12_numeral_22 : decode cX12_numeral 22 = .ok (.invokevirtual 189, 3) := by decide +kernel
theorem dX12_numeral_25 : decode cX12_numeral 25 = .ok (.ifCond .eq 28, 3) := by decide +kernel
theorem dX12_numeral_28 : decode cX12_numeral 28 = .ok (.aload_n 0, 1) := by decide +kernel
theorem dX12_numeral_29 : decode cX12_numeral 29 = .ok (.getfield 182, 3) := by decide +kernel
theorem dX12_numeral_32 : decode cX12_numeral 32 = .ok (.iload_n 1, 1) := by decide +kernel
theorem dX12_numeral_33 : decode cX12_numeral 33 = .ok (.if_icmp .lt 11, 3) := by decide +kernel
theorem dX12_numeral_36 : decode cX12_numeral 36 = .ok (.aload_n 0, 1) := by decide +kernel
theorem dX12_numeral_37 : decode cX12_numeral 37 = .ok (.getfield 182, 3) := by decide +kernel
theorem dX12_numeral_40 : decode cX12_numeral 40 = .ok (.iload_n 2, 1) := by decide +kernel
theorem dX12_numeral_41 : decode cX12_numeral 41 = .ok (.if_icmp .le 12, 3) := by decide +kernel
theorem dX12_numeral_44 : decode cX12_numeral 44 = .ok (.aload_n 0, 1) := by decide +kernel
theorem dX12_numeral_45 : decode cX12_numeral 45 = .ok (.iconst 4, 1) := by decide +kernel
theorem dX12_numeral_46 : decode cX12_numeral 46 = .ok (.aload_n 0, 1) := by decide +kernel
theorem dX12_numeral_47 : decode cX12_numeral 47 = .ok (.getfield 157, 3) := by decide +kernel
theorem dX12_numeral_50 : decode cX12_numeral 50 = .ok (.invokevirtual 185, 3) := by decide +kernel
theorem dX12_numeral_53 : decode cX12_numeral 53 = .ok (.aload_n 0, 1) := by decide +kernel
theorem dX12_numeral_54 : decode cX12_numeral 54 = .ok (.getfield 182, 3) := by decide +kernel
theorem dX12_numeral_57 : decode cX12_numeral 57 = .ok (.istore_n 3, 1) := by decide +kernel
theorem dX12_numeral_58 : decode cX12_numeral 58 = .ok (.aload_n 0, 1) := by decide +kernel
theorem dX12_numeral_59 : decode cX12_numeral 59 = .ok (.invokevirtual 189, 3) := by decide +kernel
theorem dX12_numeral_62 : decode cX12_numeral 62 = .ok (.ifCond .eq 7, 3) := by decide +kernel
theorem dX12_numeral_65 : decode cX12_numeral 65 = .ok (.aload_n 0, 1) := by decide +kernel
theorem dX12_numeral_66 : decode cX12_numeral 66 = .ok (.invokevirtual 193, 3) := by decide +kernel
theorem dX12_numeral_69 : decode cX12_numeral 69 = .ok (.aload_n 0, 1) := by decide +kernel
theorem dX12_numeral_70 : decode cX12_numeral 70 = .ok (.invokevirtual 189, 3) := by decide +kernel
theorem dX12_numeral_73 : decode cX12_numeral 73 = .ok (.ifCond .eq 7, 3) := by decide +kernel
theorem dX12_numeral_76 : decode cX12_numeral 76 = .ok (.iload_n 3, 1) := by decide +kernel
theorem dX12_numeral_77 : decode cX12_numeral 77 = .ok (.goto 4, 3) := by decide +kernel
theorem dX12_numeral_80 : decode cX12_numeral 80 = .ok (.iload_n 1, 1) := by decide +kernel
theorem dX12_numeral_81 : decode cX12_numeral 81 = .ok (.ireturn, 1) := by decide +kernel
theorem dX12_clearBank_0 : decode cX12_clearBank 0 = .ok (.aload_n 0, 1) := by decide +kernel
theorem dX12_clearBank_1 : decode cX12_clearBank 1 = .ok (.getfield 20, 3) := by decide +kernel
theorem dX12_clearBank_4 : decode cX12_clearBank 4 = .ok (.aload_n 0, 1) := by decide +kernel
theorem dX12_clearBank_5 : decode cX12_clearBank 5 = .ok (.getfield 199, 3) := by decide +kernel
theorem dX12_clearBank_8 : decode cX12_clearBank 8 = .ok (.iconst 0, 1) := by decide +kernel
theorem dX12_clearBank_9 : decode cX12_clearBank 9 = .ok (.iastore, 1) := by decide +kernel
theorem dX12_clearBank_10 : decode cX12_clearBank 10 = .ok (.aload_n 0, 1) := by decide +kernel
theorem dX12_clearBank_11 : decode cX12_clearBank 11 = .ok (.getfield 24, 3) := by decide +kernel
theorem dX12_clearBank_14 : decode cX12_clearBank 14 = .ok (.aload_n 0, 1) := by decide +kernel
theorem dX12_clearBank_15 : decode cX12_clearBank 15 = .ok (.getfield 199, 3) := by decide +kernel
theorem dX12_clearBank_18 : decode cX12_clearBank 18 = .ok (.iconst 0, 1) := by decide +kernel
theorem dX12_clearBank_19 : decode cX12_clearBank 19 = .ok (.iastore, 1) := by decide +kernel
theorem dX12_clearBank_20 : decode cX12_clearBank 20 = .ok (.aload_n 0, 1) := by decide +kernel
theorem dX12_clearBank_21 : decode cX12_clearBank 21 = .ok (.getfield 27, 3) := by decide +kernel
theorem dX12_clearBank_24 : decode cX12_clearBank 24 = .ok (.aload_n 0, 1) := by decide +kernel
theorem dX12_clearBank_25 : decode cX12_clearBank 25 = .ok (.getfield 199, 3) := by decide +kernel
theorem dX12_clearBank_28 : decode cX12_clearBank 28 = .ok (.iconst 0, 1) := by decide +kernel
theorem dX12_clearBank_29 : decode cX12_clearBank 29 = .ok (.iastore, 1) := by decide +kernel
theorem dX12_clearBank_30 : decode cX12_clearBank 30 = .ok (.aload_n 0, 1) := by decide +kernel
theorem dX12_clearBank_31 : decode cX12_clearBank 31 = .ok (.getfield 30, 3) := by decide +kernel
theorem dX12_clearBank_34 : decode cX12_clearBank 34 = .ok (.aload_n 0, 1) := by decide +kernel
theorem dX12_clearBank_35 : decode cX12_clearBank 35 = .ok (.getfield 199, 3) := by decide +kernel
theorem dX12_clearBank_38 : decode cX12_clearBank 38 = .ok (.iconst 0, 1) := by decide +kernel
theorem dX12_clearBank_39 : decode cX12_clearBank 39 = .ok (.iastore, 1) := by decide +kernel
theorem dX12_clearBank_40 : decode cX12_clearBank 40 = .ok (.aload_n 0, 1) := by decide +kernel
theorem dX12_clearBank_41 : decode cX12_clearBank 41 = .ok (.getfield 33, 3) := by decide +kernel
theorem dX12_clearBank_44 : decode cX12_clearBank 44 = .ok (.aload_n 0, 1) := by decide +kernel
theorem dX12_clearBank_45 : decode cX12_clearBank 45 = .ok (.getfield 199, 3) := by decide +kernel
theorem dX12_clearBank_48 : decode cX12_clearBank 48 = .ok (.iconst (-1), 1) := by decide +kernel
theorem dX12_clearBank_49 : decode cX12_clearBank 49 = .ok (.iastore, 1) := by decide +kernel
theorem dX12_clearBank_50 : decode cX12_clearBank 50 = .ok (.aload_n 0, 1) := by decide +kernel
theorem dX12_clearBank_51 : decode cX12_clearBank 51 = .ok (.getfield 52, 3) := by decide +kernel
theorem dX12_clearBank_54 : decode cX12_clearBank 54 = .ok (.aload_n 0, 1) := by decide +kernel
theorem dX12_clearBank_55 : decode cX12_clearBank 55 = .ok (.getfield 199, 3) := by decide +kernel
theorem dX12_clearBank_58 : decode cX12_clearBank 58 = .ok (.iconst 0, 1) := by decide +kernel
theorem dX12_clearBank_59 : decode cX12_clearBank 59 = .ok (.bastore, 1) := by decide +kernel
theorem dX12_clearBank_60 : decode cX12_clearBank 60 = .ok (.bipush 80, 2) := by decide +kernel
theorem dX12_clearBank_62 : decode cX12_clearBank 62 = .ok (.aload_n 0, 1) := by decide +kernel
theorem dX12_clearBank_63 : decode cX12_clearBank 63 = .ok (.getfield 199, 3) := by decide +kernel
theorem dX12_clearBank_66 : decode cX12_clearBank 66 = .ok (.imul, 1) := by decide +kernel
theorem dX12_clearBank_67 : decode cX12_clearBank 67 = .ok (.istore_n 1, 1) := by decide +kernel
theorem dX12_clearBank_68 : decode cX12_clearBank 68 = .ok (.iload_n 1, 1) := by decide +kernel
theorem dX12_clearBank_69 : decode cX12_clearBank 69 = .ok (.bipush 80, 2) := by decide +kernel
theorem dX12_clearBank_71 : decode cX12_clearBank 71 = .ok (.aload_n 0, 1) := by decide +kernel
theorem dX12_clearBank_72 : decode cX12_clearBank 72 = .ok (.getfield 199, 3) := by decide +kernel
theorem dX12_clearBank_75 : decode cX12_clearBank 75 = .ok (.imul, 1) := by decide +kernel
theorem dX12_clearBank_76 : decode cX12_clearBank 76 = .ok (.bipush 80, 2) := by decide +kernel
theorem dX12_clearBank_78 : decode cX12_clearBank 78 = .ok (.iadd, 1) := by decide +kernel
theorem dX12_clearBank_79 : decode cX12_clearBank 79 = .ok (.if_icmp .ge 23, 3) := by decide +kernel
theorem dX12_clearBank_82 : decode cX12_clearBank 82 = .ok (.aload_n 0, 1) := by decide +kernel
theorem dX12_clearBank_83 : decode cX12_clearBank 83 = .ok (.getfield 42, 3) := by decide +kernel
theorem dX12_clearBank_86 : decode cX12_clearBank 86 = .ok (.iload_n 1, 1) := by decide +kernel
theorem dX12_clearBank_87 : decode cX12_clearBank 87 = .ok (.iconst 0, 1) := by decide +kernel
theorem dX12_clearBank_88 : decode cX12_clearBank 88 = .ok (.iastore, 1) := by decide +kernel
theorem dX12_clearBank_89 : decode cX12_clearBank 89 = .ok (.aload_n 0, 1) := by decide +kernel
theorem dX12_clearBank_90 : decode cX12_clearBank 90 = .ok (.getfield 49, 3) := by decide +kernel
theorem dX12_clearBank_93 : decode cX12_clearBank 93 = .ok (.iload_n 1, 1) := by decide +kernel
theorem dX12_clearBank_94 : decode cX12_clearBank 94 = .ok (.iconst 0, 1) := by decide +kernel
theorem dX12_clearBank_95 : decode cX12_clearBank 95 = .ok (.bastore, 1) := by decide +kernel
theorem dX12_clearBank_96 : decode cX12_clearBank 96 = .ok (.iinc 1 1, 3) := by decide +kernel
theorem dX12_clearBank_99 : decode cX12_clearBank 99 = .ok (.goto (-31), 3) := by decide +kernel
theorem dX12_clearBank_102 : decode cX12_clearBank 102 = .ok (.return_, 1) := by decide +kernel
theorem dX12_yard_0 : decode cX12_yard 0 = .ok (.aload_n 0, 1) := by decide +kernel
theorem dX12_yard_1 : decode cX12_yard 1 = .ok (.iconst 0, 1) := by decide +kernel
theorem dX12_yard_2 : decode cX12_yard 2 = .ok (.putfield 137, 3) := by decide +kernel
theorem dX12_yard_5 : decode cX12_yard 5 = .ok (.aload_n 0, 1) := by decide +kernel
theorem dX12_yard_6 : decode cX12_yard 6 = .ok (.iconst (-1), 1) := by decide +kernel
theorem dX12_yard_7 : decode cX12_yard 7 = .ok (.putfield 16, 3) := by decide +kernel
theorem dX12_yard_10 : decode cX12_yard 10 = .ok (.aload_n 0, 1) := by decide +kernel
theorem dX12_yard_11 : decode cX12_yard 11 = .ok (.aload_n 0, 1) := by decide +kernel
theorem dX12_yard_12 : decode cX12_yard 12 = .ok (.getfield 202, 3) := by decide +kernel
theorem dX12_yard_15 : decode cX12_yard 15 = .ok (.putfield 134, 3) := by decide +kernel
theorem dX12_yard_18 : decode cX12_yard 18 = .ok (.iconst 0, 1) := by decide +kernel
theorem dX12_yard_19 : decode cX12_yard 19 = .ok (.istore_n 1, 1) := by decide +kernel
theorem dX12_yard_20 : decode cX12_yard 20 = .ok (.iload_n 1, 1) := by decide +kernel
theorem dX12_yard_21 : decode cX12_yard 21 = .ok (.aload_n 0, 1) := by decide +kernel
theorem dX12_yard_22 : decode cX12_yard 22 = .ok (.getfield 134, 3) := by decide +kernel
theorem dX12_yard_25 : decode cX12_yard 25 = .ok (.if_icmp .ge 21, 3) := by decide +kernel
theorem dX12_yard_28 : decode cX12_yard 28 = .ok (.aload_n 0, 1) := by decide +kernel
theorem dX12_yard_29 : decode cX12_yard 29 = .ok (.getfield 13, 3) := by decide +kernel
theorem dX12_yard_32 : decode cX12_yard 32 = .ok (.iload_n 1, 1) := by decide +kernel
theorem dX12_yard_33 : decode cX12_yard 33 = .ok (.aload_n 0, 1) := by decide +kernel
theorem dX12_yard_34 : decode cX12_yard 34 = .ok (.getfield 7, 3) := by decide +kernel
theorem dX12_yard_37 : decode cX12_yard 37 = .ok (.iload_n 1, 1) := by decide +kernel
theorem dX12_yard_38 : decode cX12_yard 38 = .ok (.baload, 1) := by decide +kernel
theorem dX12_yard_39 : decode cX12_yard 39 = .ok (.bastore, 1) := by decide +kernel
theorem dX12_yard_40 : decode cX12_yard 40 = .ok (.iinc 1 1, 3) := by decide +kernel
theorem dX12_yard_43 : decode cX12_yard 43 = .ok (.goto (-23), 3) := by decide +kernel
theorem dX12_yard_46 : decode cX12_yard 46 = .ok (.aload_n 0, 1) := by decide +kernel
theorem dX12_yard_47 : decode cX12_yard 47 = .ok (.iconst 0, 1) := by decide +kernel
theorem dX12_yard_48 : decode cX12_yard 48 = .ok (.putfield 202, 3) := by decide +kernel
theorem dX12_yard_51 : decode cX12_yard 51 = .ok (.aload_n 0, 1) := by decide +kernel
theorem dX12_yard_52 : decode cX12_yard 52 = .ok (.iconst 0, 1) := by decide +kernel
theorem dX12_yard_53 : decode cX12_yard 53 = .ok (.putfield 154, 3) := by decide +kernel
theorem dX12_yard_56 : decode cX12_yard 56 = .ok (.aload_n 0, 1) := by decide +kernel
theorem dX12_yard_57 : decode cX12_yard 57 = .ok (.iconst 1, 1) := by decide +kernel
theorem dX12_yard_58 : decode cX12_yard 58 = .ok (.aload_n 0, 1) := by decide +kernel
theorem dX12_yard_59 : decode cX12_yard 59 = .ok (.getfield 205, 3) := by decide +kernel
theorem dX12_yard_62 : decode cX12_yard 62 = .ok (.isub, 1) := by decide +kernel
theorem dX12_yard_63 : decode cX12_yard 63 = .ok (.putfield 199, 3) := by decide +kernel
theorem dX12_yard_66 : decode cX12_yard 66 = .ok (.aload_n 0, 1) := by decide +kernel
theorem dX12_yard_67 : decode cX12_yard 67 = .ok (.invokevirtual 128, 3) := by decide +kernel
theorem dX12_yard_70 : decode cX12_yard 70 = .ok (.aload_n 0, 1) := by decide +kernel
theorem dX12_yard_71 : decode cX12_yard 71 = .ok (.invokevirtual 193, 3) := by decide +kernel
theorem dX12_yard_74 : decode cX12_yard 74 = .ok (.aload_n 0, 1) := by decide +kernel
theorem dX12_yard_75 : decode cX12_yard 75 = .ok (.invokevirtual 189, 3) := by decide +kernel
theorem dX12_yard_78 : decode cX12_yard 78 = .ok (.ifCond .eq 17, 3) := by decide +kernel
theorem dX12_yard_81 : decode cX12_yard 81 = .ok (.aload_n 0, 1) := by decide +kernel
theorem dX12_yard_82 : decode cX12_yard 82 = .ok (.getfield 164, 3) := by decide +kernel
theorem dX12_yard_85 : decode cX12_yard 85 = .ok (.ifCond .eq 10, 3) := by decide +kernel
theorem dX12_yard_88 : decode cX12_yard 88 = .ok (.aload_n 0, 1) := by decide +kernel
theorem dX12_yard_89 : decode cX12_yard 89 = .ok (.invokevirtual 208, 3) := by decide +kernel
theorem dX12_yard_92 : decode cX12_yard 92 = .ok (.goto (-18), 3) := by decide +kernel
theorem dX12_yard_95 : decode cX12_yard 95 = .ok (.aload_n 0, 1) := by decide +kernel
theorem dX12_yard_96 : decode cX12_yard 96 = .ok (.invokevirtual 189, 3) := by decide +kernel
theorem dX12_yard_99 : decode cX12_yard 99 = .ok (.ifCond .ne 5, 3) := by decide +kernel
theorem dX12_yard_102 : decode cX12_yard 102 = .ok (.iconst (-1), 1) := by decide +kernel
theorem dX12_yard_103 : decode cX12_yard 103 = .ok (.ireturn, 1) := by decide +kernel
theorem dX12_yard_104 : decode cX12_yard 104 = .ok (.aload_n 0, 1) := by decide +kernel
theorem dX12_yard_105 : decode cX12_yard 105 = .ok (.aload_n 0, 1) := by decide +kernel
theorem dX12_yard_106 : decode cX12_yard 106 = .ok (.getfield 199, 3) := by decide +kernel
theorem dX12_yard_109 : decode cX12_yard 109 = .ok (.putfield 205, 3) := by decide +kernel
theorem dX12_yard_112 : decode cX12_yard 112 = .ok (.aload_n 0, 1) := by decide +kernel
theorem dX12_yard_113 : decode cX12_yard 113 = .ok (.iconst 0, 1) := by decide +kernel
theorem dX12_yard_114 : decode cX12_yard 114 = .ok (.putfield 211, 3) := by decide +kernel
theorem dX12_yard_117 : decode cX12_yard 117 = .ok (.aload_n 0, 1) := by decide +kernel
theorem dX12_yard_118 : decode cX12_yard 118 = .ok (.iconst 0, 1) := by decide +kernel
theorem dX12_yard_119 : decode cX12_yard 119 = .ok (.putfield 214, 3) := by decide +kernel
theorem dX12_yard_122 : decode cX12_yard 122 = .ok (.iconst 0, 1) := by decide +kernel
theorem dX12_yard_123 : decode cX12_yard 123 = .ok (.istore_n 1, 1) := by decide +kernel
theorem dX12_yard_124 : decode cX12_yard 124 = .ok (.iload_n 1, 1) := by decide +kernel
theorem dX12_yard_125 : decode cX12_yard 125 = .ok (.iconst 3, 1) := by decide +kernel
theorem dX12_yard_126 : decode cX12_yard 126 = .ok (.if_icmp .ge 16, 3) := by decide +kernel
theorem dX12_yard_129 : decode cX12_yard 129 = .ok (.aload_n 0, 1) := by decide +kernel
theorem dX12_yard_130 : decode cX12_yard 130 = .ok (.getfield 122, 3) := by decide +kernel
theorem dX12_yard_133 : decode cX12_yard 133 = .ok (.iload_n 1, 1) := by decide +kernel
theorem dX12_yard_134 : decode cX12_yard 134 = .ok (.iconst (-1), 1) := by decide +kernel
theorem dX12_yard_135 : decode cX12_yard 135 = .ok (.iastore, 1) := by decide +kernel
theorem dX12_yard_136 : decode cX12_yard 136 = .ok (.iinc 1 1, 3) := by decide +kernel
theorem dX12_yard_139 : decode cX12_yard 139 = .ok (.goto (-15), 3) := by decide +kernel
theorem dX12_yard_142 : decode cX12_yard 142 = .ok (.aload_n 0, 1) := by decide +kernel
theorem dX12_yard_143 : decode cX12_yard 143 = .ok (.invokevirtual 131, 3) := by decide +kernel
theorem dX12_yard_146 : decode cX12_yard 146 = .ok (.aload_n 0, 1) := by decide +kernel
theorem dX12_yard_147 : decode cX12_yard 147 = .ok (.getfield 20, 3) := by decide +kernel
theorem dX12_yard_150 : decode cX12_yard 150 = .ok (.aload_n 0, 1) := by decide +kernel
theorem dX12_yard_151 : decode cX12_yard 151 = .ok (.getfield 205, 3) := by decide +kernel
theorem dX12_yard_154 : decode cX12_yard 154 = .ok (.iaload, 1) := by decide +kernel
theorem dX12_yard_155 : decode cX12_yard 155 = .ok (.ireturn, 1) := by decide +kernel
theorem dX12_isFull_0 : decode cX12_isFull 0 = .ok (.aload_n 0, 1) := by decide +kernel
theorem dX12_isFull_1 : decode cX12_isFull 1 = .ok (.ldc2_w 140, 3) := by decide +kernel
theorem dX12_isFull_4 : decode cX12_isFull 4 = .ok (.invokevirtual 217, 3) := by decide +kernel
theorem dX12_isFull_7 : decode cX12_isFull 7 = .ok (.ifCond .eq 23, 3) := by decide +kernel
theorem dX12_isFull_10 : decode cX12_isFull 10 = .ok (.aload_n 0, 1) := by decide +kernel
theorem dX12_isFull_11 : decode cX12_isFull 11 = .ok (.getfield 20, 3) := by decide +kernel
theorem dX12_isFull_14 : decode cX12_isFull 14 = .ok (.aload_n 0, 1) := by decide +kernel
theorem dX12_isFull_15 : decode cX12_isFull 15 = .ok (.getfield 199, 3) := by decide +kernel
theorem dX12_isFull_18 : decode cX12_isFull 18 = .ok (.iaload, 1) := by decide +kernel
theorem dX12_isFull_19 : decode cX12_isFull 19 = .ok (.bipush 8, 2) := by decide +kernel
theorem dX12_isFull_21 : decode cX12_isFull 21 = .ok (.if_icmp .ne 7, 3) := by decide +kernel
theorem dX12_isFull_24 : decode cX12_isFull 24 = .ok (.iconst 1, 1) := by decide +kernel
theorem dX12_isFull_25 : decode cX12_isFull 25 = .ok (.goto 4, 3) := by decide +kernel
theorem dX12_isFull_28 : decode cX12_isFull 28 = .ok (.iconst 0, 1) := by decide +kernel
theorem dX12_isFull_29 : decode cX12_isFull 29 = .ok (.ireturn, 1) := by decide +kernel
theorem dX12_isFull_30 : decode cX12_isFull 30 = .ok (.aload_n 0, 1) := by decide +kernel
theorem dX12_isFull_31 : decode cX12_isFull 31 = .ok (.ldc2_w 146, 3) := by decide +kernel
theorem dX12_isFull_34 : decode cX12_isFull 34 = .ok (.invokevirtual 217, 3) := by decide +kernel
theorem dX12_isFull_37 : decode cX12_isFull 37 = .ok (.ifCond .eq 23, 3) := by decide +kernel
theorem dX12_isFull_40 : decode cX12_isFull 40 = .ok (.aload_n 0, 1) := by decide +kernel
theorem dX12_isFull_41 : decode cX12_isFull 41 = .ok (.getfield 24, 3) := by decide +kernel
theorem dX12_isFull_44 : decode cX12_isFull 44 = .ok (.aload_n 0, 1) := by decide +kernel
theorem dX12_isFull_45 : decode cX12_isFull 45 = .ok (.getfield 199, 3) := by decide +kernel
theorem dX12_isFull_48 : decode cX12_isFull 48 = .ok (.iaload, 1) := by decide +kernel
theorem dX12_isFull_49 : decode cX12_isFull 49 = .ok (.bipush 10, 2) := by decide +kernel
theorem dX12_isFull_51 : decode cX12_isFull 51 = .ok (.if_icmp .ne 7, 3) := by decide +kernel
theorem dX12_isFull_54 : decode cX12_isFull 54 = .ok (.iconst 1, 1) := by decide +kernel
theorem dX12_isFull_55 : decode cX12_isFull 55 = .ok (.goto 4, 3) := by decide +kernel
theorem dX12_isFull_58 : decode cX12_isFull 58 = .ok (.iconst 0, 1) := by decide +kernel
theorem dX12_isFull_59 : decode cX12_isFull 59 = .ok (.ireturn, 1) := by decide +kernel
theorem dX12_isFull_60 : decode cX12_isFull 60 = .ok (.aload_n 0, 1) := by decide +kernel
theorem dX12_isFull_61 : decode cX12_isFull 61 = .ok (.ldc2_w 148, 3) := by decide +kernel
theorem dX12_isFull_64 : decode cX12_isFull 64 = .ok (.invokevirtual 217, 3) := by decide +kernel
theorem dX12_isFull_67 : decode cX12_isFull 67 = .ok (.ifCond .eq 23, 3) := by decide +kernel
theorem dX12_isFull_70 : decode cX12_isFull 70 = .ok (.aload_n 0, 1) := by decide +kernel
theorem dX12_isFull_71 : decode cX12_isFull 71 = .ok (.getfield 27, 3) := by decide +kernel
theorem dX12_isFull_74 : decode cX12_isFull 74 = .ok (.aload_n 0, 1) := by decide +kernel
theorem dX12_isFull_75 : decode cX12_isFull 75 = .ok (.getfield 199, 3) := by decide +kernel
theorem dX12_isFull_78 : decode cX12_isFull 78 = .ok (.iaload, 1) := by decide +kernel
theorem dX12_isFull_79 : decode cX12_isFull 79 = .ok (.bipush 60, 2) := by decide +kernel
theorem dX12_isFull_81 : decode cX12_isFull 81 = .ok (.if_icmp .ne 7, 3) := by decide +kernel
theorem dX12_isFull_84 : decode cX12_isFull 84 = .ok (.iconst 1, 1) := by decide +kernel
theorem dX12_isFull_85 : decode cX12_isFull 85 = .ok (.goto 4, 3) := by decide +kernel
theorem dX12_isFull_88 : decode cX12_isFull 88 = .ok (.iconst 0, 1) := by decide +kernel
theorem dX12_isFull_89 : decode cX12_isFull 89 = .ok (.ireturn, 1) := by decide +kernel
theorem dX12_isFull_90 : decode cX12_isFull 90 = .ok (.aload_n 0, 1) := by decide +kernel
theorem dX12_isFull_91 : decode cX12_isFull 91 = .ok (.ldc2_w 150, 3) := by decide +kernel
theorem dX12_isFull_94 : decode cX12_isFull 94 = .ok (.invokevirtual 217, 3) := by decide +kernel
theorem dX12_isFull_97 : decode cX12_isFull 97 = .ok (.ifCond .eq 23, 3) := by decide +kernel
theorem dX12_isFull_100 : decode cX12_isFull 100 = .ok (.aload_n 0, 1) := by decide +kernel
theorem dX12_isFull_101 : decode cX12_isFull 101 = .ok (.getfield 30, 3) := by decide +kernel
theorem dX12_isFull_104 : decode cX12_isFull 104 = .ok (.aload_n 0, 1) := by decide +kernel
theorem dX12_isFull_105 : decode cX12_isFull 105 = .ok (.getfield 199, 3) := by decide +kernel
theorem dX12_isFull_108 : decode cX12_isFull 108 = .ok (.iaload, 1) := by decide +kernel
theorem dX12_isFull_109 : decode cX12_isFull 109 = .ok (.bipush 20, 2) := by decide +kernel
theorem dX12_isFull_111 : decode cX12_isFull 111 = .ok (.if_icmp .ne 7, 3) := by decide +kernel
theorem dX12_isFull_114 : decode cX12_isFull 114 = .ok (.iconst 1, 1) := by decide +kernel
theorem dX12_isFull_115 : decode cX12_isFull 115 = .ok (.goto 4, 3) := by decide +kernel
theorem dX12_isFull_118 : decode cX12_isFull 118 = .ok (.iconst 0, 1) := by decide +kernel
theorem dX12_isFull_119 : decode cX12_isFull 119 = .ok (.ireturn, 1) := by decide +kernel
theorem dX12_isFull_120 : decode cX12_isFull 120 = .ok (.aload_n 0, 1) := by decide +kernel
theorem dX12_isFull_121 : decode cX12_isFull 121 = .ok (.ldc2_w 152, 3) := by decide +kernel
theorem dX12_isFull_124 : decode cX12_isFull 124 = .ok (.invokevirtual 217, 3) := by decide +kernel
theorem dX12_isFull_127 : decode cX12_isFull 127 = .ok (.ifCond .eq 15, 3) := by decide +kernel
theorem dX12_isFull_130 : decode cX12_isFull 130 = .ok (.aload_n 0, 1) := by decide +kernel
theorem dX12_isFull_131 : decode cX12_isFull 131 = .ok (.getfield 52, 3) := by decide +kernel
theorem dX12_isFull_134 : decode cX12_isFull 134 = .ok (.aload_n 0, 1) := by decide +kernel
theorem dX12_isFull_135 : decode cX12_isFull 135 = .ok (.getfield 199, 3) := by decide +kernel
theorem dX12_isFull_138 : decode cX12_isFull 138 = .ok (.baload, 1) := by decide +kernel
theorem dX12_isFull_139 : decode cX12_isFull 139 = .ok (.ifCond .eq 7, 3) := by decide +kernel
theorem dX12_isFull_142 : decode cX12_isFull 142 = .ok (.iconst 1, 1) := by decide +kernel
theorem dX12_isFull_143 : decode cX12_isFull 143 = .ok (.goto 4, 3) := by decide +kernel
theorem dX12_isFull_146 : decode cX12_isFull 146 = .ok (.iconst 0, 1) := by decide +kernel
theorem dX12_isFull_147 : decode cX12_isFull 147 = .ok (.ireturn, 1) := by decide +kernel
theorem dX12_readLine_0 : decode cX12_readLine 0 = .ok (.aload_n 0, 1) := by decide +kernel
theorem dX12_readLine_1 : decode cX12_readLine 1 = .ok (.getfield 171, 3) := by decide +kernel
theorem dX12_readLine_4 : decode cX12_readLine 4 = .ok (.lstore_n 1, 1) := by decide +kernel
theorem dX12_readLine_5 : decode cX12_readLine 5 = .ok (.aload_n 0, 1) := by decide +kernel
theorem dX12_readLine_6 : decode cX12_readLine 6 = .ok (.getfield 164, 3) := by decide +kernel
theorem dX12_readLine_9 : decode cX12_readLine 9 = .ok (.iconst 3, 1) := by decide +kernel
theorem dX12_readLine_10 : decode cX12_readLine 10 = .ok (.if_icmp .ne 10, 3) := by decide +kernel
theorem dX12_readLine_13 : decode cX12_readLine 13 = .ok (.aload_n 0, 1) := by decide +kernel
theorem dX12_readLine_14 : decode cX12_readLine 14 = .ok (.invokevirtual 220, 3) := by decide +kernel
theorem dX12_readLine_17 : decode cX12_readLine 17 = .ok (.ifCond .eq 7, 3) := by decide +kernel
theorem dX12_readLine_20 : decode cX12_readLine 20 = .ok (.aload_n 0, 1) := by decide +kernel
theorem dX12_readLine_21 : decode cX12_readLine 21 = .ok (.invokevirtual 196, 3) := by decide +kernel
theorem dX12_readLine_24 : decode cX12_readLine 24 = .ok (.aload_n 0, 1) := by decide +kernel
theorem dX12_readLine_25 : decode cX12_readLine 25 = .ok (.invokevirtual 189, 3) := by decide +kernel
theorem dX12_readLine_28 : decode cX12_readLine 28 = .ok (.ifCond .ne 4, 3) := by decide +kernel
theorem dX12_readLine_31 : decode cX12_readLine 31 = .ok (.return_, 1) := by decide +kernel
theorem dX12_readLine_32 : decode cX12_readLine 32 = .ok (.aload_n 0, 1) := by decide +kernel
theorem dX12_readLine_33 : decode cX12_readLine 33 = .ok (.invokevirtual 193, 3) := by decide +kernel
theorem dX12_readLine_36 : decode cX12_readLine 36 = .ok (.lload_n 1, 1) := by decide +kernel
theorem dX12_readLine_37 : decode cX12_readLine 37 = .ok (.ldc2_w 140, 3) := by decide +kernel
theorem dX12_readLine_40 : decode cX12_readLine 40 = .ok (.lcmp, 1) := by decide +kernel
theorem dX12_readLine_41 : decode cX12_readLine 41 = .ok (.ifCond .ne 7, 3) := by decide +kernel
theorem dX12_readLine_44 : decode cX12_readLine 44 = .ok (.aload_n 0, 1) := by decide +kernel
theorem dX12_readLine_45 : decode cX12_readLine 45 = .ok (.invokevirtual 223, 3) := by decide +kernel
theorem dX12_readLine_48 : decode cX12_readLine 48 = .ok (.lload_n 1, 1) := by decide +kernel
theorem dX12_readLine_49 : decode cX12_readLine 49 = .ok (.ldc2_w 146, 3) := by decide +kernel
theorem dX12_readLine_52 : decode cX12_readLine 52 = .ok (.lcmp, 1) := by decide +kernel
theorem dX12_readLine_53 : decode cX12_readLine 53 = .ok (.ifCond .ne 7, 3) := by decide +kernel
theorem dX12_readLine_56 : decode cX12_readLine 56 = .ok (.aload_n 0, 1) := by decide +kernel
theorem dX12_readLine_57 : decode cX12_readLine 57 = .ok (.invokevirtual 226, 3) := by decide +kernel
theorem dX12_readLine_60 : decode cX12_readLine 60 = .ok (.lload_n 1, 1) := by decide +kernel
theorem dX12_readLine_61 : decode cX12_readLine 61 = .ok (.ldc2_w 148, 3) := by decide +kernel
theorem dX12_readLine_64 : decode cX12_readLine 64 = .ok (.lcmp, 1) := by decide +kernel
theorem dX12_readLine_65 : decode cX12_readLine 65 = .ok (.ifCond .ne 7, 3) := by decide +kernel
theorem dX12_readLine_68 : decode cX12_readLine 68 = .ok (.aload_n 0, 1) := by decide +kernel
theorem dX12_readLine_69 : decode cX12_readLine 69 = .ok (.invokevirtual 229, 3) := by decide +kernel
theorem dX12_readLine_72 : decode cX12_readLine 72 = .ok (.lload_n 1, 1) := by decide +kernel
theorem dX12_readLine_73 : decode cX12_readLine 73 = .ok (.ldc2_w 150, 3) := by decide +kernel
theorem dX12_readLine_76 : decode cX12_readLine 76 = .ok (.lcmp, 1) := by decide +kernel
theorem dX12_readLine_77 : decode cX12_readLine 77 = .ok (.ifCond .ne 7, 3) := by decide +kernel
theorem dX12_readLine_80 : decode cX12_readLine 80 = .ok (.aload_n 0, 1) := by decide +kernel
theorem dX12_readLine_81 : decode cX12_readLine 81 = .ok (.invokevirtual 232, 3) := by decide +kernel
theorem dX12_readLine_84 : decode cX12_readLine 84 = .ok (.lload_n 1, 1) := by decide +kernel
theorem dX12_readLine_85 : decode cX12_readLine 85 = .ok (.ldc2_w 152, 3) := by decide +kernel
theorem dX12_readLine_88 : decode cX12_readLine 88 = .ok (.lcmp, 1) := by decide +kernel
theorem dX12_readLine_89 : decode cX12_readLine 89 = .ok (.ifCond .ne 30, 3) := by decide +kernel
theorem dX12_readLine_92 : decode cX12_readLine 92 = .ok (.aload_n 0, 1) := by decide +kernel
theorem dX12_readLine_93 : decode cX12_readLine 93 = .ok (.getfield 52, 3) := by decide +kernel
theorem dX12_readLine_96 : decode cX12_readLine 96 = .ok (.aload_n 0, 1) := by decide +kernel
theorem dX12_readLine_97 : decode cX12_readLine 97 = .ok (.getfield 199, 3) := by decide +kernel
theorem dX12_readLine_100 : decode cX12_readLine 100 = .ok (.iconst 1, 1) := by decide +kernel
theorem dX12_readLine_101 : decode cX12_readLine 101 = .ok (.bastore, 1) := by decide +kernel
theorem dX12_readLine_102 : decode cX12_readLine 102 = .ok (.aload_n 0, 1) := by decide +kernel
theorem dX12_readLine_103 : decode cX12_readLine 103 = .ok (.getfield 33, 3) := by decide +kernel
theorem dX12_readLine_106 : decode cX12_readLine 106 = .ok (.aload_n 0, 1) := by decide +kernel
theorem dX12_readLine_107 : decode cX12_readLine 107 = .ok (.getfield 199, 3) := by decide +kernel
theorem dX12_readLine_110 : decode cX12_readLine 110 = .ok (.aload_n 0, 1) := by decide +kernel
theorem dX12_readLine_111 : decode cX12_readLine 111 = .ok (.iconst 0, 1) := by decide +kernel
theorem dX12_readLine_112 : decode cX12_readLine 112 = .ok (.sipush 9999, 3) := by decide +kernel
theorem dX12_readLine_115 : decode cX12_readLine 115 = .ok (.invokevirtual 235, 3) := by decide +kernel
theorem dX12_readLine_118 : decode cX12_readLine 118 = .ok (.iastore, 1) := by decide +kernel
theorem dX12_readLine_119 : decode cX12_readLine 119 = .ok (.aload_n 0, 1) := by decide +kernel
theorem dX12_readLine_120 : decode cX12_readLine 120 = .ok (.aload_n 0, 1) := by decide +kernel
theorem dX12_readLine_121 : decode cX12_readLine 121 = .ok (.getfield 164, 3) := by decide +kernel
theorem dX12_readLine_124 : decode cX12_readLine 124 = .ok (.iconst 5, 1) := by decide +kernel
theorem dX12_readLine_125 : decode cX12_readLine 125 = .ok (.if_icmp .ne 7, 3) := by decide +kernel
theorem dX12_readLine_128 : decode cX12_readLine 128 = .ok (.iconst 1, 1) := by decide +kernel
theorem dX12_readLine_129 : decode cX12_readLine 129 = .ok (.goto 4, 3) := by decide +kernel
theorem dX12_readLine_132 : decode cX12_readLine 132 = .ok (.iconst 0, 1) := by decide +kernel
theorem dX12_readLine_133 : decode cX12_readLine 133 = .ok (.invokevirtual 239, 3) := by decide +kernel
theorem dX12_readLine_136 : decode cX12_readLine 136 = .ok (.return_, 1) := by decide +kernel
theorem dX12_smithHere_0 : decode cX12_smithHere 0 = .ok (.iconst 0, 1) := by decide +kernel
theorem dX12_smithHere_1 : decode cX12_smithHere 1 = .ok (.istore_n 1, 1) := by decide +kernel
theorem dX12_smithHere_2 : decode cX12_smithHere 2 = .ok (.iload_n 1, 1) := by decide +kernel
theorem dX12_smithHere_3 : decode cX12_smithHere 3 = .ok (.aload_n 0, 1) := by decide +kernel
theorem dX12_smithHere_4 : decode cX12_smithHere 4 = .ok (.getfield 20, 3) := by decide +kernel
theorem dX12_smithHere_7 : decode cX12_smithHere 7 = .ok (.aload_n 0, 1) := by decide +kernel
theorem dX12_smithHere_8 : decode cX12_smithHere 8 = .ok (.getfield 199, 3) := by decide +kernel
theorem dX12_smithHere_11 : decode cX12_smithHere 11 = .ok (.iaload, 1) := by decide +kernel
theorem dX12_smithHere_12 : decode cX12_smithHere 12 = .ok (.if_icmp .ge 41, 3) := by decide +kernel
theorem dX12_smithHere_15 : decode cX12_smithHere 15 = .ok (.aload_n 0, 1) := by decide +kernel
theorem dX12_smithHere_16 : decode cX12_smithHere 16 = .ok (.getfield 164, 3) := by decide +kernel
theorem dX12_smithHere_19 : decode cX12_smithHere 19 = .ok (.iconst 2, 1) := by decide +kernel
theorem dX12_smithHere_20 : decode cX12_smithHere 20 = .ok (.if_icmp .ne 27, 3) := by decide +kernel
theorem dX12_smithHere_23 : decode cX12_smithHere 23 = .ok (.aload_n 0, 1) := by decide +kernel
theorem dX12_smithHere_24 : decode cX12_smithHere 24 = .ok (.getfield 55, 3) := by decide +kernel
theorem dX12_smithHere_27 : decode cX12_smithHere 27 = .ok (.bipush 8, 2) := by decide +kernel
theorem dX12_smithHere_29 : decode cX12_smithHere 29 = .ok (.aload_n 0, 1) := by decide +kernel
theorem dX12_smithHere_30 : decode cX12_smithHere 30 = .ok (.getfield 199, 3) := by decide +kernel
theorem dX12_smithHere_33 : decode cX12_smithHere 33 = .ok (.imul, 1) := by decide +kernel
theorem dX12_smithHere_34 : decode cX12_smithHere 34 = .ok (.iload_n 1, 1) := by decide +kernel
theorem dX12_smithHere_35 : decode cX12_smithHere 35 = .ok (.iadd, 1) := by decide +kernel
theorem dX12_smithHere_36 : decode cX12_smithHere 36 = .ok (.laload, 1) := by decide +kernel
theorem dX12_smithHere_37 : decode cX12_smithHere 37 = .ok (.aload_n 0, 1) := by decide +kernel
theorem dX12_smithHere_38 : decode cX12_smithHere 38 = .ok (.getfield 171, 3) := by decide +kernel
theorem dX12_smithHere_41 : decode cX12_smithHere 41 = .ok (.lcmp, 1) := by decide +kernel
theorem dX12_smithHere_42 : decode cX12_smithHere 42 = .ok (.ifCond .ne 5, 3) := by decide +kernel
theorem dX12_smithHere_45 : decode cX12_smithHere 45 = .ok (.iload_n 1, 1) := by decide +kernel
theorem dX12_smithHere_46 : decode cX12_smithHere 46 = .ok (.ireturn, 1) := by decide +kernel
theorem dX12_smithHere_47 : decode cX12_smithHere 47 = .ok (.iinc 1 1, 3) := by decide +kernel
theorem dX12_smithHere_50 : decode cX12_smithHere 50 = .ok (.goto (-48), 3) := by decide +kernel
theorem dX12_smithHere_53 : decode cX12_smithHere 53 = .ok (.iconst (-1), 1) := by decide +kernel
theorem dX12_smithHere_54 : decode cX12_smithHere 54 = .ok (.ireturn, 1) := by decide +kernel
theorem dX12_horseHere_0 : decode cX12_horseHere 0 = .ok (.iconst 0, 1) := by decide +kernel
theorem dX12_horseHere_1 : decode cX12_horseHere 1 = .ok (.istore_n 1, 1) := by decide +kernel
theorem dX12_horseHere_2 : decode cX12_horseHere 2 = .ok (.iload_n 1, 1) := by decide +kernel
theorem dX12_horseHere_3 : decode cX12_horseHere 3 = .ok (.aload_n 0, 1) := by decide +kernel
theorem dX12_horseHere_4 : decode cX12_horseHere 4 = .ok (.getfield 24, 3) := by decide +kernel
theorem dX12_horseHere_7 : decode cX12_horseHere 7 = .ok (.aload_n 0, 1) := by decide +kernel
theorem dX12_horseHere_8 : decode cX12_horseHere 8 = .ok (.getfield 199, 3) := by decide +kernel
theorem dX12_horseHere_11 : decode cX12_horseHere 11 = .ok (.iaload, 1) := by decide +kernel
theorem dX12_horseHere_12 : decode cX12_horseHere 12 = .ok (.if_icmp .ge 41, 3) := by decide +kernel
theorem dX12_horseHere_15 : decode cX12_horseHere 15 = .ok (.aload_n 0, 1) := by decide +kernel
theorem dX12_horseHere_16 : decode cX12_horseHere 16 = .ok (.getfield 164, 3) := by decide +kernel
theorem dX12_horseHere_19 : decode cX12_horseHere 19 = .ok (.iconst 2, 1) := by decide +kernel
theorem dX12_horseHere_20 : decode cX12_horseHere 20 = .ok (.if_icmp .ne 27, 3) := by decide +kernel
theorem dX12_horseHere_23 : decode cX12_horseHere 23 = .ok (.aload_n 0, 1) := by decide +kernel
theorem dX12_horseHere_24 : decode cX12_horseHere 24 = .ok (.getfield 59, 3) := by decide +kernel
theorem dX12_horseHere_27 : decode cX12_horseHere 27 = .ok (.bipush 10, 2) := by decide +kernel
theorem dX12_horseHere_29 : decode cX12_horseHere 29 = .ok (.aload_n 0, 1) := by decide +kernel
theorem dX12_horseHere_30 : decode cX12_horseHere 30 = .ok (.getfield 199, 3) := by decide +kernel
theorem dX12_horseHere_33 : decode cX12_horseHere 33 = .ok (.imul, 1) := by decide +kernel
theorem dX12_horseHere_34 : decode cX12_horseHere 34 = .ok (.iload_n 1, 1) := by decide +kernel
theorem dX12_horseHere_35 : decode cX12_horseHere 35 = .ok (.iadd, 1) := by decide +kernel
theorem dX12_horseHere_36 : decode cX12_horseHere 36 = .ok (.laload, 1) := by decide +kernel
theorem dX12_horseHere_37 : decode cX12_horseHere 37 = .ok (.aload_n 0, 1) := by decide +kernel
theorem dX12_horseHere_38 : decode cX12_horseHere 38 = .ok (.getfield 171, 3) := by decide +kernel
theorem dX12_horseHere_41 : decode cX12_horseHere 41 = .ok (.lcmp, 1) := by decide +kernel
theorem dX12_horseHere_42 : decode cX12_horseHere 42 = .ok (.ifCond .ne 5, 3) := by decide +kernel
theorem dX12_horseHere_45 : decode cX12_horseHere 45 = .ok (.iload_n 1, 1) := by decide +kernel
theorem dX12_horseHere_46 : decode cX12_horseHere 46 = .ok (.ireturn, 1) := by decide +kernel
theorem dX12_horseHere_47 : decode cX12_horseHere 47 = .ok (.iinc 1 1, 3) := by decide +kernel
theorem dX12_horseHere_50 : decode cX12_horseHere 50 = .ok (.goto (-48), 3) := by decide +kernel
theorem dX12_horseHere_53 : decode cX12_horseHere 53 = .ok (.iconst (-1), 1) := by decide +kernel
theorem dX12_horseHere_54 : decode cX12_horseHere 54 = .ok (.ireturn, 1) := by decide +kernel
theorem dX12_fresh_0 : decode cX12_fresh 0 = .ok (.aload_n 0, 1) := by decide +kernel
theorem dX12_fresh_1 : decode cX12_fresh 1 = .ok (.invokevirtual 189, 3) := by decide +kernel
theorem dX12_fresh_4 : decode cX12_fresh 4 = .ok (.ifCond .ne 5, 3) := by decide +kernel
theorem dX12_fresh_7 : decode cX12_fresh 7 = .ok (.lconst 0, 1) := by decide +kernel
theorem dX12_fresh_8 : decode cX12_fresh 8 = .ok (.lreturn, 1) := by decide +kernel
theorem dX12_fresh_9 : decode cX12_fresh 9 = .ok (.aload_n 0, 1) := by decide +kernel
theorem dX12_fresh_10 : decode cX12_fresh 10 = .ok (.getfield 164, 3) := by decide +kernel
theorem dX12_fresh_13 : decode cX12_fresh 13 = .ok (.iconst 2, 1) := by decide +kernel
theorem dX12_fresh_14 : decode cX12_fresh 14 = .ok (.if_icmp .eq 10, 3) := by decide +kernel
theorem dX12_fresh_17 : decode cX12_fresh 17 = .ok (.aload_n 0, 1) := by decide +kernel
theorem dX12_fresh_18 : decode cX12_fresh 18 = .ok (.invokevirtual 196, 3) := by decide +kernel
theorem dX12_fresh_21 : decode cX12_fresh 21 = .ok (.goto 16, 3) := by decide +kernel
theorem dX12_fresh_24 : decode cX12_fresh 24 = .ok (.iload_n 1, 1) := by decide +kernel
theorem dX12_fresh_25 : decode cX12_fresh 25 = .ok (.ifCond .eq 12, 3) := by decide +kernel
theorem dX12_fresh_28 : decode cX12_fresh 28 = .ok (.aload_n 0, 1) := by decide +kernel
theorem dX12_fresh_29 : decode cX12_fresh 29 = .ok (.iconst 3, 1) := by decide +kernel
theorem dX12_fresh_30 : decode cX12_fresh 30 = .ok (.aload_n 0, 1) := by decide +kernel
theorem dX12_fresh_31 : decode cX12_fresh 31 = .ok (.getfield 157, 3) := by decide +kernel
theorem dX12_fresh_34 : decode cX12_fresh 34 = .ok (.invokevirtual 185, 3) := by decide +kernel
theorem dX12_fresh_37 : decode cX12_fresh 37 = .ok (.aload_n 0, 1) := by decide +kernel
theorem dX12_fresh_38 : decode cX12_fresh 38 = .ok (.getfield 171, 3) := by decide +kernel
theorem dX12_fresh_41 : decode cX12_fresh 41 = .ok (.lstore_n 2, 1) := by decide +kernel
theorem dX12_fresh_42 : decode cX12_fresh 42 = .ok (.aload_n 0, 1) := by decide +kernel
theorem dX12_fresh_43 : decode cX12_fresh 43 = .ok (.invokevirtual 189, 3) := by decide +kernel
theorem dX12_fresh_46 : decode cX12_fresh 46 = .ok (.ifCond .eq 7, 3) := by decide +kernel
theorem dX12_fresh_49 : decode cX12_fresh 49 = .ok (.aload_n 0, 1) := by decide +kernel
theorem dX12_fresh_50 : decode cX12_fresh 50 = .ok (.invokevirtual 193, 3) := by decide +kernel
theorem dX12_fresh_53 : decode cX12_fresh 53 = .ok (.lload_n 2, 1) := by decide +kernel
theorem dX12_fresh_54 : decode cX12_fresh 54 = .ok (.lreturn, 1) := by decide +kernel
theorem dX12_known_0 : decode cX12_known 0 = .ok (.aload_n 0, 1) := by decide +kernel
theorem dX12_known_1 : decode cX12_known 1 = .ok (.invokevirtual 189, 3) := by decide +kernel
theorem dX12_known_4 : decode cX12_known 4 = .ok (.ifCond .ne 5, 3) := by decide +kernel
theorem dX12_known_7 : decode cX12_known 7 = .ok (.iconst 0, 1) := by decide +kernel
theorem dX12_known_8 : decode cX12_known 8 = .ok (.ireturn, 1) := by decide +kernel
theorem dX12_known_9 : decode cX12_known 9 = .ok (.aload_n 0, 1) := by decide +kernel
theorem dX12_known_10 : decode cX12_known 10 = .ok (.getfield 164, 3) := by decide +kernel
theorem dX12_known_13 : decode cX12_known 13 = .ok (.iconst 2, 1) := by decide +kernel
theorem dX12_known_14 : decode cX12_known 14 = .ok (.if_icmp .eq 10, 3) := by decide +kernel
theorem dX12_known_17 : decode cX12_known 17 = .ok (.aload_n 0, 1) := by decide +kernel
theorem dX12_known_18 : decode cX12_known 18 = .ok (.invokevirtual 196, 3) := by decide +kernel
theorem dX12_known_21 : decode cX12_known 21 = .ok (.goto 16, 3) := by decide +kernel
theorem dX12_known_24 : decode cX12_known 24 = .ok (.iload_n 1, 1) := by decide +kernel
theorem dX12_known_25 : decode cX12_known 25 = .ok (.ifCond .ge 12, 3) := by decide +kernel
theorem dX12_known_28 : decode cX12_known 28 = .ok (.aload_n 0, 1) := by decide +kernel
theorem dX12_known_29 : decode cX12_known 29 = .ok (.iconst 5, 1) := by decide +kernel
theorem dX12_known_30 : decode cX12_known 30 = .ok (.aload_n 0, 1) := by decide +kernel
theorem dX12_known_31 : decode cX12_known 31 = .ok (.getfield 157, 3) := by decide +kernel
theorem dX12_known_34 : decode cX12_known 34 = .ok (.invokevirtual 185, 3) := by decide +kernel
theorem dX12_known_37 : decode cX12_known 37 = .ok (.aload_n 0, 1) := by decide +kernel
theorem dX12_known_38 : decode cX12_known 38 = .ok (.invokevirtual 189, 3) := by decide +kernel
theorem dX12_known_41 : decode cX12_known 41 = .ok (.ifCond .eq 7, 3) := by decide +kernel
theorem dX12_known_44 : decode cX12_known 44 = .ok (.aload_n 0, 1) := by decide +kernel
theorem dX12_known_45 : decode cX12_known 45 = .ok (.invokevirtual 193, 3) := by decide +kernel
theorem dX12_known_48 : decode cX12_known 48 = .ok (.iload_n 1, 1) := by decide +kernel
theorem dX12_known_49 : decode cX12_known 49 = .ok (.ifCond .ge 7, 3) := by decide +kernel
theorem dX12_known_52 : decode cX12_known 52 = .ok (.iconst 0, 1) := by decide +kernel
theorem dX12_known_53 : decode cX12_known 53 = .ok (.goto 4, 3) := by decide +kernel
theorem dX12_known_56 : decode cX12_known 56 = .ok (.iload_n 1, 1) := by decide +kernel
theorem dX12_known_57 : decode cX12_known 57 = .ok (.ireturn, 1) := by decide +kernel
theorem dX12_readSmith_0 : decode cX12_readSmith 0 = .ok (.bipush 8, 2) := by decide +kernel
theorem dX12_readSmith_2 : decode cX12_readSmith 2 = .ok (.aload_n 0, 1) := by decide +kernel
theorem dX12_readSmith_3 : decode cX12_readSmith 3 = .ok (.getfield 199, 3) := by decide +kernel
theorem dX12_readSmith_6 : decode cX12_readSmith 6 = .ok (.imul, 1) := by decide +kernel
theorem dX12_readSmith_7 : decode cX12_readSmith 7 = .ok (.aload_n 0, 1) := by decide +kernel
theorem dX12_readSmith_8 : decode cX12_readSmith 8 = .ok (.getfield 20, 3) := by decide +kernel
theorem dX12_readSmith_11 : decode cX12_readSmith 11 = .ok (.aload_n 0, 1) := by decide +kernel
theorem dX12_readSmith_12 : decode cX12_readSmith 12 = .ok (.getfield 199, 3) := by decide +kernel
theorem dX12_readSmith_15 : decode cX12_readSmith 15 = .ok (.iaload, 1) := by decide +kernel
theorem dX12_readSmith_16 : decode cX12_readSmith 16 = .ok (.iadd, 1) := by decide +kernel
theorem dX12_readSmith_17 : decode cX12_readSmith 17 = .ok (.istore_n 1, 1) := by decide +kernel
theorem dX12_readSmith_18 : decode cX12_readSmith 18 = .ok (.aload_n 0, 1) := by decide +kernel
theorem dX12_readSmith_19 : decode cX12_readSmith 19 = .ok (.getfield 55, 3) := by decide +kernel
theorem dX12_readSmith_22 : decode cX12_readSmith 22 = .ok (.iload_n 1, 1) := by decide +kernel
theorem dX12_readSmith_23 : decode cX12_readSmith 23 = .ok (.aload_n 0, 1) := by decide +kernel
theorem dX12_readSmith_24 : decode cX12_readSmith 24 = .ok (.aload_n 0, 1) := by decide +kernel
theorem dX12_readSmith_25 : decode cX12_readSmith 25 = .ok (.invokevirtual 243, 3) := by decide +kernel
theorem dX12_readSmith_28 : decode cX12_readSmith 28 = .ok (.ifCond .lt 7, 3) := by decide +kernel
theorem dX12_readSmith_31 : decode cX12_readSmith 31 = .ok (.iconst 1, 1) := by decide +kernel
theorem dX12_readSmith_32 : decode cX12_readSmith 32 = .ok (.goto 4, 3) := by decide +kernel
theorem dX12_readSmith_35 : decode cX12_readSmith 35 = .ok (.iconst 0, 1) := by decide +kernel
theorem dX12_readSmith_36 : decode cX12_readSmith 36 = .ok (.invokevirtual 247, 3) := by decide +kernel
theorem dX12_readSmith_39 : decode cX12_readSmith 39 = .ok (.lastore, 1) := by decide +kernel
theorem dX12_readSmith_40 : decode cX12_readSmith 40 = .ok (.aload_n 0, 1) := by decide +kernel
theorem dX12_readSmith_41 : decode cX12_readSmith 41 = .ok (.getfield 45, 3) := by decide +kernel
theorem dX12_readSmith_44 : decode cX12_readSmith 44 = .ok (.iload_n 1, 1) := by decide +kernel
theorem dX12_readSmith_45 : decode cX12_readSmith 45 = .ok (.aload_n 0, 1) := by decide +kernel
theorem dX12_readSmith_46 : decode cX12_readSmith 46 = .ok (.invokevirtual 189, 3) := by decide +kernel
theorem dX12_readSmith_49 : decode cX12_readSmith 49 = .ok (.ifCond .eq 17, 3) := by decide +kernel
theorem dX12_readSmith_52 : decode cX12_readSmith 52 = .ok (.aload_n 0, 1) := by decide +kernel
theorem dX12_readSmith_53 : decode cX12_readSmith 53 = .ok (.ldc2_w 142, 3) := by decide +kernel
theorem dX12_readSmith_56 : decode cX12_readSmith 56 = .ok (.invokevirtual 217, 3) := by decide +kernel
theorem dX12_readSmith_59 : decode cX12_readSmith 59 = .ok (.ifCond .eq 7, 3) := by decide +kernel
theorem dX12_readSmith_62 : decode cX12_readSmith 62 = .ok (.iconst 1, 1) := by decide +kernel
theorem dX12_readSmith_63 : decode cX12_readSmith 63 = .ok (.goto 4, 3) := by decide +kernel
theorem dX12_readSmith_66 : decode cX12_readSmith 66 = .ok (.iconst 0, 1) := by decide +kernel
theorem dX12_readSmith_67 : decode cX12_readSmith 67 = .ok (.bastore, 1) := by decide +kernel
theorem dX12_readSmith_68 : decode cX12_readSmith 68 = .ok (.aload_n 0, 1) := by decide +kernel
theorem dX12_readSmith_69 : decode cX12_readSmith 69 = .ok (.getfield 45, 3) := by decide +kernel
theorem dX12_readSmith_72 : decode cX12_readSmith 72 = .ok (.iload_n 1, 1) := by decide +kernel
theorem dX12_readSmith_73 : decode cX12_readSmith 73 = .ok (.baload, 1) := by decide +kernel
theorem dX12_readSmith_74 : decode cX12_readSmith 74 = .ok (.ifCond .eq 7, 3) := by decide +kernel
theorem dX12_readSmith_77 : decode cX12_readSmith 77 = .ok (.aload_n 0, 1) := by decide +kernel
theorem dX12_readSmith_78 : decode cX12_readSmith 78 = .ok (.invokevirtual 193, 3) := by decide +kernel
theorem dX12_readSmith_81 : decode cX12_readSmith 81 = .ok (.aload_n 0, 1) := by decide +kernel
theorem dX12_readSmith_82 : decode cX12_readSmith 82 = .ok (.aload_n 0, 1) := by decide +kernel
theorem dX12_readSmith_83 : decode cX12_readSmith 83 = .ok (.ldc2_w 144, 3) := by decide +kernel
theorem dX12_readSmith_86 : decode cX12_readSmith 86 = .ok (.invokevirtual 217, 3) := by decide +kernel
theorem dX12_readSmith_89 : decode cX12_readSmith 89 = .ok (.invokevirtual 239, 3) := by decide +kernel
theorem dX12_readSmith_92 : decode cX12_readSmith 92 = .ok (.aload_n 0, 1) := by decide +kernel
theorem dX12_readSmith_93 : decode cX12_readSmith 93 = .ok (.getfield 36, 3) := by decide +kernel
theorem dX12_readSmith_96 : decode cX12_readSmith 96 = .ok (.iload_n 1, 1) := by decide +kernel
theorem dX12_readSmith_97 : decode cX12_readSmith 97 = .ok (.aload_n 0, 1) := by decide +kernel
theorem dX12_readSmith_98 : decode cX12_readSmith 98 = .ok (.iconst 0, 1) := by decide +kernel
theorem dX12_readSmith_99 : decode cX12_readSmith 99 = .ok (.bipush 99, 2) := by decide +kernel
theorem dX12_readSmith_101 : decode cX12_readSmith 101 = .ok (.invokevirtual 235, 3) := by decide +kernel
theorem dX12_readSmith_104 : decode cX12_readSmith 104 = .ok (.iastore, 1) := by decide +kernel
theorem dX12_readSmith_105 : decode cX12_readSmith 105 = .ok (.aload_n 0, 1) := by decide +kernel
theorem dX12_readSmith_106 : decode cX12_readSmith 106 = .ok (.getfield 39, 3) := by decide +kernel
theorem dX12_readSmith_109 : decode cX12_readSmith 109 = .ok (.iload_n 1, 1) := by decide +kernel
theorem dX12_readSmith_110 : decode cX12_readSmith 110 = .ok (.iconst 0, 1) := by decide +kernel
theorem dX12_readSmith_111 : decode cX12_readSmith 111 = .ok (.iastore, 1) := by decide +kernel
theorem dX12_readSmith_112 : decode cX12_readSmith 112 = .ok (.aload_n 0, 1) := by decide +kernel
theorem dX12_readSmith_113 : decode cX12_readSmith 113 = .ok (.getfield 20, 3) := by decide +kernel
theorem dX12_readSmith_116 : decode cX12_readSmith 116 = .ok (.aload_n 0, 1) := by decide +kernel
theorem dX12_readSmith_117 : decode cX12_readSmith 117 = .ok (.getfield 199, 3) := by decide +kernel
theorem dX12_readSmith_120 : decode cX12_readSmith 120 = .ok (.dup2, 1) := by decide +kernel
theorem dX12_readSmith_121 : decode cX12_readSmith 121 = .ok (.iaload, 1) := by decide +kernel
theorem dX12_readSmith_122 : decode cX12_readSmith 122 = .ok (.iconst 1, 1) := by decide +kernel
theorem dX12_readSmith_123 : decode cX12_readSmith 123 = .ok (.iadd, 1) := by decide +kernel
theorem dX12_readSmith_124 : decode cX12_readSmith 124 = .ok (.iastore, 1) := by decide +kernel
theorem dX12_readSmith_125 : decode cX12_readSmith 125 = .ok (.return_, 1) := by decide +kernel
theorem dX12_readHorse_0 : decode cX12_readHorse 0 = .ok (.aload_n 0, 1) := by decide +kernel
theorem dX12_readHorse_1 : decode cX12_readHorse 1 = .ok (.getfield 59, 3) := by decide +kernel
theorem dX12_readHorse_4 : decode cX12_readHorse 4 = .ok (.bipush 10, 2) := by decide +kernel
theorem dX12_readHorse_6 : decode cX12_readHorse 6 = .ok (.aload_n 0, 1) := by decide +kernel
theorem dX12_readHorse_7 : decode cX12_readHorse 7 = .ok (.getfield 199, 3) := by decide +kernel
theorem dX12_readHorse_10 : decode cX12_readHorse 10 = .ok (.imul, 1) := by decide +kernel
theorem dX12_readHorse_11 : decode cX12_readHorse 11 = .ok (.aload_n 0, 1) := by decide +kernel
theorem dX12_readHorse_12 : decode cX12_readHorse 12 = .ok (.getfield 24, 3) := by decide +kernel
theorem dX12_readHorse_15 : decode cX12_readHorse 15 = .ok (.aload_n 0, 1) := by decide +kernel
theorem dX12_readHorse_16 : decode cX12_readHorse 16 = .ok (.getfield 199, 3) := by decide +kernel
theorem dX12_readHorse_19 : decode cX12_readHorse 19 = .ok (.iaload, 1) := by decide +kernel
theorem dX12_readHorse_20 : decode cX12_readHorse 20 = .ok (.iadd, 1) := by decide +kernel
theorem dX12_readHorse_21 : decode cX12_readHorse 21 = .ok (.aload_n 0, 1) := by decide +kernel
theorem dX12_readHorse_22 : decode cX12_readHorse 22 = .ok (.aload_n 0, 1) := by decide +kernel
theorem dX12_readHorse_23 : decode cX12_readHorse 23 = .ok (.invokevirtual 251, 3) := by decide +kernel
theorem dX12_readHorse_26 : decode cX12_readHorse 26 = .ok (.ifCond .lt 7, 3) := by decide +kernel
theorem dX12_readHorse_29 : decode cX12_readHorse 29 = .ok (.iconst 1, 1) := by decide +kernel
theorem dX12_readHorse_30 : decode cX12_readHorse 30 = .ok (.goto 4, 3) := by decide +kernel
theorem dX12_readHorse_33 : decode cX12_readHorse 33 = .ok (.iconst 0, 1) := by decide +kernel
theorem dX12_readHorse_34 : decode cX12_readHorse 34 = .ok (.invokevirtual 247, 3) := by decide +kernel
theorem dX12_readHorse_37 : decode cX12_readHorse 37 = .ok (.lastore, 1) := by decide +kernel
theorem dX12_readHorse_38 : decode cX12_readHorse 38 = .ok (.aload_n 0, 1) := by decide +kernel
theorem dX12_readHorse_39 : decode cX12_readHorse 39 = .ok (.getfield 24, 3) := by decide +kernel
theorem dX12_readHorse_42 : decode cX12_readHorse 42 = .ok (.aload_n 0, 1) := by decide +kernel
theorem dX12_readHorse_43 : decode cX12_readHorse 43 = .ok (.getfield 199, 3) := by decide +kernel
theorem dX12_readHorse_46 : decode cX12_readHorse 46 = .ok (.dup2, 1) := by decide +kernel
theorem dX12_readHorse_47 : decode cX12_readHorse 47 = .ok (.iaload, 1) := by decide +kernel
theorem dX12_readHorse_48 : decode cX12_readHorse 48 = .ok (.iconst 1, 1) := by decide +kernel
theorem dX12_readHorse_49 : decode cX12_readHorse 49 = .ok (.iadd, 1) := by decide +kernel
theorem dX12_readHorse_50 : decode cX12_readHorse 50 = .ok (.iastore, 1) := by decide +kernel
theorem dX12_readHorse_51 : decode cX12_readHorse 51 = .ok (.return_, 1) := by decide +kernel
theorem dX12_readHours_0 : decode cX12_readHours 0 = .ok (.aload_n 0, 1) := by decide +kernel
theorem dX12_readHours_1 : decode cX12_readHours 1 = .ok (.aload_n 0, 1) := by decide +kernel
theorem dX12_readHours_2 : decode cX12_readHours 2 = .ok (.invokevirtual 243, 3) := by decide +kernel
theorem dX12_readHours_5 : decode cX12_readHours 5 = .ok (.invokevirtual 254, 3) := by decide +kernel
theorem dX12_readHours_8 : decode cX12_readHours 8 = .ok (.istore_n 1, 1) := by decide +kernel
theorem dX12_readHours_9 : decode cX12_readHours 9 = .ok (.aload_n 0, 1) := by decide +kernel
theorem dX12_readHours_10 : decode cX12_readHours 10 = .ok (.invokevirtual 251, 3) := by decide +kernel
theorem dX12_readHours_13 : decode cX12_readHours 13 = .ok (.istore_n 2, 1) := by decide +kernel
theorem dX12_readHours_14 : decode cX12_readHours 14 = .ok (.bipush 80, 2) := by decide +kernel
theorem dX12_readHours_16 : decode cX12_readHours 16 = .ok (.aload_n 0, 1) := by decide +kernel
theorem dX12_readHours_17 : decode cX12_readHours 17 = .ok (.getfield 199, 3) := by decide +kernel
theorem dX12_readHours_20 : decode cX12_readHours 20 = .ok (.imul, 1) := by decide +kernel
theorem dX12_readHours_21 : decode cX12_readHours 21 = .ok (.bipush 10, 2) := by decide +kernel
theorem dX12_readHours_23 : decode cX12_readHours 23 = .ok (.iload_n 1, 1) := by decide +kernel
theorem dX12_readHours_24 : decode cX12_readHours 24 = .ok (.imul, 1) := by decide +kernel
theorem dX12_readHours_25 : decode cX12_readHours 25 = .ok (.iadd, 1) := by decide +kernel
theorem dX12_readHours_26 : decode cX12_readHours 26 = .ok (.iload_n 2, 1) := by decide +kernel
theorem dX12_readHours_27 : decode cX12_readHours 27 = .ok (.ifCond .ge 7, 3) := by decide +kernel
theorem dX12_readHours_30 : decode cX12_readHours 30 = .ok (.iconst 0, 1) := by decide +kernel
theorem dX12_readHours_31 : decode cX12_readHours 31 = .ok (.goto 4, 3) := by decide +kernel
theorem dX12_readHours_34 : decode cX12_readHours 34 = .ok (.iload_n 2, 1) := by decide +kernel
theorem dX12_readHours_35 : decode cX12_readHours 35 = .ok (.iadd, 1) := by decide +kernel
theorem dX12_readHours_36 : decode cX12_readHours 36 = .ok (.istore_n 3, 1) := by decide +kernel
theorem dX12_readHours_37 : decode cX12_readHours 37 = .ok (.aload_n 0, 1) := by decide +kernel
theorem dX12_readHours_38 : decode cX12_readHours 38 = .ok (.invokevirtual 189, 3) := by decide +kernel
theorem dX12_readHours_41 : decode cX12_readHours 41 = .ok (.ifCond .eq 25, 3) := by decide +kernel
theorem dX12_readHours_44 : decode cX12_readHours 44 = .ok (.iload_n 2, 1) := by decide +kernel
theorem dX12_readHours_45 : decode cX12_readHours 45 = .ok (.ifCond .lt 21, 3) := by decide +kernel
theorem dX12_readHours_48 : decode cX12_readHours 48 = .ok (.aload_n 0, 1) := by decide +kernel
theorem dX12_readHours_49 : decode cX12_readHours 49 = .ok (.getfield 49, 3) := by decide +kernel
theorem dX12_readHours_52 : decode cX12_readHours 52 = .ok (.iload_n 3, 1) := by decide +kernel
theorem dX12_readHours_53 : decode cX12_readHours 53 = .ok (.baload, 1) := by decide +kernel
theorem dX12_readHours_54 : decode cX12_readHours 54 = .ok (.ifCond .eq 12, 3) := by decide +kernel
theorem dX12_readHours_57 : decode cX12_readHours 57 = .ok (.aload_n 0, 1) := by decide +kernel
theorem dX12_readHours_58 : decode cX12_readHours 58 = .ok (.iconst 3, 1) := by decide +kernel
theorem dX12_readHours_59 : decode cX12_readHours 59 = .ok (.aload_n 0, 1) := by decide +kernel
theorem dX12_readHours_60 : decode cX12_readHours 60 = .ok (.getfield 157, 3) := by decide +kernel
theorem dX12_readHours_63 : decode cX12_readHours 63 = .ok (.invokevirtual 185, 3) := by decide +kernel
theorem dX12_readHours_66 : decode cX12_readHours 66 = .ok (.aload_n 0, 1) := by decide +kernel
theorem dX12_readHours_67 : decode cX12_readHours 67 = .ok (.iload_n 2, 1) := by decide +kernel
theorem dX12_readHours_68 : decode cX12_readHours 68 = .ok (.invokevirtual 254, 3) := by decide +kernel
theorem dX12_readHours_71 : decode cX12_readHours 71 = .ok (.pop, 1) := by decide +kernel
theorem dX12_readHours_72 : decode cX12_readHours 72 = .ok (.aload_n 0, 1) := by decide +kernel
theorem dX12_readHours_73 : decode cX12_readHours 73 = .ok (.iconst 0, 1) := by decide +kernel
theorem dX12_readHours_74 : decode cX12_readHours 74 = .ok (.bipush 99, 2) := by decide +kernel
theorem dX12_readHours_76 : decode cX12_readHours 76 = .ok (.invokevirtual 235, 3) := by decide +kernel
theorem dX12_readHours_79 : decode cX12_readHours 79 = .ok (.istore 4, 2) := by decide +kernel
theorem dX12_readHours_81 : decode cX12_readHours 81 = .ok (.aload_n 0, 1) := by decide +kernel
theorem dX12_readHours_82 : decode cX12_readHours 82 = .ok (.invokevirtual 189, 3) := by decide +kernel
theorem dX12_readHours_85 : decode cX12_readHours 85 = .ok (.ifCond .ne 4, 3) := by decide +kernel
theorem dX12_readHours_88 : decode cX12_readHours 88 = .ok (.return_, 1) := by decide +kernel
theorem dX12_readHours_89 : decode cX12_readHours 89 = .ok (.aload_n 0, 1) := by decide +kernel
theorem dX12_readHours_90 : decode cX12_readHours 90 = .ok (.getfield 42, 3) := by decide +kernel
theorem dX12_readHours_93 : decode cX12_readHours 93 = .ok (.iload_n 3, 1) := by decide +kernel
theorem dX12_readHours_94 : decode cX12_readHours 94 = .ok (.iload 4, 2) := by decide +kernel
theorem dX12_readHours_96 : decode cX12_readHours 96 = .ok (.iastore, 1) := by decide +kernel
theorem dX12_readHours_97 : decode cX12_readHours 97 = .ok (.aload_n 0, 1) := by decide +kernel
theorem dX12_readHours_98 : decode cX12_readHours 98 = .ok (.getfield 49, 3) := by decide +kernel
theorem dX12_readHours_101 : decode cX12_readHours 101 = .ok (.iload_n 3, 1) := by decide +kernel
theorem dX12_readHours_102 : decode cX12_readHours 102 = .ok (.iconst 1, 1) := by decide +kernel
theorem dX12_readHours_103 : decode cX12_readHours 103 = .ok (.bastore, 1) := by decide +kernel
theorem dX12_readHours_104 : decode cX12_readHours 104 = .ok (.aload_n 0, 1) := by decide +kernel
theorem dX12_readHours_105 : decode cX12_readHours 105 = .ok (.getfield 27, 3) := by decide +kernel
theorem dX12_readHours_108 : decode cX12_readHours 108 = .ok (.aload_n 0, 1) := by decide +kernel
theorem dX12_readHours_109 : decode cX12_readHours 109 = .ok (.getfield 199, 3) := by decide +kernel
theorem dX12_readHours_112 : decode cX12_readHours 112 = .ok (.dup2, 1) := by decide +kernel
theorem dX12_readHours_113 : decode cX12_readHours 113 = .ok (.iaload, 1) := by decide +kernel
theorem dX12_readHours_114 : decode cX12_readHours 114 = .ok (.iconst 1, 1) := by decide +kernel
theorem dX12_readHours_115 : decode cX12_readHours 115 = .ok (.iadd, 1) := by decide +kernel
theorem dX12_readHours_116 : decode cX12_readHours 116 = .ok (.iastore, 1) := by decide +kernel
theorem dX12_readHours_117 : decode cX12_readHours 117 = .ok (.return_, 1) := by decide +kernel
theorem dX12_readLends_0 : decode cX12_readLends 0 = .ok (.aload_n 0, 1) := by decide +kernel
theorem dX12_readLends_1 : decode cX12_readLends 1 = .ok (.invokevirtual 243, 3) := by decide +kernel
theorem dX12_readLends_4 : decode cX12_readLends 4 = .ok (.istore_n 1, 1) := by decide +kernel
theorem dX12_readLends_5 : decode cX12_readLends 5 = .ok (.aload_n 0, 1) := by decide +kernel
theorem dX12_readLends_6 : decode cX12_readLends 6 = .ok (.invokevirtual 189, 3) := by decide +kernel
theorem dX12_readLends_9 : decode cX12_readLends 9 = .ok (.ifCond .eq 34, 3) := by decide +kernel
theorem dX12_readLends_12 : decode cX12_readLends 12 = .ok (.iload_n 1, 1) := by decide +kernel
theorem dX12_readLends_13 : decode cX12_readLends 13 = .ok (.ifCond .lt 30, 3) := by decide +kernel
theorem dX12_readLends_16 : decode cX12_readLends 16 = .ok (.aload_n 0, 1) := by decide +kernel
theorem dX12_readLends_17 : decode cX12_readLends 17 = .ok (.getfield 45, 3) := by decide +kernel
theorem dX12_readLends_20 : decode cX12_readLends 20 = .ok (.bipush 8, 2) := by decide +kernel
theorem dX12_readLends_22 : decode cX12_readLends 22 = .ok (.aload_n 0, 1) := by decide +kernel
theorem dX12_readLends_23 : decode cX12_readLends 23 = .ok (.getfield 199, 3) := by decide +kernel
theorem dX12_readLends_26 : decode cX12_readLends 26 = .ok (.imul, 1) := by decide +kernel
theorem dX12_readLends_27 : decode cX12_readLends 27 = .ok (.iload_n 1, 1) := by decide +kernel
theorem dX12_readLends_28 : decode cX12_readLends 28 = .ok (.iadd, 1) := by decide +kernel
theorem dX12_readLends_29 : decode cX12_readLends 29 = .ok (.baload, 1) := by decide +kernel
theorem dX12_readLends_30 : decode cX12_readLends 30 = .ok (.ifCond .ne 13, 3) := by decide +kernel
theorem dX12_readLends_33 : decode cX12_readLends 33 = .ok (.aload_n 0, 1) := by decide +kernel
theorem dX12_readLends_34 : decode cX12_readLends 34 = .ok (.bipush 6, 2) := by decide +kernel
theorem dX12_readLends_36 : decode cX12_readLends 36 = .ok (.aload_n 0, 1) := by decide +kernel
theorem dX12_readLends_37 : decode cX12_readLends 37 = .ok (.getfield 157, 3) := by decide +kernel
theorem dX12_readLends_40 : decode cX12_readLends 40 = .ok (.invokevirtual 185, 3) := by decide +kernel
theorem dX12_readLends_43 : decode cX12_readLends 43 = .ok (.aload_n 0, 1) := by decide +kernel
theorem dX12_readLends_44 : decode cX12_readLends 44 = .ok (.iload_n 1, 1) := by decide +kernel
theorem dX12_readLends_45 : decode cX12_readLends 45 = .ok (.invokevirtual 254, 3) := by decide +kernel
theorem dX12_readLends_48 : decode cX12_readLends 48 = .ok (.istore_n 1, 1) := by decide +kernel
theorem dX12_readLends_49 : decode cX12_readLends 49 = .ok (.aload_n 0, 1) := by decide +kernel
theorem dX12_readLends_50 : decode cX12_readLends 50 = .ok (.invokevirtual 243, 3) := by decide +kernel
theorem dX12_readLends_53 : decode cX12_readLends 53 = .ok (.istore_n 2, 1) := by decide +kernel
theorem dX12_readLends_54 : decode cX12_readLends 54 = .ok (.aload_n 0, 1) := by decide +kernel
theorem dX12_readLends_55 : decode cX12_readLends 55 = .ok (.invokevirtual 189, 3) := by decide +kernel
theorem dX12_readLends_58 : decode cX12_readLends 58 = .ok (.ifCond .eq 43, 3) := by decide +kernel
theorem dX12_readLends_61 : decode cX12_readLends 61 = .ok (.iload_n 2, 1) := by decide +kernel
theorem dX12_readLends_62 : decode cX12_readLends 62 = .ok (.ifCond .lt 39, 3) := by decide +kernel
theorem dX12_readLends_65 : decode cX12_readLends 65 = .ok (.iload_n 1, 1) := by decide +kernel
theorem dX12_readLends_66 : decode cX12_readLends 66 = .ok (.iload_n 2, 1) := by decide +kernel
theorem dX12_readLends_67 : decode cX12_readLends 67 = .ok (.if_icmp .eq 25, 3) := by decide +kernel
theorem dX12_readLends_70 : decode cX12_readLends 70 = .ok (.aload_n 0, 1) := by decide +kernel
theorem dX12_readLends_71 : decode cX12_readLends 71 = .ok (.getfield 39, 3) := by decide +kernel
theorem dX12_readLends_74 : decode cX12_readLends 74 = .ok (.bipush 8, 2) := by decide +kernel
theorem dX12_readLends_76 : decode cX12_readLends 76 = .ok (.aload_n 0, 1) := by decide +kernel
theorem dX12_readLends_77 : decode cX12_readLends 77 = .ok (.getfield 199, 3) := by decide +kernel
theorem dX12_readLends_80 : decode cX12_readLends 80 = .ok (.imul, 1) := by decide +kernel
theorem dX12_readLends_81 : decode cX12_readLends 81 = .ok (.iload_n 1, 1) := by decide +kernel
theorem dX12_readLends_82 : decode cX12_readLends 82 = .ok (.iadd, 1) := by decide +kernel
theorem dX12_readLends_83 : decode cX12_readLends 83 = .ok (.iaload, 1) := by decide +kernel
theorem dX12_readLends_84 : decode cX12_readLends 84 = .ok (.iload_n 2, 1) := by decide +kernel
theorem dX12_readLends_85 : decode cX12_readLends 85 = .ok (.ishr, 1) := by decide +kernel
theorem dX12_readLends_86 : decode cX12_readLends 86 = .ok (.iconst 1, 1) := by decide +kernel
theorem dX12_readLends_87 : decode cX12_readLends 87 = .ok (.iand, 1) := by decide +kernel
theorem dX12_readLends_88 : decode cX12_readLends 88 = .ok (.iconst 1, 1) := by decide +kernel
theorem dX12_readLends_89 : decode cX12_readLends 89 = .ok (.if_icmp .ne 12, 3) := by decide +kernel
theorem dX12_readLends_92 : decode cX12_readLends 92 = .ok (.aload_n 0, 1) := by decide +kernel
theorem dX12_readLends_93 : decode cX12_readLends 93 = .ok (.iconst 3, 1) := by decide +kernel
theorem dX12_readLends_94 : decode cX12_readLends 94 = .ok (.aload_n 0, 1) := by decide +kernel
theorem dX12_readLends_95 : decode cX12_readLends 95 = .ok (.getfield 157, 3) := by decide +kernel
theorem dX12_readLends_98 : decode cX12_readLends 98 = .ok (.invokevirtual 185, 3) := by decide +kernel
theorem dX12_readLends_101 : decode cX12_readLends 101 = .ok (.aload_n 0, 1) := by decide +kernel
theorem dX12_readLends_102 : decode cX12_readLends 102 = .ok (.invokevirtual 189, 3) := by decide +kernel
theorem dX12_readLends_105 : decode cX12_readLends 105 = .ok (.ifCond .eq 34, 3) := by decide +kernel
theorem dX12_readLends_108 : decode cX12_readLends 108 = .ok (.iload_n 2, 1) := by decide +kernel
theorem dX12_readLends_109 : decode cX12_readLends 109 = .ok (.ifCond .lt 30, 3) := by decide +kernel
theorem dX12_readLends_112 : decode cX12_readLends 112 = .ok (.aload_n 0, 1) := by decide +kernel
theorem dX12_readLends_113 : decode cX12_readLends 113 = .ok (.getfield 45, 3) := by decide +kernel
theorem dX12_readLends_116 : decode cX12_readLends 116 = .ok (.bipush 8, 2) := by decide +kernel
theorem dX12_readLends_118 : decode cX12_readLends 118 = .ok (.aload_n 0, 1) := by decide +kernel
theorem dX12_readLends_119 : decode cX12_readLends 119 = .ok (.getfield 199, 3) := by decide +kernel
theorem dX12_readLends_122 : decode cX12_readLends 122 = .ok (.imul, 1) := by decide +kernel
theorem dX12_readLends_123 : decode cX12_readLends 123 = .ok (.iload_n 2, 1) := by decide +kernel
theorem dX12_readLends_124 : decode cX12_readLends 124 = .ok (.iadd, 1) := by decide +kernel
theorem dX12_readLends_125 : decode cX12_readLends 125 = .ok (.baload, 1) := by decide +kernel
theorem dX12_readLends_126 : decode cX12_readLends 126 = .ok (.ifCond .ne 13, 3) := by decide +kernel
theorem dX12_readLends_129 : decode cX12_readLends 129 = .ok (.aload_n 0, 1) := by decide +kernel
theorem dX12_readLends_130 : decode cX12_readLends 130 = .ok (.bipush 6, 2) := by decide +kernel
theorem dX12_readLends_132 : decode cX12_readLends 132 = .ok (.aload_n 0, 1) := by decide +kernel
theorem dX12_readLends_133 : decode cX12_readLends 133 = .ok (.getfield 157, 3) := by decide +kernel
theorem dX12_readLends_136 : decode cX12_readLends 136 = .ok (.invokevirtual 185, 3) := by decide +kernel
theorem dX12_readLends_139 : decode cX12_readLends 139 = .ok (.aload_n 0, 1) := by decide +kernel
theorem dX12_readLends_140 : decode cX12_readLends 140 = .ok (.iload_n 2, 1) := by decide +kernel
theorem dX12_readLends_141 : decode cX12_readLends 141 = .ok (.invokevirtual 254, 3) := by decide +kernel
theorem dX12_readLends_144 : decode cX12_readLends 144 = .ok (.istore_n 2, 1) := by decide +kernel
theorem dX12_readLends_145 : decode cX12_readLends 145 = .ok (.aload_n 0, 1) := by decide +kernel
theorem dX12_readLends_146 : decode cX12_readLends 146 = .ok (.invokevirtual 189, 3) := by decide +kernel
theorem dX12_readLends_149 : decode cX12_readLends 149 = .ok (.ifCond .ne 4, 3) := by decide +kernel
theorem dX12_readLends_152 : decode cX12_readLends 152 = .ok (.return_, 1) := by decide +kernel
theorem dX12_readLends_153 : decode cX12_readLends 153 = .ok (.aload_n 0, 1) := by decide +kernel
theorem dX12_readLends_154 : decode cX12_readLends 154 = .ok (.getfield 39, 3) := by decide +kernel
theorem dX12_readLends_157 : decode cX12_readLends 157 = .ok (.bipush 8, 2) := by decide +kernel
theorem dX12_readLends_159 : decode cX12_readLends 159 = .ok (.aload_n 0, 1) := by decide +kernel
theorem dX12_readLends_160 : decode cX12_readLends 160 = .ok (.getfield 199, 3) := by decide +kernel
theorem dX12_readLends_163 : decode cX12_readLends 163 = .ok (.imul, 1) := by decide +kernel
theorem dX12_readLends_164 : decode cX12_readLends 164 = .ok (.iload_n 1, 1) := by decide +kernel
theorem dX12_readLends_165 : decode cX12_readLends 165 = .ok (.iadd, 1) := by decide +kernel
theorem dX12_readLends_166 : decode cX12_readLends 166 = .ok (.dup2, 1) := by decide +kernel
theorem dX12_readLends_167 : decode cX12_readLends 167 = .ok (.iaload, 1) := by decide +kernel
theorem dX12_readLends_168 : decode cX12_readLends 168 = .ok (.iconst 1, 1) := by decide +kernel
theorem dX12_readLends_169 : decode cX12_readLends 169 = .ok (.iload_n 2, 1) := by decide +kernel
theorem dX12_readLends_170 : decode cX12_readLends 170 = .ok (.ishl, 1) := by decide +kernel
theorem dX12_readLends_171 : decode cX12_readLends 171 = .ok (.ior, 1) := by decide +kernel
theorem dX12_readLends_172 : decode cX12_readLends 172 = .ok (.iastore, 1) := by decide +kernel
theorem dX12_readLends_173 : decode cX12_readLends 173 = .ok (.aload_n 0, 1) := by decide +kernel
theorem dX12_readLends_174 : decode cX12_readLends 174 = .ok (.getfield 30, 3) := by decide +kernel
theorem dX12_readLends_177 : decode cX12_readLends 177 = .ok (.aload_n 0, 1) := by decide +kernel
theorem dX12_readLends_178 : decode cX12_readLends 178 = .ok (.getfield 199, 3) := by decide +kernel
theorem dX12_readLends_181 : decode cX12_readLends 181 = .ok (.dup2, 1) := by decide +kernel
theorem dX12_readLends_182 : decode cX12_readLends 182 = .ok (.iaload, 1) := by decide +kernel
theorem dX12_readLends_183 : decode cX12_readLends 183 = .ok (.iconst 1, 1) := by decide +kernel
theorem dX12_readLends_184 : decode cX12_readLends 184 = .ok (.iadd, 1) := by decide +kernel
theorem dX12_readLends_185 : decode cX12_readLends 185 = .ok (.iastore, 1) := by decide +kernel
theorem dX12_readLends_186 : decode cX12_readLends 186 = .ok (.return_, 1) := by decide +kernel
theorem dX12_fault_0 : decode cX12_fault 0 = .ok (.iload_n 1, 1) := by decide +kernel
theorem dX12_fault_1 : decode cX12_fault 1 = .ok (.ifCond .ne 10, 3) := by decide +kernel
theorem dX12_fault_4 : decode cX12_fault 4 = .ok (.aload_n 0, 1) := by decide +kernel
theorem dX12_fault_5 : decode cX12_fault 5 = .ok (.getfield 137, 3) := by decide +kernel
theorem dX12_fault_8 : decode cX12_fault 8 = .ok (.goto 16, 3) := by decide +kernel
theorem dX12_fault_11 : decode cX12_fault 11 = .ok (.iload_n 1, 1) := by decide +kernel
theorem dX12_fault_12 : decode cX12_fault 12 = .ok (.iconst 1, 1) := by decide +kernel
theorem dX12_fault_13 : decode cX12_fault 13 = .ok (.if_icmp .ne 10, 3) := by decide +kernel
theorem dX12_fault_16 : decode cX12_fault 16 = .ok (.aload_n 0, 1) := by decide +kernel
theorem dX12_fault_17 : decode cX12_fault 17 = .ok (.getfield 16, 3) := by decide +kernel
theorem dX12_fault_20 : decode cX12_fault 20 = .ok (.goto 4, 3) := by decide +kernel
theorem dX12_fault_23 : decode cX12_fault 23 = .ok (.iconst (-1), 1) := by decide +kernel
theorem dX12_fault_24 : decode cX12_fault 24 = .ok (.ireturn, 1) := by decide +kernel
theorem dX12_isIn_0 : decode cX12_isIn 0 = .ok (.iload_n 0, 1) := by decide +kernel
theorem dX12_isIn_1 : decode cX12_isIn 1 = .ok (.iload_n 1, 1) := by decide +kernel
theorem dX12_isIn_2 : decode cX12_isIn 2 = .ok (.if_icmp .lt 12, 3) := by decide +kernel
theorem dX12_isIn_5 : decode cX12_isIn 5 = .ok (.iload_n 0, 1) := by decide +kernel
theorem dX12_isIn_6 : decode cX12_isIn 6 = .ok (.iload_n 2, 1) := by decide +kernel
theorem dX12_isIn_7 : decode cX12_isIn 7 = .ok (.if_icmp .gt 7, 3) := by decide +kernel
theorem dX12_isIn_10 : decode cX12_isIn 10 = .ok (.iconst 1, 1) := by decide +kernel
theorem dX12_isIn_11 : decode cX12_isIn 11 = .ok (.goto 4, 3) := by decide +kernel
theorem dX12_isIn_14 : decode cX12_isIn 14 = .ok (.iconst 0, 1) := by decide +kernel
theorem dX12_isIn_15 : decode cX12_isIn 15 = .ok (.ireturn, 1) := by decide +kernel
theorem dX12_smithMany_0 : decode cX12_smithMany 0 = .ok (.aload_n 0, 1) := by decide +kernel
theorem dX12_smithMany_1 : decode cX12_smithMany 1 = .ok (.getfield 20, 3) := by decide +kernel
theorem dX12_smithMany_4 : decode cX12_smithMany 4 = .ok (.aload_n 0, 1) := by decide +kernel
theorem dX12_smithMany_5 : decode cX12_smithMany 5 = .ok (.getfield 205, 3) := by decide +kernel
theorem dX12_smithMany_8 : decode cX12_smithMany 8 = .ok (.iaload, 1) := by decide +kernel
theorem dX12_smithMany_9 : decode cX12_smithMany 9 = .ok (.ireturn, 1) := by decide +kernel
theorem dX12_horseMany_0 : decode cX12_horseMany 0 = .ok (.aload_n 0, 1) := by decide +kernel
theorem dX12_horseMany_1 : decode cX12_horseMany 1 = .ok (.getfield 24, 3) := by decide +kernel
theorem dX12_horseMany_4 : decode cX12_horseMany 4 = .ok (.aload_n 0, 1) := by decide +kernel
theorem dX12_horseMany_5 : decode cX12_horseMany 5 = .ok (.getfield 205, 3) := by decide +kernel
theorem dX12_horseMany_8 : decode cX12_horseMany 8 = .ok (.iaload, 1) := by decide +kernel
theorem dX12_horseMany_9 : decode cX12_horseMany 9 = .ok (.ireturn, 1) := by decide +kernel
theorem dX12_isSmith_0 : decode cX12_isSmith 0 = .ok (.iload_n 1, 1) := by decide +kernel
theorem dX12_isSmith_1 : decode cX12_isSmith 1 = .ok (.iconst 0, 1) := by decide +kernel
theorem dX12_isSmith_2 : decode cX12_isSmith 2 = .ok (.aload_n 0, 1) := by decide +kernel
theorem dX12_isSmith_3 : decode cX12_isSmith 3 = .ok (.invokevirtual 257, 3) := by decide +kernel
theorem dX12_isSmith_6 : decode cX12_isSmith 6 = .ok (.iconst 1, 1) := by decide +kernel
theorem dX12_isSmith_7 : decode cX12_isSmith 7 = .ok (.isub, 1) := by decide +kernel
theorem dX12_isSmith_8 : decode cX12_isSmith 8 = .ok (.invokestatic 260, 3) := by decide +kernel
theorem dX12_isSmith_11 : decode cX12_isSmith 11 = .ok (.ireturn, 1) := by decide +kernel
theorem dX12_isHorse_0 : decode cX12_isHorse 0 = .ok (.iload_n 1, 1) := by decide +kernel
theorem dX12_isHorse_1 : decode cX12_isHorse 1 = .ok (.iconst 0, 1) := by decide +kernel
theorem dX12_isHorse_2 : decode cX12_isHorse 2 = .ok (.aload_n 0, 1) := by decide +kernel
theorem dX12_isHorse_3 : decode cX12_isHorse 3 = .ok (.invokevirtual 264, 3) := by decide +kernel
theorem dX12_isHorse_6 : decode cX12_isHorse 6 = .ok (.iconst 1, 1) := by decide +kernel
theorem dX12_isHorse_7 : decode cX12_isHorse 7 = .ok (.isub, 1) := by decide +kernel
theorem dX12_isHorse_8 : decode cX12_isHorse 8 = .ok (.invokestatic 260, 3) := by decide +kernel
theorem dX12_isHorse_11 : decode cX12_isHorse 11 = .ok (.ireturn, 1) := by decide +kernel
theorem dX12_bitsOf_0 : decode cX12_bitsOf 0 = .ok (.iconst 0, 1) := by decide +kernel
theorem dX12_bitsOf_1 : decode cX12_bitsOf 1 = .ok (.istore_n 1, 1) := by decide +kernel
theorem dX12_bitsOf_2 : decode cX12_bitsOf 2 = .ok (.iconst 0, 1) := by decide +kernel
theorem dX12_bitsOf_3 : decode cX12_bitsOf 3 = .ok (.istore_n 2, 1) := by decide +kernel
theorem dX12_bitsOf_4 : decode cX12_bitsOf 4 = .ok (.iload_n 2, 1) := by decide +kernel
theorem dX12_bitsOf_5 : decode cX12_bitsOf 5 = .ok (.bipush 31, 2) := by decide +kernel
theorem dX12_bitsOf_7 : decode cX12_bitsOf 7 = .ok (.if_icmp .ge 17, 3) := by decide +kernel
theorem dX12_bitsOf_10 : decode cX12_bitsOf 10 = .ok (.iload_n 1, 1) := by decide +kernel
theorem dX12_bitsOf_11 : decode cX12_bitsOf 11 = .ok (.iload_n 0, 1) := by decide +kernel
theorem dX12_bitsOf_12 : decode cX12_bitsOf 12 = .ok (.iload_n 2, 1) := by decide +kernel
theorem dX12_bitsOf_13 : decode cX12_bitsOf 13 = .ok (.ishr, 1) := by decide +kernel
theorem dX12_bitsOf_14 : decode cX12_bitsOf 14 = .ok (.iconst 1, 1) := by decide +kernel
theorem dX12_bitsOf_15 : decode cX12_bitsOf 15 = .ok (.iand, 1) := by decide +kernel
theorem dX12_bitsOf_16 : decode cX12_bitsOf 16 = .ok (.iadd, 1) := by decide +kernel
theorem dX12_bitsOf_17 : decode cX12_bitsOf 17 = .ok (.istore_n 1, 1) := by decide +kernel
theorem dX12_bitsOf_18 : decode cX12_bitsOf 18 = .ok (.iinc 2 1, 3) := by decide +kernel
theorem dX12_bitsOf_21 : decode cX12_bitsOf 21 = .ok (.goto (-17), 3) := by decide +kernel
theorem dX12_bitsOf_24 : decode cX12_bitsOf 24 = .ok (.iload_n 1, 1) := by decide +kernel
theorem dX12_bitsOf_25 : decode cX12_bitsOf 25 = .ok (.ireturn, 1) := by decide +kernel
theorem dX12_begin_0 : decode cX12_begin 0 = .ok (.iconst 0, 1) := by decide +kernel
theorem dX12_begin_1 : decode cX12_begin 1 = .ok (.istore_n 1, 1) := by decide +kernel
theorem dX12_begin_2 : decode cX12_begin 2 = .ok (.iload_n 1, 1) := by decide +kernel
theorem dX12_begin_3 : decode cX12_begin 3 = .ok (.bipush 80, 2) := by decide +kernel
theorem dX12_begin_5 : decode cX12_begin 5 = .ok (.if_icmp .ge 29, 3) := by decide +kernel
theorem dX12_begin_8 : decode cX12_begin 8 = .ok (.aload_n 0, 1) := by decide +kernel
theorem dX12_begin_9 : decode cX12_begin 9 = .ok (.getfield 65, 3) := by decide +kernel
theorem dX12_begin_12 : decode cX12_begin 12 = .ok (.iload_n 1, 1) := by decide +kernel
theorem dX12_begin_13 : decode cX12_begin 13 = .ok (.aload_n 0, 1) := by decide +kernel
theorem dX12_begin_14 : decode cX12_begin 14 = .ok (.getfield 42, 3) := by decide +kernel
theorem dX12_begin_17 : decode cX12_begin 17 = .ok (.bipush 80, 2) := by decide +kernel
theorem dX12_begin_19 : decode cX12_begin 19 = .ok (.aload_n 0, 1) := by decide +kernel
theorem dX12_begin_20 : decode cX12_begin 20 = .ok (.getfield 205, 3) := by decide +kernel
theorem dX12_begin_23 : decode cX12_begin 23 = .ok (.imul, 1) := by decide +kernel
theorem dX12_begin_24 : decode cX12_begin 24 = .ok (.iload_n 1, 1) := by decide +kernel
theorem dX12_begin_25 : decode cX12_begin 25 = .ok (.iadd, 1) := by decide +kernel
theorem dX12_begin_26 : decode cX12_begin 26 = .ok (.iaload, 1) := by decide +kernel
theorem dX12_begin_27 : decode cX12_begin 27 = .ok (.iastore, 1) := by decide +kernel
theorem dX12_begin_28 : decode cX12_begin 28 = .ok (.iinc 1 1, 3) := by decide +kernel
theorem dX12_begin_31 : decode cX12_begin 31 = .ok (.goto (-29), 3) := by decide +kernel
theorem dX12_begin_34 : decode cX12_begin 34 = .ok (.aload_n 0, 1) := by decide +kernel
theorem dX12_begin_35 : decode cX12_begin 35 = .ok (.iconst 0, 1) := by decide +kernel
theorem dX12_begin_36 : decode cX12_begin 36 = .ok (.putfield 267, 3) := by decide +kernel
theorem dX12_begin_39 : decode cX12_begin 39 = .ok (.aload_n 0, 1) := by decide +kernel
theorem dX12_begin_40 : decode cX12_begin 40 = .ok (.iconst 0, 1) := by decide +kernel
theorem dX12_begin_41 : decode cX12_begin 41 = .ok (.putfield 270, 3) := by decide +kernel
theorem dX12_begin_44 : decode cX12_begin 44 = .ok (.aload_n 0, 1) := by decide +kernel
theorem dX12_begin_45 : decode cX12_begin 45 = .ok (.iconst 0, 1) := by decide +kernel
theorem dX12_begin_46 : decode cX12_begin 46 = .ok (.putfield 273, 3) := by decide +kernel
theorem dX12_begin_49 : decode cX12_begin 49 = .ok (.return_, 1) := by decide +kernel
theorem dX12_layNow_0 : decode cX12_layNow 0 = .ok (.iconst 0, 1) := by decide +kernel
theorem dX12_layNow_1 : decode cX12_layNow 1 = .ok (.istore_n 1, 1) := by decide +kernel
theorem dX12_layNow_2 : decode cX12_layNow 2 = .ok (.iload_n 1, 1) := by decide +kernel
theorem dX12_layNow_3 : decode cX12_layNow 3 = .ok (.bipush 80, 2) := by decide +kernel
theorem dX12_layNow_5 : decode cX12_layNow 5 = .ok (.if_icmp .ge 21, 3) := by decide +kernel
theorem dX12_layNow_8 : decode cX12_layNow 8 = .ok (.aload_n 0, 1) := by decide +kernel
theorem dX12_layNow_9 : decode cX12_layNow 9 = .ok (.getfield 62, 3) := by decide +kernel
theorem dX12_layNow_12 : decode cX12_layNow 12 = .ok (.iload_n 1, 1) := by decide +kernel
theorem dX12_layNow_13 : decode cX12_layNow 13 = .ok (.aload_n 0, 1) := by decide +kernel
theorem dX12_layNow_14 : decode cX12_layNow 14 = .ok (.getfield 65, 3) := by decide +kernel
theorem dX12_layNow_17 : decode cX12_layNow 17 = .ok (.iload_n 1, 1) := by decide +kernel
theorem dX12_layNow_18 : decode cX12_layNow 18 = .ok (.iaload, 1) := by decide +kernel
theorem dX12_layNow_19 : decode cX12_layNow 19 = .ok (.iastore, 1) := by decide +kernel
theorem dX12_layNow_20 : decode cX12_layNow 20 = .ok (.iinc 1 1, 3) := by decide +kernel
theorem dX12_layNow_23 : decode cX12_layNow 23 = .ok (.goto (-21), 3) := by decide +kernel
theorem dX12_layNow_26 : decode cX12_layNow 26 = .ok (.return_, 1) := by decide +kernel
theorem dX12_keepNow_0 : decode cX12_keepNow 0 = .ok (.iconst 0, 1) := by decide +kernel
theorem dX12_keepNow_1 : decode cX12_keepNow 1 = .ok (.istore_n 1, 1) := by decide +kernel
theorem dX12_keepNow_2 : decode cX12_keepNow 2 = .ok (.iload_n 1, 1) := by decide +kernel
theorem dX12_keepNow_3 : decode cX12_keepNow 3 = .ok (.bipush 80, 2) := by decide +kernel
theorem dX12_keepNow_5 : decode cX12_keepNow 5 = .ok (.if_icmp .ge 21, 3) := by decide +kernel
theorem dX12_keepNow_8 : decode cX12_keepNow 8 = .ok (.aload_n 0, 1) := by decide +kernel
theorem dX12_keepNow_9 : decode cX12_keepNow 9 = .ok (.getfield 65, 3) := by decide +kernel
theorem dX12_keepNow_12 : decode cX12_keepNow 12 = .ok (.iload_n 1, 1) := by decide +kernel
theorem dX12_keepNow_13 : decode cX12_keepNow 13 = .ok (.aload_n 0, 1) := by decide +kernel
theorem dX12_keepNow_14 : decode cX12_keepNow 14 = .ok (.getfield 62, 3) := by decide +kernel
theorem dX12_keepNow_17 : decode cX12_keepNow 17 = .ok (.iload_n 1, 1) := by decide +kernel
theorem dX12_keepNow_18 : decode cX12_keepNow 18 = .ok (.iaload, 1) := by decide +kernel
theorem dX12_keepNow_19 : decode cX12_keepNow 19 = .ok (.iastore, 1) := by decide +kernel
theorem dX12_keepNow_20 : decode cX12_keepNow 20 = .ok (.iinc 1 1, 3) := by decide +kernel
theorem dX12_keepNow_23 : decode cX12_keepNow 23 = .ok (.goto (-21), 3) := by decide +kernel
theorem dX12_keepNow_26 : decode cX12_keepNow 26 = .ok (.return_, 1) := by decide +kernel
theorem dX12_smithSum_0 : decode cX12_smithSum 0 = .ok (.iconst 0, 1) := by decide +kernel
theorem dX12_smithSum_1 : decode cX12_smithSum 1 = .ok (.istore_n 2, 1) := by decide +kernel
theorem dX12_smithSum_2 : decode cX12_smithSum 2 = .ok (.iconst 0, 1) := by decide +kernel
theorem dX12_smithSum_3 : decode cX12_smithSum 3 = .ok (.istore_n 3, 1) := by decide +kernel
theorem dX12_smithSum_4 : decode cX12_smithSum 4 = .ok (.iload_n 3, 1) := by decide +kernel
theorem dX12_smithSum_5 : decode cX12_smithSum 5 = .ok (.bipush 10, 2) := by decide +kernel
theorem dX12_smithSum_7 : decode cX12_smithSum 7 = .ok (.if_icmp .ge 23, 3) := by decide +kernel
theorem dX12_smithSum_10 : decode cX12_smithSum 10 = .ok (.iload_n 2, 1) := by decide +kernel
theorem dX12_smithSum_11 : decode cX12_smithSum 11 = .ok (.aload_n 0, 1) := by decide +kernel
theorem dX12_smithSum_12 : decode cX12_smithSum 12 = .ok (.getfield 62, 3) := by decide +kernel
theorem dX12_smithSum_15 : decode cX12_smithSum 15 = .ok (.bipush 10, 2) := by decide +kernel
theorem dX12_smithSum_17 : decode cX12_smithSum 17 = .ok (.iload_n 1, 1) := by decide +kernel
theorem dX12_smithSum_18 : decode cX12_smithSum 18 = .ok (.imul, 1) := by decide +kernel
theorem dX12_smithSum_19 : decode cX12_smithSum 19 = .ok (.iload_n 3, 1) := by decide +kernel
theorem dX12_smithSum_20 : decode cX12_smithSum 20 = .ok (.iadd, 1) := by decide +kernel
theorem dX12_smithSum_21 : decode cX12_smithSum 21 = .ok (.iaload, 1) := by decide +kernel
theorem dX12_smithSum_22 : decode cX12_smithSum 22 = .ok (.iadd, 1) := by decide +kernel
theorem dX12_smithSum_23 : decode cX12_smithSum 23 = .ok (.istore_n 2, 1) := by decide +kernel
theorem dX12_smithSum_24 : decode cX12_smithSum 24 = .ok (.iinc 3 1, 3) := by decide +kernel
theorem dX12_smithSum_27 : decode cX12_smithSum 27 = .ok (.goto (-23), 3) := by decide +kernel
theorem dX12_smithSum_30 : decode cX12_smithSum 30 = .ok (.iload_n 2, 1) := by decide +kernel
theorem dX12_smithSum_31 : decode cX12_smithSum 31 = .ok (.ireturn, 1) := by decide +kernel
theorem dX12_horseSum_0 : decode cX12_horseSum 0 = .ok (.iconst 0, 1) := by decide +kernel
theorem dX12_horseSum_1 : decode cX12_horseSum 1 = .ok (.istore_n 2, 1) := by decide +kernel
theorem dX12_horseSum_2 : decode cX12_horseSum 2 = .ok (.iconst 0, 1) := by decide +kernel
theorem dX12_horseSum_3 : decode cX12_horseSum 3 = .ok (.istore_n 3, 1) := by decide +kernel
theorem dX12_horseSum_4 : decode cX12_horseSum 4 = .ok (.iload_n 3, 1) := by decide +kernel
theorem dX12_horseSum_5 : decode cX12_horseSum 5 = .ok (.bipush 8, 2) := by decide +kernel
theorem dX12_horseSum_7 : decode cX12_horseSum 7 = .ok (.if_icmp .ge 23, 3) := by decide +kernel
theorem dX12_horseSum_10 : decode cX12_horseSum 10 = .ok (.iload_n 2, 1) := by decide +kernel
theorem dX12_horseSum_11 : decode cX12_horseSum 11 = .ok (.aload_n 0, 1) := by decide +kernel
theorem dX12_horseSum_12 : decode cX12_horseSum 12 = .ok (.getfield 62, 3) := by decide +kernel
theorem dX12_horseSum_15 : decode cX12_horseSum 15 = .ok (.bipush 10, 2) := by decide +kernel
theorem dX12_horseSum_17 : decode cX12_horseSum 17 = .ok (.iload_n 3, 1) := by decide +kernel
theorem dX12_horseSum_18 : decode cX12_horseSum 18 = .ok (.imul, 1) := by decide +kernel
theorem dX12_horseSum_19 : decode cX12_horseSum 19 = .ok (.iload_n 1, 1) := by decide +kernel
theorem dX12_horseSum_20 : decode cX12_horseSum 20 = .ok (.iadd, 1) := by decide +kernel
theorem dX12_horseSum_21 : decode cX12_horseSum 21 = .ok (.iaload, 1) := by decide +kernel
theorem dX12_horseSum_22 : decode cX12_horseSum 22 = .ok (.iadd, 1) := by decide +kernel
theorem dX12_horseSum_23 : decode cX12_horseSum 23 = .ok (.istore_n 2, 1) := by decide +kernel
theorem dX12_horseSum_24 : decode cX12_horseSum 24 = .ok (.iinc 3 1, 3) := by decide +kernel
theorem dX12_horseSum_27 : decode cX12_horseSum 27 = .ok (.goto (-23), 3) := by decide +kernel
theorem dX12_horseSum_30 : decode cX12_horseSum 30 = .ok (.iload_n 2, 1) := by decide +kernel
theorem dX12_horseSum_31 : decode cX12_horseSum 31 = .ok (.ireturn, 1) := by decide +kernel
theorem dX12_leastOf_0 : decode cX12_leastOf 0 = .ok (.iconst 0, 1) := by decide +kernel
theorem dX12_leastOf_1 : decode cX12_leastOf 1 = .ok (.istore_n 1, 1) := by decide +kernel
theorem dX12_leastOf_2 : decode cX12_leastOf 2 = .ok (.iconst 0, 1) := by decide +kernel
theorem dX12_leastOf_3 : decode cX12_leastOf 3 = .ok (.istore_n 2, 1) := by decide +kernel
theorem dX12_leastOf_4 : decode cX12_leastOf 4 = .ok (.iload_n 2, 1) := by decide +kernel
theorem dX12_leastOf_5 : decode cX12_leastOf 5 = .ok (.bipush 8, 2) := by decide +kernel
theorem dX12_leastOf_7 : decode cX12_leastOf 7 = .ok (.if_icmp .ge 24, 3) := by decide +kernel
theorem dX12_leastOf_10 : decode cX12_leastOf 10 = .ok (.aload_n 0, 1) := by decide +kernel
theorem dX12_leastOf_11 : decode cX12_leastOf 11 = .ok (.iload_n 2, 1) := by decide +kernel
theorem dX12_leastOf_12 : decode cX12_leastOf 12 = .ok (.invokevirtual 276, 3) := by decide +kernel
theorem dX12_leastOf_15 : decode cX12_leastOf 15 = .ok (.iload_n 1, 1) := by decide +kernel
theorem dX12_leastOf_16 : decode cX12_leastOf 16 = .ok (.if_icmp .le 9, 3) := by decide +kernel
theorem dX12_leastOf_19 : decode cX12_leastOf 19 = .ok (.aload_n 0, 1) := by decide +kernel
theorem dX12_leastOf_20 : decode cX12_leastOf 20 = .ok (.iload_n 2, 1) := by decide +kernel
theorem dX12_leastOf_21 : decode cX12_leastOf 21 = .ok (.invokevirtual 276, 3) := by decide +kernel
theorem dX12_leastOf_24 : decode cX12_leastOf 24 = .ok (.istore_n 1, 1) := by decide +kernel
theorem dX12_leastOf_25 : decode cX12_leastOf 25 = .ok (.iinc 2 1, 3) := by decide +kernel
theorem dX12_leastOf_28 : decode cX12_leastOf 28 = .ok (.goto (-24), 3) := by decide +kernel
theorem dX12_leastOf_31 : decode cX12_leastOf 31 = .ok (.iconst 0, 1) := by decide +kernel
theorem dX12_leastOf_32 : decode cX12_leastOf 32 = .ok (.istore_n 2, 1) := by decide +kernel
theorem dX12_leastOf_33 : decode cX12_leastOf 33 = .ok (.iload_n 2, 1) := by decide +kernel
theorem dX12_leastOf_34 : decode cX12_leastOf 34 = .ok (.bipush 10, 2) := by decide +kernel
theorem dX12_leastOf_36 : decode cX12_leastOf 36 = .ok (.if_icmp .ge 24, 3) := by decide +kernel
theorem dX12_leastOf_39 : decode cX12_leastOf 39 = .ok (.aload_n 0, 1) := by decide +kernel
theorem dX12_leastOf_40 : decode cX12_leastOf 40 = .ok (.iload_n 2, 1) := by decide +kernel
theorem dX12_leastOf_41 : decode cX12_leastOf 41 = .ok (.invokevirtual 279, 3) := by decide +kernel
theorem dX12_leastOf_44 : decode cX12_leastOf 44 = .ok (.iload_n 1, 1) := by decide +kernel
theorem dX12_leastOf_45 : decode cX12_leastOf 45 = .ok (.if_icmp .le 9, 3) := by decide +kernel
theorem dX12_leastOf_48 : decode cX12_leastOf 48 = .ok (.aload_n 0, 1) := by decide +kernel
theorem dX12_leastOf_49 : decode cX12_leastOf 49 = .ok (.iload_n 2, 1) := by decide +kernel
theorem dX12_leastOf_50 : decode cX12_leastOf 50 = .ok (.invokevirtual 279, 3) := by decide +kernel
theorem dX12_leastOf_53 : decode cX12_leastOf 53 = .ok (.istore_n 1, 1) := by decide +kernel
theorem dX12_leastOf_54 : decode cX12_leastOf 54 = .ok (.iinc 2 1, 3) := by decide +kernel
theorem dX12_leastOf_57 : decode cX12_leastOf 57 = .ok (.goto (-24), 3) := by decide +kernel
theorem dX12_leastOf_60 : decode cX12_leastOf 60 = .ok (.iload_n 1, 1) := by decide +kernel
theorem dX12_leastOf_61 : decode cX12_leastOf 61 = .ok (.ireturn, 1) := by decide +kernel
theorem dX12_busySmiths_0 : decode cX12_busySmiths 0 = .ok (.iconst 0, 1) := by decide +kernel
theorem dX12_busySmiths_1 : decode cX12_busySmiths 1 = .ok (.istore_n 1, 1) := by decide +kernel
theorem dX12_busySmiths_2 : decode cX12_busySmiths 2 = .ok (.aload_n 0, 1) := by decide +kernel
theorem dX12_busySmiths_3 : decode cX12_busySmiths 3 = .ok (.invokevirtual 282, 3) := by decide +kernel
theorem dX12_busySmiths_6 : decode cX12_busySmiths 6 = .ok (.istore_n 2, 1) := by decide +kernel
theorem dX12_busySmiths_7 : decode cX12_busySmiths 7 = .ok (.iconst 0, 1) := by decide +kernel
theorem dX12_busySmiths_8 : decode cX12_busySmiths 8 = .ok (.istore_n 3, 1) := by decide +kernel
theorem dX12_busySmiths_9 : decode cX12_busySmiths 9 = .ok (.iload_n 3, 1) := by decide +kernel
theorem dX12_busySmiths_10 : decode cX12_busySmiths 10 = .ok (.aload_n 0, 1) := by decide +kernel
theorem dX12_busySmiths_11 : decode cX12_busySmiths 11 = .ok (.invokevirtual 257, 3) := by decide +kernel
theorem dX12_busySmiths_14 : decode cX12_busySmiths 14 = .ok (.if_icmp .ge 28, 3) := by decide +kernel
theorem dX12_busySmiths_17 : decode cX12_busySmiths 17 = .ok (.iload_n 1, 1) := by decide +kernel
theorem dX12_busySmiths_18 : decode cX12_busySmiths 18 = .ok (.aload_n 0, 1) := by decide +kernel
theorem dX12_busySmiths_19 : decode cX12_busySmiths 19 = .ok (.iload_n 3, 1) := by decide +kernel
theorem dX12_busySmiths_20 : decode cX12_busySmiths 20 = .ok (.invokevirtual 276, 3) := by decide +kernel
theorem dX12_busySmiths_23 : decode cX12_busySmiths 23 = .ok (.iload_n 2, 1) := by decide +kernel
theorem dX12_busySmiths_24 : decode cX12_busySmiths 24 = .ok (.if_icmp .ne 9, 3) := by decide +kernel
theorem dX12_busySmiths_27 : decode cX12_busySmiths 27 = .ok (.iconst 1, 1) := by decide +kernel
theorem dX12_busySmiths_28 : decode cX12_busySmiths 28 = .ok (.iload_n 3, 1) := by decide +kernel
theorem dX12_busySmiths_29 : decode cX12_busySmiths 29 = .ok (.ishl, 1) := by decide +kernel
theorem dX12_busySmiths_30 : decode cX12_busySmiths 30 = .ok (.goto 4, 3) := by decide +kernel
theorem dX12_busySmiths_33 : decode cX12_busySmiths 33 = .ok (.iconst 0, 1) := by decide +kernel
theorem dX12_busySmiths_34 : decode cX12_busySmiths 34 = .ok (.ior, 1) := by decide +kernel
theorem dX12_busySmiths_35 : decode cX12_busySmiths 35 = .ok (.istore_n 1, 1) := by decide +kernel
theorem dX12_busySmiths_36 : decode cX12_busySmiths 36 = .ok (.iinc 3 1, 3) := by decide +kernel
theorem dX12_busySmiths_39 : decode cX12_busySmiths 39 = .ok (.goto (-30), 3) := by decide +kernel
theorem dX12_busySmiths_42 : decode cX12_busySmiths 42 = .ok (.iload_n 1, 1) := by decide +kernel
theorem dX12_busySmiths_43 : decode cX12_busySmiths 43 = .ok (.ireturn, 1) := by decide +kernel
theorem dX12_busyHorses_0 : decode cX12_busyHorses 0 = .ok (.iconst 0, 1) := by decide +kernel
theorem dX12_busyHorses_1 : decode cX12_busyHorses 1 = .ok (.istore_n 1, 1) := by decide +kernel
theorem dX12_busyHorses_2 : decode cX12_busyHorses 2 = .ok (.aload_n 0, 1) := by decide +kernel
theorem dX12_busyHorses_3 : decode cX12_busyHorses 3 = .ok (.invokevirtual 282, 3) := by decide +kernel
theorem dX12_busyHorses_6 : decode cX12_busyHorses 6 = .ok (.istore_n 2, 1) := by decide +kernel
theorem dX12_busyHorses_7 : decode cX12_busyHorses 7 = .ok (.iconst 0, 1) := by decide +kernel
theorem dX12_busyHorses_8 : decode cX12_busyHorses 8 = .ok (.istore_n 3, 1) := by decide +kernel
theorem dX12_busyHorses_9 : decode cX12_busyHorses 9 = .ok (.iload_n 3, 1) := by decide +kernel
theorem dX12_busyHorses_10 : decode cX12_busyHorses 10 = .ok (.aload_n 0, 1) := by decide +kernel
theorem dX12_busyHorses_11 : decode cX12_busyHorses 11 = .ok (.invokevirtual 264, 3) := by decide +kernel
theorem dX12_busyHorses_14 : decode cX12_busyHorses 14 = .ok (.if_icmp .ge 28, 3) := by decide +kernel
theorem dX12_busyHorses_17 : decode cX12_busyHorses 17 = .ok (.iload_n 1, 1) := by decide +kernel
theorem dX12_busyHorses_18 : decode cX12_busyHorses 18 = .ok (.aload_n 0, 1) := by decide +kernel
theorem dX12_busyHorses_19 : decode cX12_busyHorses 19 = .ok (.iload_n 3, 1) := by decide +kernel
theorem dX12_busyHorses_20 : decode cX12_busyHorses 20 = .ok (.invokevirtual 279, 3) := by decide +kernel
theorem dX12_busyHorses_23 : decode cX12_busyHorses 23 = .ok (.iload_n 2, 1) := by decide +kernel
theorem dX12_busyHorses_24 : decode cX12_busyHorses 24 = .ok (.if_icmp .ne 9, 3) := by decide +kernel
theorem dX12_busyHorses_27 : decode cX12_busyHorses 27 = .ok (.iconst 1, 1) := by decide +kernel
theorem dX12_busyHorses_28 : decode cX12_busyHorses 28 = .ok (.iload_n 3, 1) := by decide +kernel
theorem dX12_busyHorses_29 : decode cX12_busyHorses 29 = .ok (.ishl, 1) := by decide +kernel
theorem dX12_busyHorses_30 : decode cX12_busyHorses 30 = .ok (.goto 4, 3) := by decide +kernel
theorem dX12_busyHorses_33 : decode cX12_busyHorses 33 = .ok (.iconst 0, 1) := by decide +kernel
theorem dX12_busyHorses_34 : decode cX12_busyHorses 34 = .ok (.ior, 1) := by decide +kernel
theorem dX12_busyHorses_35 : decode cX12_busyHorses 35 = .ok (.istore_n 1, 1) := by decide +kernel
theorem dX12_busyHorses_36 : decode cX12_busyHorses 36 = .ok (.iinc 3 1, 3) := by decide +kernel
theorem dX12_busyHorses_39 : decode cX12_busyHorses 39 = .ok (.goto (-30), 3) := by decide +kernel
theorem dX12_busyHorses_42 : decode cX12_busyHorses 42 = .ok (.iload_n 1, 1) := by decide +kernel
theorem dX12_busyHorses_43 : decode cX12_busyHorses 43 = .ok (.ireturn, 1) := by decide +kernel
theorem dX12_lacks_0 : decode cX12_lacks 0 = .ok (.aload_n 0, 1) := by decide +kernel
theorem dX12_lacks_1 : decode cX12_lacks 1 = .ok (.iload_n 1, 1) := by decide +kernel
theorem dX12_lacks_2 : decode cX12_lacks 2 = .ok (.invokevirtual 285, 3) := by decide +kernel
theorem dX12_lacks_5 : decode cX12_lacks 5 = .ok (.ifCond .eq 25, 3) := by decide +kernel
theorem dX12_lacks_8 : decode cX12_lacks 8 = .ok (.aload_n 0, 1) := by decide +kernel
theorem dX12_lacks_9 : decode cX12_lacks 9 = .ok (.iload_n 2, 1) := by decide +kernel
theorem dX12_lacks_10 : decode cX12_lacks 10 = .ok (.invokevirtual 288, 3) := by decide +kernel
theorem dX12_lacks_13 : decode cX12_lacks 13 = .ok (.ifCond .eq 17, 3) := by decide +kernel
theorem dX12_lacks_16 : decode cX12_lacks 16 = .ok (.aload_n 0, 1) := by decide +kernel
theorem dX12_lacks_17 : decode cX12_lacks 17 = .ok (.getfield 65, 3) := by decide +kernel
theorem dX12_lacks_20 : decode cX12_lacks 20 = .ok (.bipush 10, 2) := by decide +kernel
theorem dX12_lacks_22 : decode cX12_lacks 22 = .ok (.iload_n 1, 1) := by decide +kernel
theorem dX12_lacks_23 : decode cX12_lacks 23 = .ok (.imul, 1) := by decide +kernel
theorem dX12_lacks_24 : decode cX12_lacks 24 = .ok (.iload_n 2, 1) := by decide +kernel
theorem dX12_lacks_25 : decode cX12_lacks 25 = .ok (.iadd, 1) := by decide +kernel
theorem dX12_lacks_26 : decode cX12_lacks 26 = .ok (.iaload, 1) := by decide +kernel
theorem dX12_lacks_27 : decode cX12_lacks 27 = .ok (.goto 4, 3) := by decide +kernel
theorem dX12_lacks_30 : decode cX12_lacks 30 = .ok (.iconst (-1), 1) := by decide +kernel
theorem dX12_lacks_31 : decode cX12_lacks 31 = .ok (.ireturn, 1) := by decide +kernel
theorem dX12_sum_0 : decode cX12_sum 0 = .ok (.iload_n 2, 1) := by decide +kernel
theorem dX12_sum_1 : decode cX12_sum 1 = .ok (.ifCond .eq 14, 3) := by decide +kernel
theorem dX12_sum_4 : decode cX12_sum 4 = .ok (.aload_n 0, 1) := by decide +kernel
theorem dX12_sum_5 : decode cX12_sum 5 = .ok (.iload_n 1, 1) := by decide +kernel
theorem dX12_sum_6 : decode cX12_sum 6 = .ok (.invokevirtual 288, 3) := by decide +kernel
theorem dX12_sum_9 : decode cX12_sum 9 = .ok (.ifCond .ne 16, 3) := by decide +kernel
theorem dX12_sum_12 : decode cX12_sum 12 = .ok (.goto 11, 3) := by decide +kernel
theorem dX12_sum_15 : decode cX12_sum 15 = .ok (.aload_n 0, 1) := by decide +kernel
theorem dX12_sum_16 : decode cX12_sum 16 = .ok (.iload_n 1, 1) := by decide +kernel
theorem dX12_sum_17 : decode cX12_sum 17 = .ok (.invokevirtual 285, 3) := by decide +kernel
theorem dX12_sum_20 : decode cX12_sum 20 = .ok (.ifCond .ne 5, 3) := by decide +kernel
theorem dX12_sum_23 : decode cX12_sum 23 = .ok (.iconst (-1), 1) := by decide +kernel
theorem dX12_sum_24 : decode cX12_sum 24 = .ok (.ireturn, 1) := by decide +kernel
theorem dX12_sum_25 : decode cX12_sum 25 = .ok (.aload_n 0, 1) := by decide +kernel
theorem dX12_sum_26 : decode cX12_sum 26 = .ok (.invokevirtual 291, 3) := by decide +kernel
theorem dX12_sum_29 : decode cX12_sum 29 = .ok (.iload_n 2, 1) := by decide +kernel
theorem dX12_sum_30 : decode cX12_sum 30 = .ok (.ifCond .eq 11, 3) := by decide +kernel
theorem dX12_sum_33 : decode cX12_sum 33 = .ok (.aload_n 0, 1) := by decide +kernel
theorem dX12_sum_34 : decode cX12_sum 34 = .ok (.iload_n 1, 1) := by decide +kernel
theorem dX12_sum_35 : decode cX12_sum 35 = .ok (.invokevirtual 279, 3) := by decide +kernel
theorem dX12_sum_38 : decode cX12_sum 38 = .ok (.goto 8, 3) := by decide +kernel
theorem dX12_sum_41 : decode cX12_sum 41 = .ok (.aload_n 0, 1) := by decide +kernel
theorem dX12_sum_42 : decode cX12_sum 42 = .ok (.iload_n 1, 1) := by decide +kernel
theorem dX12_sum_43 : decode cX12_sum 43 = .ok (.invokevirtual 276, 3) := by decide +kernel
theorem dX12_sum_46 : decode cX12_sum 46 = .ok (.ireturn, 1) := by decide +kernel
theorem dX12_least_0 : decode cX12_least 0 = .ok (.aload_n 0, 1) := by decide +kernel
theorem dX12_least_1 : decode cX12_least 1 = .ok (.invokevirtual 291, 3) := by decide +kernel
theorem dX12_least_4 : decode cX12_least 4 = .ok (.aload_n 0, 1) := by decide +kernel
theorem dX12_least_5 : decode cX12_least 5 = .ok (.invokevirtual 282, 3) := by decide +kernel
theorem dX12_least_8 : decode cX12_least 8 = .ok (.ireturn, 1) := by decide +kernel
theorem dX12_busy_0 : decode cX12_busy 0 = .ok (.aload_n 0, 1) := by decide +kernel
theorem dX12_busy_1 : decode cX12_busy 1 = .ok (.invokevirtual 291, 3) := by decide +kernel
theorem dX12_busy_4 : decode cX12_busy 4 = .ok (.iload_n 1, 1) := by decide +kernel
theorem dX12_busy_5 : decode cX12_busy 5 = .ok (.ifCond .eq 10, 3) := by decide +kernel
theorem dX12_busy_8 : decode cX12_busy 8 = .ok (.aload_n 0, 1) := by decide +kernel
theorem dX12_busy_9 : decode cX12_busy 9 = .ok (.invokevirtual 294, 3) := by decide +kernel
theorem dX12_busy_12 : decode cX12_busy 12 = .ok (.goto 7, 3) := by decide +kernel
theorem dX12_busy_15 : decode cX12_busy 15 = .ok (.aload_n 0, 1) := by decide +kernel
theorem dX12_busy_16 : decode cX12_busy 16 = .ok (.invokevirtual 297, 3) := by decide +kernel
theorem dX12_busy_19 : decode cX12_busy 19 = .ok (.ireturn, 1) := by decide +kernel
theorem dX12_isCovered_0 : decode cX12_isCovered 0 = .ok (.aload_n 0, 1) := by decide +kernel
theorem dX12_isCovered_1 : decode cX12_isCovered 1 = .ok (.getfield 74, 3) := by decide +kernel
theorem dX12_isCovered_4 : decode cX12_isCovered 4 = .ok (.iconst 0, 1) := by decide +kernel
theorem dX12_isCovered_5 : decode cX12_isCovered 5 = .ok (.iconst 0, 1) := by decide +kernel
theorem dX12_isCovered_6 : decode cX12_isCovered 6 = .ok (.iastore, 1) := by decide +kernel
theorem dX12_isCovered_7 : decode cX12_isCovered 7 = .ok (.iconst 1, 1) := by decide +kernel
theorem dX12_isCovered_8 : decode cX12_isCovered 8 = .ok (.istore_n 2, 1) := by decide +kernel
theorem dX12_isCovered_9 : decode cX12_isCovered 9 = .ok (.iload_n 2, 1) := by decide +kernel
theorem dX12_isCovered_10 : decode cX12_isCovered 10 = .ok (.iload_n 1, 1) := by decide +kernel
theorem dX12_isCovered_11 : decode cX12_isCovered 11 = .ok (.if_icmp .gt 77, 3) := by decide +kernel
theorem dX12_isCovered_14 : decode cX12_isCovered 14 = .ok (.iload_n 2, 1) := by decide +kernel
theorem dX12_isCovered_15 : decode cX12_isCovered 15 = .ok (.iload_n 1, 1) := by decide +kernel
theorem dX12_isCovered_16 : decode cX12_isCovered 16 = .ok (.iconst (-1), 1) := by decide +kernel
theorem dX12_isCovered_17 : decode cX12_isCovered 17 = .ok (.ixor, 1) := by decide +kernel
theorem dX12_isCovered_18 : decode cX12_isCovered 18 = .ok (.iand, 1) := by decide +kernel
theorem dX12_isCovered_19 : decode cX12_isCovered 19 = .ok (.ifCond .eq 6, 3) := by decide +kernel
theorem dX12_isCovered_22 : decode cX12_isCovered 22 = .ok (.goto 60, 3) := by decide +kernel
theorem dX12_isCovered_25 : decode cX12_isCovered 25 = .ok (.iconst 0, 1) := by decide +kernel
theorem dX12_isCovered_26 : decode cX12_isCovered 26 = .ok (.istore_n 3, 1) := by decide +kernel
theorem dX12_isCovered_27 : decode cX12_isCovered 27 = .ok (.iload_n 2, 1) := by decide +kernel
theorem dX12_isCovered_28 : decode cX12_isCovered 28 = .ok (.iload_n 3, 1) := by decide +kernel
theorem dX12_isCovered_29 : decode cX12_isCovered 29 = .ok (.ishr, 1) := by decide +kernel
theorem dX12_isCovered_30 : decode cX12_isCovered 30 = .ok (.iconst 1, 1) := by decide +kernel
theorem dX12_isCovered_31 : decode cX12_isCovered 31 = .ok (.iand, 1) := by decide +kernel
theorem dX12_isCovered_32 : decode cX12_isCovered 32 = .ok (.ifCond .ne 9, 3) := by decide +kernel
theorem dX12_isCovered_35 : decode cX12_isCovered 35 = .ok (.iinc 3 1, 3) := by decide +kernel
theorem dX12_isCovered_38 : decode cX12_isCovered 38 = .ok (.goto (-11), 3) := by decide +kernel
theorem dX12_isCovered_41 : decode cX12_isCovered 41 = .ok (.aload_n 0, 1) := by decide +kernel
theorem dX12_isCovered_42 : decode cX12_isCovered 42 = .ok (.getfield 74, 3) := by decide +kernel
theorem dX12_isCovered_45 : decode cX12_isCovered 45 = .ok (.iload_n 2, 1) := by decide +kernel
theorem dX12_isCovered_46 : decode cX12_isCovered 46 = .ok (.aload_n 0, 1) := by decide +kernel
theorem dX12_isCovered_47 : decode cX12_isCovered 47 = .ok (.getfield 74, 3) := by decide +kernel
theorem dX12_isCovered_50 : decode cX12_isCovered 50 = .ok (.iload_n 2, 1) := by decide +kernel
theorem dX12_isCovered_51 : decode cX12_isCovered 51 = .ok (.iload_n 2, 1) := by decide +kernel
theorem dX12_isCovered_52 : decode cX12_isCovered 52 = .ok (.iconst 1, 1) := by decide +kernel
theorem dX12_isCovered_53 : decode cX12_isCovered 53 = .ok (.isub, 1) := by decide +kernel
theorem dX12_isCovered_54 : decode cX12_isCovered 54 = .ok (.iand, 1) := by decide +kernel
theorem dX12_isCovered_55 : decode cX12_isCovered 55 = .ok (.iaload, 1) := by decide +kernel
theorem dX12_isCovered_56 : decode cX12_isCovered 56 = .ok (.aload_n 0, 1) := by decide +kernel
theorem dX12_isCovered_57 : decode cX12_isCovered 57 = .ok (.getfield 71, 3) := by decide +kernel
theorem dX12_isCovered_60 : decode cX12_isCovered 60 = .ok (.iload_n 3, 1) := by decide +kernel
theorem dX12_isCovered_61 : decode cX12_isCovered 61 = .ok (.iaload, 1) := by decide +kernel
theorem dX12_isCovered_62 : decode cX12_isCovered 62 = .ok (.ior, 1) := by decide +kernel
theorem dX12_isCovered_63 : decode cX12_isCovered 63 = .ok (.iastore, 1) := by decide +kernel
theorem dX12_isCovered_64 : decode cX12_isCovered 64 = .ok (.aload_n 0, 1) := by decide +kernel
theorem dX12_isCovered_65 : decode cX12_isCovered 65 = .ok (.getfield 74, 3) := by decide +kernel
theorem dX12_isCovered_68 : decode cX12_isCovered 68 = .ok (.iload_n 2, 1) := by decide +kernel
theorem dX12_isCovered_69 : decode cX12_isCovered 69 = .ok (.iaload, 1) := by decide +kernel
theorem dX12_isCovered_70 : decode cX12_isCovered 70 = .ok (.invokestatic 300, 3) := by decide +kernel
theorem dX12_isCovered_73 : decode cX12_isCovered 73 = .ok (.iload_n 2, 1) := by decide +kernel
theorem dX12_isCovered_74 : decode cX12_isCovered 74 = .ok (.invokestatic 300, 3) := by decide +kernel
theorem dX12_isCovered_77 : decode cX12_isCovered 77 = .ok (.if_icmp .ge 5, 3) := by decide +kernel
theorem dX12_isCovered_80 : decode cX12_isCovered 80 = .ok (.iconst 0, 1) := by decide +kernel
theorem dX12_isCovered_81 : decode cX12_isCovered 81 = .ok (.ireturn, 1) := by decide +kernel
theorem dX12_isCovered_82 : decode cX12_isCovered 82 = .ok (.iinc 2 1, 3) := by decide +kernel
theorem dX12_isCovered_85 : decode cX12_isCovered 85 = .ok (.goto (-76), 3) := by decide +kernel
theorem dX12_isCovered_88 : decode cX12_isCovered 88 = .ok (.iconst 1, 1) := by decide +kernel
theorem dX12_isCovered_89 : decode cX12_isCovered 89 = .ok (.ireturn, 1) := by decide +kernel
theorem dX12_canGoOn_0 : decode cX12_canGoOn 0 = .ok (.iconst 0, 1) := by decide +kernel
theorem dX12_canGoOn_1 : decode cX12_canGoOn 1 = .ok (.istore 5, 2) := by decide +kernel
theorem dX12_canGoOn_3 : decode cX12_canGoOn 3 = .ok (.iload 5, 2) := by decide +kernel
theorem dX12_canGoOn_5 : decode cX12_canGoOn 5 = .ok (.bipush 8, 2) := by decide +kernel
theorem dX12_canGoOn_7 : decode cX12_canGoOn 7 = .ok (.if_icmp .ge 83, 3) := by decide +kernel
theorem dX12_canGoOn_10 : decode cX12_canGoOn 10 = .ok (.aload_n 0, 1) := by decide +kernel
theorem dX12_canGoOn_11 : decode cX12_canGoOn 11 = .ok (.getfield 71, 3) := by decide +kernel
theorem dX12_canGoOn_14 : decode cX12_canGoOn 14 = .ok (.iload 5, 2) := by decide +kernel
theorem dX12_canGoOn_16 : decode cX12_canGoOn 16 = .ok (.iconst 0, 1) := by decide +kernel
theorem dX12_canGoOn_17 : decode cX12_canGoOn 17 = .ok (.iastore, 1) := by decide +kernel
theorem dX12_canGoOn_18 : decode cX12_canGoOn 18 = .ok (.iconst 0, 1) := by decide +kernel
theorem dX12_canGoOn_19 : decode cX12_canGoOn 19 = .ok (.istore 6, 2) := by decide +kernel
theorem dX12_canGoOn_21 : decode cX12_canGoOn 21 = .ok (.iload 6, 2) := by decide +kernel
theorem dX12_canGoOn_23 : decode cX12_canGoOn 23 = .ok (.bipush 10, 2) := by decide +kernel
theorem dX12_canGoOn_25 : decode cX12_canGoOn 25 = .ok (.if_icmp .ge 59, 3) := by decide +kernel
theorem dX12_canGoOn_28 : decode cX12_canGoOn 28 = .ok (.iload 5, 2) := by decide +kernel
theorem dX12_canGoOn_30 : decode cX12_canGoOn 30 = .ok (.iload_n 1, 1) := by decide +kernel
theorem dX12_canGoOn_31 : decode cX12_canGoOn 31 = .ok (.if_icmp .lt 53, 3) := by decide +kernel
theorem dX12_canGoOn_34 : decode cX12_canGoOn 34 = .ok (.aload_n 0, 1) := by decide +kernel
theorem dX12_canGoOn_35 : decode cX12_canGoOn 35 = .ok (.getfield 71, 3) := by decide +kernel
theorem dX12_canGoOn_38 : decode cX12_canGoOn 38 = .ok (.iload 5, 2) := by decide +kernel
theorem dX12_canGoOn_40 : decode cX12_canGoOn 40 = .ok (.dup2, 1) := by decide +kernel
theorem dX12_canGoOn_41 : decode cX12_canGoOn 41 = .ok (.iaload, 1) := by decide +kernel
theorem dX12_canGoOn_42 : decode cX12_canGoOn 42 = .ok (.iload_n 2, 1) := by decide +kernel
theorem dX12_canGoOn_43 : decode cX12_canGoOn 43 = .ok (.iload 6, 2) := by decide +kernel
theorem dX12_canGoOn_45 : decode cX12_canGoOn 45 = .ok (.ishr, 1) := by decide +kernel
theorem dX12_canGoOn_46 : decode cX12_canGoOn 46 = .ok (.iconst 1, 1) := by decide +kernel
theorem dX12_canGoOn_47 : decode cX12_canGoOn 47 = .ok (.iand, 1) := by decide +kernel
theorem dX12_canGoOn_48 : decode cX12_canGoOn 48 = .ok (.iconst 1, 1) := by decide +kernel
theorem dX12_canGoOn_49 : decode cX12_canGoOn 49 = .ok (.if_icmp .ne 26, 3) := by decide +kernel
theorem dX12_canGoOn_52 : decode cX12_canGoOn 52 = .ok (.aload_n 0, 1) := by decide +kernel
theorem dX12_canGoOn_53 : decode cX12_canGoOn 53 = .ok (.getfield 62, 3) := by decide +kernel
theorem dX12_canGoOn_56 : decode cX12_canGoOn 56 = .ok (.bipush 10, 2) := by decide +kernel
theorem dX12_canGoOn_58 : decode cX12_canGoOn 58 = .ok (.iload 5, 2) := by decide +kernel
theorem dX12_canGoOn_60 : decode cX12_canGoOn 60 = .ok (.imul, 1) := by decide +kernel
theorem dX12_canGoOn_61 : decode cX12_canGoOn 61 = .ok (.iload 6, 2) := by decide +kernel
theorem dX12_canGoOn_63 : decode cX12_canGoOn 63 = .ok (.iadd, 1) := by decide +kernel
theorem dX12_canGoOn_64 : decode cX12_canGoOn 64 = .ok (.iaload, 1) := by decide +kernel
theorem dX12_canGoOn_65 : decode cX12_canGoOn 65 = .ok (.ifCond .le 10, 3) := by decide +kernel
theorem dX12_canGoOn_68 : decode cX12_canGoOn 68 = .ok (.iconst 1, 1) := by decide +kernel
theorem dX12_canGoOn_69 : decode cX12_canGoOn 69 = .ok (.iload 6, 2) := by decide +kernel
theorem dX12_canGoOn_71 : decode cX12_canGoOn 71 = .ok (.ishl, 1) := by decide +kernel
theorem dX12_canGoOn_72 : decode cX12_canGoOn 72 = .ok (.goto 4, 3) := by decide +kernel
theorem dX12_canGoOn_75 : decode cX12_canGoOn 75 = .ok (.iconst 0, 1) := by decide +kernel
theorem dX12_canGoOn_76 : decode cX12_canGoOn 76 = .ok (.ior, 1) := by decide +kernel
theorem dX12_canGoOn_77 : decode cX12_canGoOn 77 = .ok (.iastore, 1) := by decide +kernel
theorem dX12_canGoOn_78 : decode cX12_canGoOn 78 = .ok (.iinc 6 1, 3) := by decide +kernel
theorem dX12_canGoOn_81 : decode cX12_canGoOn 81 = .ok (.goto (-60), 3) := by decide +kernel
theorem dX12_canGoOn_84 : decode cX12_canGoOn 84 = .ok (.iinc 5 1, 3) := by decide +kernel
theorem dX12_canGoOn_87 : decode cX12_canGoOn 87 = .ok (.goto (-84), 3) := by decide +kernel
theorem dX12_canGoOn_90 : decode cX12_canGoOn 90 = .ok (.aload_n 0, 1) := by decide +kernel
theorem dX12_canGoOn_91 : decode cX12_canGoOn 91 = .ok (.iload_n 3, 1) := by decide +kernel
theorem dX12_canGoOn_92 : decode cX12_canGoOn 92 = .ok (.invokevirtual 303, 3) := by decide +kernel
theorem dX12_canGoOn_95 : decode cX12_canGoOn 95 = .ok (.ifCond .ne 5, 3) := by decide +kernel
theorem dX12_canGoOn_98 : decode cX12_canGoOn 98 = .ok (.iconst 0, 1) := by decide +kernel
theorem dX12_canGoOn_99 : decode cX12_canGoOn 99 = .ok (.ireturn, 1) := by decide +kernel
theorem dX12_canGoOn_100 : decode cX12_canGoOn 100 = .ok (.iconst 0, 1) := by decide +kernel
theorem dX12_canGoOn_101 : decode cX12_canGoOn 101 = .ok (.istore 5, 2) := by decide +kernel
theorem dX12_canGoOn_103 : decode cX12_canGoOn 103 = .ok (.iload 5, 2) := by decide +kernel
theorem dX12_canGoOn_105 : decode cX12_canGoOn 105 = .ok (.bipush 10, 2) := by decide +kernel
theorem dX12_canGoOn_107 : decode cX12_canGoOn 107 = .ok (.if_icmp .ge 67, 3) := by decide +kernel
theorem dX12_canGoOn_110 : decode cX12_canGoOn 110 = .ok (.aload_n 0, 1) := by decide +kernel
theorem dX12_canGoOn_111 : decode cX12_canGoOn 111 = .ok (.getfield 71, 3) := by decide +kernel
theorem dX12_canGoOn_114 : decode cX12_canGoOn 114 = .ok (.iload 5, 2) := by decide +kernel
theorem dX12_canGoOn_116 : decode cX12_canGoOn 116 = .ok (.iconst 0, 1) := by decide +kernel
theorem dX12_canGoOn_117 : decode cX12_canGoOn 117 = .ok (.iastore, 1) := by decide +kernel
theorem dX12_canGoOn_118 : decode cX12_canGoOn 118 = .ok (.iload_n 1, 1) := by decide +kernel
theorem dX12_canGoOn_119 : decode cX12_canGoOn 119 = .ok (.istore 6, 2) := by decide +kernel
theorem dX12_canGoOn_121 : decode cX12_canGoOn 121 = .ok (.iload 6, 2) := by decide +kernel
theorem dX12_canGoOn_123 : decode cX12_canGoOn 123 = .ok (.bipush 8, 2) := by decide +kernel
theorem dX12_canGoOn_125 : decode cX12_canGoOn 125 = .ok (.if_icmp .ge 43, 3) := by decide +kernel
theorem dX12_canGoOn_128 : decode cX12_canGoOn 128 = .ok (.aload_n 0, 1) := by decide +kernel
theorem dX12_canGoOn_129 : decode cX12_canGoOn 129 = .ok (.getfield 71, 3) := by decide +kernel
theorem dX12_canGoOn_132 : decode cX12_canGoOn 132 = .ok (.iload 5, 2) := by decide +kernel
theorem dX12_canGoOn_134 : decode cX12_canGoOn 134 = .ok (.dup2, 1) := by decide +kernel
theorem dX12_canGoOn_135 : decode cX12_canGoOn 135 = .ok (.iaload, 1) := by decide +kernel
theorem dX12_canGoOn_136 : decode cX12_canGoOn 136 = .ok (.aload_n 0, 1) := by decide +kernel
theorem dX12_canGoOn_137 : decode cX12_canGoOn 137 = .ok (.getfield 62, 3) := by decide +kernel
theorem dX12_canGoOn_140 : decode cX12_canGoOn 140 = .ok (.bipush 10, 2) := by decide +kernel
theorem dX12_canGoOn_142 : decode cX12_canGoOn 142 = .ok (.iload 6, 2) := by decide +kernel
theorem dX12_canGoOn_144 : decode cX12_canGoOn 144 = .ok (.imul, 1) := by decide +kernel
theorem dX12_canGoOn_145 : decode cX12_canGoOn 145 = .ok (.iload 5, 2) := by decide +kernel
theorem dX12_canGoOn_147 : decode cX12_canGoOn 147 = .ok (.iadd, 1) := by decide +kernel
theorem dX12_canGoOn_148 : decode cX12_canGoOn 148 = .ok (.iaload, 1) := by decide +kernel
theorem dX12_canGoOn_149 : decode cX12_canGoOn 149 = .ok (.ifCond .le 10, 3) := by decide +kernel
theorem dX12_canGoOn_152 : decode cX12_canGoOn 152 = .ok (.iconst 1, 1) := by decide +kernel
theorem dX12_canGoOn_153 : decode cX12_canGoOn 153 = .ok (.iload 6, 2) := by decide +kernel
theorem dX12_canGoOn_155 : decode cX12_canGoOn 155 = .ok (.ishl, 1) := by decide +kernel
theorem dX12_canGoOn_156 : decode cX12_canGoOn 156 = .ok (.goto 4, 3) := by decide +kernel
theorem dX12_canGoOn_159 : decode cX12_canGoOn 159 = .ok (.iconst 0, 1) := by decide +kernel
theorem dX12_canGoOn_160 : decode cX12_canGoOn 160 = .ok (.ior, 1) := by decide +kernel
theorem dX12_canGoOn_161 : decode cX12_canGoOn 161 = .ok (.iastore, 1) := by decide +kernel
theorem dX12_canGoOn_162 : decode cX12_canGoOn 162 = .ok (.iinc 6 1, 3) := by decide +kernel
theorem dX12_canGoOn_165 : decode cX12_canGoOn 165 = .ok (.goto (-44), 3) := by decide +kernel
theorem dX12_canGoOn_168 : decode cX12_canGoOn 168 = .ok (.iinc 5 1, 3) := by decide +kernel
theorem dX12_canGoOn_171 : decode cX12_canGoOn 171 = .ok (.goto (-68), 3) := by decide +kernel
theorem dX12_canGoOn_174 : decode cX12_canGoOn 174 = .ok (.aload_n 0, 1) := by decide +kernel
theorem dX12_canGoOn_175 : decode cX12_canGoOn 175 = .ok (.iload 4, 2) := by decide +kernel
theorem dX12_canGoOn_177 : decode cX12_canGoOn 177 = .ok (.invokevirtual 303, 3) := by decide +kernel
theorem dX12_canGoOn_180 : decode cX12_canGoOn 180 = .ok (.ireturn, 1) := by decide +kernel
theorem dX12_layRound_0 : decode cX12_layRound 0 = .ok (.aload_n 0, 1) := by decide +kernel
theorem dX12_layRound_1 : decode cX12_layRound 1 = .ok (.invokevirtual 297, 3) := by decide +kernel
theorem dX12_layRound_4 : decode cX12_layRound 4 = .ok (.istore_n 1, 1) := by decide +kernel
theorem dX12_layRound_5 : decode cX12_layRound 5 = .ok (.aload_n 0, 1) := by decide +kernel
theorem dX12_layRound_6 : decode cX12_layRound 6 = .ok (.invokevirtual 294, 3) := by decide +kernel
theorem dX12_layRound_9 : decode cX12_layRound 9 = .ok (.istore_n 2, 1) := by decide +kernel
theorem dX12_layRound_10 : decode cX12_layRound 10 = .ok (.sipush 1023, 3) := by decide +kernel
theorem dX12_layRound_13 : decode cX12_layRound 13 = .ok (.istore_n 3, 1) := by decide +kernel
theorem dX12_layRound_14 : decode cX12_layRound 14 = .ok (.iconst 0, 1) := by decide +kernel
theorem dX12_layRound_15 : decode cX12_layRound 15 = .ok (.istore 4, 2) := by decide +kernel
theorem dX12_layRound_17 : decode cX12_layRound 17 = .ok (.iload 4, 2) := by decide +kernel
theorem dX12_layRound_19 : decode cX12_layRound 19 = .ok (.bipush 8, 2) := by decide +kernel
theorem dX12_layRound_21 : decode cX12_layRound 21 = .ok (.if_icmp .ge 138, 3) := by decide +kernel
theorem dX12_layRound_24 : decode cX12_layRound 24 = .ok (.aload_n 0, 1) := by decide +kernel
theorem dX12_layRound_25 : decode cX12_layRound 25 = .ok (.getfield 68, 3) := by decide +kernel
theorem dX12_layRound_28 : decode cX12_layRound 28 = .ok (.iload 4, 2) := by decide +kernel
theorem dX12_layRound_30 : decode cX12_layRound 30 = .ok (.iconst (-1), 1) := by decide +kernel
theorem dX12_layRound_31 : decode cX12_layRound 31 = .ok (.iastore, 1) := by decide +kernel
theorem dX12_layRound_32 : decode cX12_layRound 32 = .ok (.iload_n 1, 1) := by decide +kernel
theorem dX12_layRound_33 : decode cX12_layRound 33 = .ok (.iconst 1, 1) := by decide +kernel
theorem dX12_layRound_34 : decode cX12_layRound 34 = .ok (.iload 4, 2) := by decide +kernel
theorem dX12_layRound_36 : decode cX12_layRound 36 = .ok (.iconst 1, 1) := by decide +kernel
theorem dX12_layRound_37 : decode cX12_layRound 37 = .ok (.iadd, 1) := by decide +kernel
theorem dX12_layRound_38 : decode cX12_layRound 38 = .ok (.ishl, 1) := by decide +kernel
theorem dX12_layRound_39 : decode cX12_layRound 39 = .ok (.iconst 1, 1) := by decide +kernel
theorem dX12_layRound_40 : decode cX12_layRound 40 = .ok (.isub, 1) := by decide +kernel
theorem dX12_layRound_41 : decode cX12_layRound 41 = .ok (.iconst (-1), 1) := by decide +kernel
theorem dX12_layRound_42 : decode cX12_layRound 42 = .ok (.ixor, 1) := by decide +kernel
theorem dX12_layRound_43 : decode cX12_layRound 43 = .ok (.iand, 1) := by decide +kernel
theorem dX12_layRound_44 : decode cX12_layRound 44 = .ok (.istore 5, 2) := by decide +kernel
theorem dX12_layRound_46 : decode cX12_layRound 46 = .ok (.iconst 0, 1) := by decide +kernel
theorem dX12_layRound_47 : decode cX12_layRound 47 = .ok (.istore 6, 2) := by decide +kernel
theorem dX12_layRound_49 : decode cX12_layRound 49 = .ok (.iload 6, 2) := by decide +kernel
theorem dX12_layRound_51 : decode cX12_layRound 51 = .ok (.bipush 10, 2) := by decide +kernel
theorem dX12_layRound_53 : decode cX12_layRound 53 = .ok (.if_icmp .ge 63, 3) := by decide +kernel
theorem dX12_layRound_56 : decode cX12_layRound 56 = .ok (.iload_n 3, 1) := by decide +kernel
theorem dX12_layRound_57 : decode cX12_layRound 57 = .ok (.iload 6, 2) := by decide +kernel
theorem dX12_layRound_59 : decode cX12_layRound 59 = .ok (.ishr, 1) := by decide +kernel
theorem dX12_layRound_60 : decode cX12_layRound 60 = .ok (.iconst 1, 1) := by decide +kernel
theorem dX12_layRound_61 : decode cX12_layRound 61 = .ok (.iand, 1) := by decide +kernel
theorem dX12_layRound_62 : decode cX12_layRound 62 = .ok (.ifCond .eq 48, 3) := by decide +kernel
theorem dX12_layRound_65 : decode cX12_layRound 65 = .ok (.aload_n 0, 1) := by decide +kernel
theorem dX12_layRound_66 : decode cX12_layRound 66 = .ok (.getfield 62, 3) := by decide +kernel
theorem dX12_layRound_69 : decode cX12_layRound 69 = .ok (.bipush 10, 2) := by decide +kernel
theorem dX12_layRound_71 : decode cX12_layRound 71 = .ok (.iload 4, 2) := by decide +kernel
theorem dX12_layRound_73 : decode cX12_layRound 73 = .ok (.imul, 1) := by decide +kernel
theorem dX12_layRound_74 : decode cX12_layRound 74 = .ok (.iload 6, 2) := by decide +kernel
theorem dX12_layRound_76 : decode cX12_layRound 76 = .ok (.iadd, 1) := by decide +kernel
theorem dX12_layRound_77 : decode cX12_layRound 77 = .ok (.iaload, 1) := by decide +kernel
theorem dX12_layRound_78 : decode cX12_layRound 78 = .ok (.ifCond .eq 32, 3) := by decide +kernel
theorem dX12_layRound_81 : decode cX12_layRound 81 = .ok (.aload_n 0, 1) := by decide +kernel
theorem dX12_layRound_82 : decode cX12_layRound 82 = .ok (.iload 4, 2) := by decide +kernel
theorem dX12_layRound_84 : decode cX12_layRound 84 = .ok (.iconst 1, 1) := by decide +kernel
theorem dX12_layRound_85 : decode cX12_layRound 85 = .ok (.iadd, 1) := by decide +kernel
theorem dX12_layRound_86 : decode cX12_layRound 86 = .ok (.iload_n 3, 1) := by decide +kernel
theorem dX12_layRound_87 : decode cX12_layRound 87 = .ok (.iconst 1, 1) := by decide +kernel
theorem dX12_layRound_88 : decode cX12_layRound 88 = .ok (.iload 6, 2) := by decide +kernel
theorem dX12_layRound_90 : decode cX12_layRound 90 = .ok (.ishl, 1) := by decide +kernel
theorem dX12_layRound_91 : decode cX12_layRound 91 = .ok (.iconst (-1), 1) := by decide +kernel
theorem dX12_layRound_92 : decode cX12_layRound 92 = .ok (.ixor, 1) := by decide +kernel
theorem dX12_layRound_93 : decode cX12_layRound 93 = .ok (.iand, 1) := by decide +kernel
theorem dX12_layRound_94 : decode cX12_layRound 94 = .ok (.iload 5, 2) := by decide +kernel
theorem dX12_layRound_96 : decode cX12_layRound 96 = .ok (.iload_n 2, 1) := by decide +kernel
theorem dX12_layRound_97 : decode cX12_layRound 97 = .ok (.iconst 1, 1) := by decide +kernel
theorem dX12_layRound_98 : decode cX12_layRound 98 = .ok (.iload 6, 2) := by decide +kernel
theorem dX12_layRound_100 : decode cX12_layRound 100 = .ok (.ishl, 1) := by decide +kernel
theorem dX12_layRound_101 : decode cX12_layRound 101 = .ok (.iconst (-1), 1) := by decide +kernel
theorem dX12_layRound_102 : decode cX12_layRound 102 = .ok (.ixor, 1) := by decide +kernel
theorem dX12_layRound_103 : decode cX12_layRound 103 = .ok (.iand, 1) := by decide +kernel
theorem dX12_layRound_104 : decode cX12_layRound 104 = .ok (.invokevirtual 306, 3) := by decide +kernel
theorem dX12_layRound_107 : decode cX12_layRound 107 = .ok (.ifCond .ne 9, 3) := by decide +kernel
theorem dX12_layRound_110 : decode cX12_layRound 110 = .ok (.iinc 6 1, 3) := by decide +kernel
theorem dX12_layRound_113 : decode cX12_layRound 113 = .ok (.goto (-64), 3) := by decide +kernel
theorem dX12_layRound_116 : decode cX12_layRound 116 = .ok (.iload 6, 2) := by decide +kernel
theorem dX12_layRound_118 : decode cX12_layRound 118 = .ok (.bipush 10, 2) := by decide +kernel
theorem dX12_layRound_120 : decode cX12_layRound 120 = .ok (.if_icmp .ne 6, 3) := by decide +kernel
theorem dX12_layRound_123 : decode cX12_layRound 123 = .ok (.goto 30, 3) := by decide +kernel
theorem dX12_layRound_126 : decode cX12_layRound 126 = .ok (.aload_n 0, 1) := by decide +kernel
theorem dX12_layRound_127 : decode cX12_layRound 127 = .ok (.getfield 68, 3) := by decide +kernel
theorem dX12_layRound_130 : decode cX12_layRound 130 = .ok (.iload 4, 2) := by decide +kernel
theorem dX12_layRound_132 : decode cX12_layRound 132 = .ok (.iload 6, 2) := by decide +kernel
theorem dX12_layRound_134 : decode cX12_layRound 134 = .ok (.iastore, 1) := by decide +kernel
theorem dX12_layRound_135 : decode cX12_layRound 135 = .ok (.iload_n 3, 1) := by decide +kernel
theorem dX12_layRound_136 : decode cX12_layRound 136 = .ok (.iconst 1, 1) := by decide +kernel
theorem dX12_layRound_137 : decode cX12_layRound 137 = .ok (.iload 6, 2) := by decide +kernel
theorem dX12_layRound_139 : decode cX12_layRound 139 = .ok (.ishl, 1) := by decide +kernel
theorem dX12_layRound_140 : decode cX12_layRound 140 = .ok (.iconst (-1), 1) := by decide +kernel
theorem dX12_layRound_141 : decode cX12_layRound 141 = .ok (.ixor, 1) := by decide +kernel
theorem dX12_layRound_142 : decode cX12_layRound 142 = .ok (.iand, 1) := by decide +kernel
theorem dX12_layRound_143 : decode cX12_layRound 143 = .ok (.istore_n 3, 1) := by decide +kernel
theorem dX12_layRound_144 : decode cX12_layRound 144 = .ok (.iload_n 2, 1) := by decide +kernel
theorem dX12_layRound_145 : decode cX12_layRound 145 = .ok (.iconst 1, 1) := by decide +kernel
theorem dX12_layRound_146 : decode cX12_layRound 146 = .ok (.iload 6, 2) := by decide +kernel
theorem dX12_layRound_148 : decode cX12_layRound 148 = .ok (.ishl, 1) := by decide +kernel
theorem dX12_layRound_149 : decode cX12_layRound 149 = .ok (.iconst (-1), 1) := by decide +kernel
theorem dX12_layRound_150 : decode cX12_layRound 150 = .ok (.ixor, 1) := by decide +kernel
theorem dX12_layRound_151 : decode cX12_layRound 151 = .ok (.iand, 1) := by decide +kernel
theorem dX12_layRound_152 : decode cX12_layRound 152 = .ok (.istore_n 2, 1) := by decide +kernel
theorem dX12_layRound_153 : decode cX12_layRound 153 = .ok (.iinc 4 1, 3) := by decide +kernel
theorem dX12_layRound_156 : decode cX12_layRound 156 = .ok (.goto (-139), 3) := by decide +kernel
theorem dX12_layRound_159 : decode cX12_layRound 159 = .ok (.aload_n 0, 1) := by decide +kernel
theorem dX12_layRound_160 : decode cX12_layRound 160 = .ok (.invokevirtual 282, 3) := by decide +kernel
theorem dX12_layRound_163 : decode cX12_layRound 163 = .ok (.istore 4, 2) := by decide +kernel
theorem dX12_layRound_165 : decode cX12_layRound 165 = .ok (.iload 4, 2) := by decide +kernel
theorem dX12_layRound_167 : decode cX12_layRound 167 = .ok (.istore 5, 2) := by decide +kernel
theorem dX12_layRound_169 : decode cX12_layRound 169 = .ok (.iconst 0, 1) := by decide +kernel
theorem dX12_layRound_170 : decode cX12_layRound 170 = .ok (.istore 6, 2) := by decide +kernel
theorem dX12_layRound_172 : decode cX12_layRound 172 = .ok (.iload 6, 2) := by decide +kernel
theorem dX12_layRound_174 : decode cX12_layRound 174 = .ok (.bipush 8, 2) := by decide +kernel
theorem dX12_layRound_176 : decode cX12_layRound 176 = .ok (.if_icmp .ge 67, 3) := by decide +kernel
theorem dX12_layRound_179 : decode cX12_layRound 179 = .ok (.aload_n 0, 1) := by decide +kernel
theorem dX12_layRound_180 : decode cX12_layRound 180 = .ok (.getfield 68, 3) := by decide +kernel
theorem dX12_layRound_183 : decode cX12_layRound 183 = .ok (.iload 6, 2) := by decide +kernel
theorem dX12_layRound_185 : decode cX12_layRound 185 = .ok (.iaload, 1) := by decide +kernel
theorem dX12_layRound_186 : decode cX12_layRound 186 = .ok (.ifCond .ge 15, 3) := by decide +kernel
theorem dX12_layRound_189 : decode cX12_layRound 189 = .ok (.iload 4, 2) := by decide +kernel
theorem dX12_layRound_191 : decode cX12_layRound 191 = .ok (.aload_n 0, 1) := by decide +kernel
theorem dX12_layRound_192 : decode cX12_layRound 192 = .ok (.iload 6, 2) := by decide +kernel
theorem dX12_layRound_194 : decode cX12_layRound 194 = .ok (.invokevirtual 276, 3) := by decide +kernel
theorem dX12_layRound_197 : decode cX12_layRound 197 = .ok (.isub, 1) := by decide +kernel
theorem dX12_layRound_198 : decode cX12_layRound 198 = .ok (.goto 21, 3) := by decide +kernel
theorem dX12_layRound_201 : decode cX12_layRound 201 = .ok (.aload_n 0, 1) := by decide +kernel
theorem dX12_layRound_202 : decode cX12_layRound 202 = .ok (.getfield 62, 3) := by decide +kernel
theorem dX12_layRound_205 : decode cX12_layRound 205 = .ok (.bipush 10, 2) := by decide +kernel
theorem dX12_layRound_207 : decode cX12_layRound 207 = .ok (.iload 6, 2) := by decide +kernel
theorem dX12_layRound_209 : decode cX12_layRound 209 = .ok (.imul, 1) := by decide +kernel
theorem dX12_layRound_210 : decode cX12_layRound 210 = .ok (.aload_n 0, 1) := by decide +kernel
theorem dX12_layRound_211 : decode cX12_layRound 211 = .ok (.getfield 68, 3) := by decide +kernel
theorem dX12_layRound_214 : decode cX12_layRound 214 = .ok (.iload 6, 2) := by decide +kernel
theorem dX12_layRound_216 : decode cX12_layRound 216 = .ok (.iaload, 1) := by decide +kernel
theorem dX12_layRound_217 : decode cX12_layRound 217 = .ok (.iadd, 1) := by decide +kernel
theorem dX12_layRound_218 : decode cX12_layRound 218 = .ok (.iaload, 1) := by decide +kernel
theorem dX12_layRound_219 : decode cX12_layRound 219 = .ok (.istore 7, 2) := by decide +kernel
theorem dX12_layRound_221 : decode cX12_layRound 221 = .ok (.iload 7, 2) := by decide +kernel
theorem dX12_layRound_223 : decode cX12_layRound 223 = .ok (.iload 5, 2) := by decide +kernel
theorem dX12_layRound_225 : decode cX12_layRound 225 = .ok (.if_icmp .ge 8, 3) := by decide +kernel
theorem dX12_layRound_228 : decode cX12_layRound 228 = .ok (.iload 7, 2) := by decide +kernel
theorem dX12_layRound_230 : decode cX12_layRound 230 = .ok (.goto 5, 3) := by decide +kernel
theorem dX12_layRound_233 : decode cX12_layRound 233 = .ok (.iload 5, 2) := by decide +kernel
theorem dX12_layRound_235 : decode cX12_layRound 235 = .ok (.istore 5, 2) := by decide +kernel
theorem dX12_layRound_237 : decode cX12_layRound 237 = .ok (.iinc 6 1, 3) := by decide +kernel
theorem dX12_layRound_240 : decode cX12_layRound 240 = .ok (.goto (-68), 3) := by decide +kernel
theorem dX12_layRound_243 : decode cX12_layRound 243 = .ok (.iconst 0, 1) := by decide +kernel
theorem dX12_layRound_244 : decode cX12_layRound 244 = .ok (.istore 6, 2) := by decide +kernel
theorem dX12_layRound_246 : decode cX12_layRound 246 = .ok (.iload 6, 2) := by decide +kernel
theorem dX12_layRound_248 : decode cX12_layRound 248 = .ok (.bipush 10, 2) := by decide +kernel
theorem dX12_layRound_250 : decode cX12_layRound 250 = .ok (.if_icmp .ge 44, 3) := by decide +kernel
theorem dX12_layRound_253 : decode cX12_layRound 253 = .ok (.iload_n 3, 1) := by decide +kernel
theorem dX12_layRound_254 : decode cX12_layRound 254 = .ok (.iload 6, 2) := by decide +kernel
theorem dX12_layRound_256 : decode cX12_layRound 256 = .ok (.ishr, 1) := by decide +kernel
theorem dX12_layRound_257 : decode cX12_layRound 257 = .ok (.iconst 1, 1) := by decide +kernel
theorem dX12_layRound_258 : decode cX12_layRound 258 = .ok (.iand, 1) := by decide +kernel
theorem dX12_layRound_259 : decode cX12_layRound 259 = .ok (.iconst 1, 1) := by decide +kernel
theorem dX12_layRound_260 : decode cX12_layRound 260 = .ok (.if_icmp .ne 28, 3) := by decide +kernel
theorem dX12_layRound_263 : decode cX12_layRound 263 = .ok (.iload 4, 2) := by decide +kernel
theorem dX12_layRound_265 : decode cX12_layRound 265 = .ok (.aload_n 0, 1) := by decide +kernel
theorem dX12_layRound_266 : decode cX12_layRound 266 = .ok (.iload 6, 2) := by decide +kernel
theorem dX12_layRound_268 : decode cX12_layRound 268 = .ok (.invokevirtual 279, 3) := by decide +kernel
theorem dX12_layRound_271 : decode cX12_layRound 271 = .ok (.isub, 1) := by decide +kernel
theorem dX12_layRound_272 : decode cX12_layRound 272 = .ok (.iload 5, 2) := by decide +kernel
theorem dX12_layRound_274 : decode cX12_layRound 274 = .ok (.if_icmp .ge 14, 3) := by decide +kernel
theorem dX12_layRound_277 : decode cX12_layRound 277 = .ok (.iload 4, 2) := by decide +kernel
theorem dX12_layRound_279 : decode cX12_layRound 279 = .ok (.aload_n 0, 1) := by decide +kernel
theorem dX12_layRound_280 : decode cX12_layRound 280 = .ok (.iload 6, 2) := by decide +kernel
theorem dX12_layRound_282 : decode cX12_layRound 282 = .ok (.invokevirtual 279, 3) := by decide +kernel
theorem dX12_layRound_285 : decode cX12_layRound 285 = .ok (.isub, 1) := by decide +kernel
theorem dX12_layRound_286 : decode cX12_layRound 286 = .ok (.istore 5, 2) := by decide +kernel
theorem dX12_layRound_288 : decode cX12_layRound 288 = .ok (.iinc 6 1, 3) := by decide +kernel
theorem dX12_layRound_291 : decode cX12_layRound 291 = .ok (.goto (-45), 3) := by decide +kernel
theorem dX12_layRound_294 : decode cX12_layRound 294 = .ok (.iload 5, 2) := by decide +kernel
theorem dX12_layRound_296 : decode cX12_layRound 296 = .ok (.ireturn, 1) := by decide +kernel
theorem dX12_works_0 : decode cX12_works 0 = .ok (.iconst 0, 1) := by decide +kernel
theorem dX12_works_1 : decode cX12_works 1 = .ok (.istore_n 2, 1) := by decide +kernel
theorem dX12_works_2 : decode cX12_works 2 = .ok (.iload_n 2, 1) := by decide +kernel
theorem dX12_works_3 : decode cX12_works 3 = .ok (.bipush 8, 2) := by decide +kernel
theorem dX12_works_5 : decode cX12_works 5 = .ok (.if_icmp .ge 38, 3) := by decide +kernel
theorem dX12_works_8 : decode cX12_works 8 = .ok (.aload_n 0, 1) := by decide +kernel
theorem dX12_works_9 : decode cX12_works 9 = .ok (.getfield 68, 3) := by decide +kernel
theorem dX12_works_12 : decode cX12_works 12 = .ok (.iload_n 2, 1) := by decide +kernel
theorem dX12_works_13 : decode cX12_works 13 = .ok (.iaload, 1) := by decide +kernel
theorem dX12_works_14 : decode cX12_works 14 = .ok (.ifCond .lt 23, 3) := by decide +kernel
theorem dX12_works_17 : decode cX12_works 17 = .ok (.aload_n 0, 1) := by decide +kernel
theorem dX12_works_18 : decode cX12_works 18 = .ok (.getfield 62, 3) := by decide +kernel
theorem dX12_works_21 : decode cX12_works 21 = .ok (.bipush 10, 2) := by decide +kernel
theorem dX12_works_23 : decode cX12_works 23 = .ok (.iload_n 2, 1) := by decide +kernel
theorem dX12_works_24 : decode cX12_works 24 = .ok (.imul, 1) := by decide +kernel
theorem dX12_works_25 : decode cX12_works 25 = .ok (.aload_n 0, 1) := by decide +kernel
theorem dX12_works_26 : decode cX12_works 26 = .ok (.getfield 68, 3) := by decide +kernel
theorem dX12_works_29 : decode cX12_works 29 = .ok (.iload_n 2, 1) := by decide +kernel
theorem dX12_works_30 : decode cX12_works 30 = .ok (.iaload, 1) := by decide +kernel
theorem dX12_works_31 : decode cX12_works 31 = .ok (.iadd, 1) := by decide +kernel
theorem dX12_works_32 : decode cX12_works 32 = .ok (.dup2, 1) := by decide +kernel
theorem dX12_works_33 : decode cX12_works 33 = .ok (.iaload, 1) := by decide +kernel
theorem dX12_works_34 : decode cX12_works 34 = .ok (.iload_n 1, 1) := by decide +kernel
theorem dX12_works_35 : decode cX12_works 35 = .ok (.isub, 1) := by decide +kernel
theorem dX12_works_36 : decode cX12_works 36 = .ok (.iastore, 1) := by decide +kernel
theorem dX12_works_37 : decode cX12_works 37 = .ok (.iinc 2 1, 3) := by decide +kernel
theorem dX12_works_40 : decode cX12_works 40 = .ok (.goto (-38), 3) := by decide +kernel
theorem dX12_works_43 : decode cX12_works 43 = .ok (.return_, 1) := by decide +kernel
theorem dX12_layDay_0 : decode cX12_layDay 0 = .ok (.aload_n 0, 1) := by decide +kernel
theorem dX12_layDay_1 : decode cX12_layDay 1 = .ok (.iconst 0, 1) := by decide +kernel
theorem dX12_layDay_2 : decode cX12_layDay 2 = .ok (.putfield 310, 3) := by decide +kernel
theorem dX12_layDay_5 : decode cX12_layDay 5 = .ok (.aload_n 0, 1) := by decide +kernel
theorem dX12_layDay_6 : decode cX12_layDay 6 = .ok (.invokevirtual 282, 3) := by decide +kernel
theorem dX12_layDay_9 : decode cX12_layDay 9 = .ok (.ifCond .le 76, 3) := by decide +kernel
theorem dX12_layDay_12 : decode cX12_layDay 12 = .ok (.aload_n 0, 1) := by decide +kernel
theorem dX12_layDay_13 : decode cX12_layDay 13 = .ok (.getfield 77, 3) := by decide +kernel
theorem dX12_layDay_16 : decode cX12_layDay 16 = .ok (.aload_n 0, 1) := by decide +kernel
theorem dX12_layDay_17 : decode cX12_layDay 17 = .ok (.getfield 310, 3) := by decide +kernel
theorem dX12_layDay_20 : decode cX12_layDay 20 = .ok (.aload_n 0, 1) := by decide +kernel
theorem dX12_layDay_21 : decode cX12_layDay 21 = .ok (.invokevirtual 313, 3) := by decide +kernel
theorem dX12_layDay_24 : decode cX12_layDay 24 = .ok (.iastore, 1) := by decide +kernel
theorem dX12_layDay_25 : decode cX12_layDay 25 = .ok (.iconst 0, 1) := by decide +kernel
theorem dX12_layDay_26 : decode cX12_layDay 26 = .ok (.istore_n 1, 1) := by decide +kernel
theorem dX12_layDay_27 : decode cX12_layDay 27 = .ok (.iload_n 1, 1) := by decide +kernel
theorem dX12_layDay_28 : decode cX12_layDay 28 = .ok (.bipush 8, 2) := by decide +kernel
theorem dX12_layDay_30 : decode cX12_layDay 30 = .ok (.if_icmp .ge 29, 3) := by decide +kernel
theorem dX12_layDay_33 : decode cX12_layDay 33 = .ok (.aload_n 0, 1) := by decide +kernel
theorem dX12_layDay_34 : decode cX12_layDay 34 = .ok (.getfield 80, 3) := by decide +kernel
theorem dX12_layDay_37 : decode cX12_layDay 37 = .ok (.bipush 8, 2) := by decide +kernel
theorem dX12_layDay_39 : decode cX12_layDay 39 = .ok (.aload_n 0, 1) := by decide +kernel
theorem dX12_layDay_40 : decode cX12_layDay 40 = .ok (.getfield 310, 3) := by decide +kernel
theorem dX12_layDay_43 : decode cX12_layDay 43 = .ok (.imul, 1) := by decide +kernel
theorem dX12_layDay_44 : decode cX12_layDay 44 = .ok (.iload_n 1, 1) := by decide +kernel
theorem dX12_layDay_45 : decode cX12_layDay 45 = .ok (.iadd, 1) := by decide +kernel
theorem dX12_layDay_46 : decode cX12_layDay 46 = .ok (.aload_n 0, 1) := by decide +kernel
theorem dX12_layDay_47 : decode cX12_layDay 47 = .ok (.getfield 68, 3) := by decide +kernel
theorem dX12_layDay_50 : decode cX12_layDay 50 = .ok (.iload_n 1, 1) := by decide +kernel
theorem dX12_layDay_51 : decode cX12_layDay 51 = .ok (.iaload, 1) := by decide +kernel
theorem dX12_layDay_52 : decode cX12_layDay 52 = .ok (.iastore, 1) := by decide +kernel
theorem dX12_layDay_53 : decode cX12_layDay 53 = .ok (.iinc 1 1, 3) := by decide +kernel
theorem dX12_layDay_56 : decode cX12_layDay 56 = .ok (.goto (-29), 3) := by decide +kernel
theorem dX12_layDay_59 : decode cX12_layDay 59 = .ok (.aload_n 0, 1) := by decide +kernel
theorem dX12_layDay_60 : decode cX12_layDay 60 = .ok (.aload_n 0, 1) := by decide +kernel
theorem dX12_layDay_61 : decode cX12_layDay 61 = .ok (.getfield 77, 3) := by decide +kernel
theorem dX12_layDay_64 : decode cX12_layDay 64 = .ok (.aload_n 0, 1) := by decide +kernel
theorem dX12_layDay_65 : decode cX12_layDay 65 = .ok (.getfield 310, 3) := by decide +kernel
theorem dX12_layDay_68 : decode cX12_layDay 68 = .ok (.iaload, 1) := by decide +kernel
theorem dX12_layDay_69 : decode cX12_layDay 69 = .ok (.invokevirtual 316, 3) := by decide +kernel
theorem dX12_layDay_72 : decode cX12_layDay 72 = .ok (.aload_n 0, 1) := by decide +kernel
theorem dX12_layDay_73 : decode cX12_layDay 73 = .ok (.dup, 1) := by decide +kernel
theorem dX12_layDay_74 : decode cX12_layDay 74 = .ok (.getfield 310, 3) := by decide +kernel
theorem dX12_layDay_77 : decode cX12_layDay 77 = .ok (.iconst 1, 1) := by decide +kernel
theorem dX12_layDay_78 : decode cX12_layDay 78 = .ok (.iadd, 1) := by decide +kernel
theorem dX12_layDay_79 : decode cX12_layDay 79 = .ok (.putfield 310, 3) := by decide +kernel
theorem dX12_layDay_82 : decode cX12_layDay 82 = .ok (.goto (-77), 3) := by decide +kernel
theorem dX12_layDay_85 : decode cX12_layDay 85 = .ok (.return_, 1) := by decide +kernel
theorem dX12_layDayNow_0 : decode cX12_layDayNow 0 = .ok (.aload_n 0, 1) := by decide +kernel
theorem dX12_layDayNow_1 : decode cX12_layDayNow 1 = .ok (.invokevirtual 291, 3) := by decide +kernel
theorem dX12_layDayNow_4 : decode cX12_layDayNow 4 = .ok (.aload_n 0, 1) := by decide +kernel
theorem dX12_layDayNow_5 : decode cX12_layDayNow 5 = .ok (.invokevirtual 320, 3) := by decide +kernel
theorem dX12_layDayNow_8 : decode cX12_layDayNow 8 = .ok (.return_, 1) := by decide +kernel
theorem dX12_rounds_0 : decode cX12_rounds 0 = .ok (.aload_n 0, 1) := by decide +kernel
theorem dX12_rounds_1 : decode cX12_rounds 1 = .ok (.invokevirtual 323, 3) := by decide +kernel
theorem dX12_rounds_4 : decode cX12_rounds 4 = .ok (.aload_n 0, 1) := by decide +kernel
theorem dX12_rounds_5 : decode cX12_rounds 5 = .ok (.getfield 310, 3) := by decide +kernel
theorem dX12_rounds_8 : decode cX12_rounds 8 = .ok (.ireturn, 1) := by decide +kernel
theorem dX12_lasts_0 : decode cX12_lasts 0 = .ok (.aload_n 0, 1) := by decide +kernel
theorem dX12_lasts_1 : decode cX12_lasts 1 = .ok (.invokevirtual 323, 3) := by decide +kernel
theorem dX12_lasts_4 : decode cX12_lasts 4 = .ok (.iload_n 1, 1) := by decide +kernel
theorem dX12_lasts_5 : decode cX12_lasts 5 = .ok (.iconst 0, 1) := by decide +kernel
theorem dX12_lasts_6 : decode cX12_lasts 6 = .ok (.aload_n 0, 1) := by decide +kernel
theorem dX12_lasts_7 : decode cX12_lasts 7 = .ok (.getfield 310, 3) := by decide +kernel
theorem dX12_lasts_10 : decode cX12_lasts 10 = .ok (.iconst 1, 1) := by decide +kernel
theorem dX12_lasts_11 : decode cX12_lasts 11 = .ok (.isub, 1) := by decide +kernel
theorem dX12_lasts_12 : decode cX12_lasts 12 = .ok (.invokestatic 260, 3) := by decide +kernel
theorem dX12_lasts_15 : decode cX12_lasts 15 = .ok (.ifCond .eq 12, 3) := by decide +kernel
theorem dX12_lasts_18 : decode cX12_lasts 18 = .ok (.aload_n 0, 1) := by decide +kernel
theorem dX12_lasts_19 : decode cX12_lasts 19 = .ok (.getfield 77, 3) := by decide +kernel
theorem dX12_lasts_22 : decode cX12_lasts 22 = .ok (.iload_n 1, 1) := by decide +kernel
theorem dX12_lasts_23 : decode cX12_lasts 23 = .ok (.iaload, 1) := by decide +kernel
theorem dX12_lasts_24 : decode cX12_lasts 24 = .ok (.goto 4, 3) := by decide +kernel
theorem dX12_lasts_27 : decode cX12_lasts 27 = .ok (.iconst (-1), 1) := by decide +kernel
theorem dX12_lasts_28 : decode cX12_lasts 28 = .ok (.ireturn, 1) := by decide +kernel
theorem dX12_with_0 : decode cX12_with 0 = .ok (.aload_n 0, 1) := by decide +kernel
theorem dX12_with_1 : decode cX12_with 1 = .ok (.invokevirtual 323, 3) := by decide +kernel
theorem dX12_with_4 : decode cX12_with 4 = .ok (.iload_n 1, 1) := by decide +kernel
theorem dX12_with_5 : decode cX12_with 5 = .ok (.iconst 0, 1) := by decide +kernel
theorem dX12_with_6 : decode cX12_with 6 = .ok (.aload_n 0, 1) := by decide +kernel
theorem dX12_with_7 : decode cX12_with 7 = .ok (.getfield 310, 3) := by decide +kernel
theorem dX12_with_10 : decode cX12_with 10 = .ok (.iconst 1, 1) := by decide +kernel
theorem dX12_with_11 : decode cX12_with 11 = .ok (.isub, 1) := by decide +kernel
theorem dX12_with_12 : decode cX12_with 12 = .ok (.invokestatic 260, 3) := by decide +kernel
theorem dX12_with_15 : decode cX12_with 15 = .ok (.ifCond .eq 25, 3) := by decide +kernel
theorem dX12_with_18 : decode cX12_with 18 = .ok (.aload_n 0, 1) := by decide +kernel
theorem dX12_with_19 : decode cX12_with 19 = .ok (.iload_n 2, 1) := by decide +kernel
theorem dX12_with_20 : decode cX12_with 20 = .ok (.invokevirtual 285, 3) := by decide +kernel
theorem dX12_with_23 : decode cX12_with 23 = .ok (.ifCond .eq 17, 3) := by decide +kernel
theorem dX12_with_26 : decode cX12_with 26 = .ok (.aload_n 0, 1) := by decide +kernel
theorem dX12_with_27 : decode cX12_with 27 = .ok (.getfield 80, 3) := by decide +kernel
theorem dX12_with_30 : decode cX12_with 30 = .ok (.bipush 8, 2) := by decide +kernel
theorem dX12_with_32 : decode cX12_with 32 = .ok (.iload_n 1, 1) := by decide +kernel
theorem dX12_with_33 : decode cX12_with 33 = .ok (.imul, 1) := by decide +kernel
theorem dX12_with_34 : decode cX12_with 34 = .ok (.iload_n 2, 1) := by decide +kernel
theorem dX12_with_35 : decode cX12_with 35 = .ok (.iadd, 1) := by decide +kernel
theorem dX12_with_36 : decode cX12_with 36 = .ok (.iaload, 1) := by decide +kernel
theorem dX12_with_37 : decode cX12_with 37 = .ok (.goto 4, 3) := by decide +kernel
theorem dX12_with_40 : decode cX12_with 40 = .ok (.iconst (-1), 1) := by decide +kernel
theorem dX12_with_41 : decode cX12_with 41 = .ok (.ireturn, 1) := by decide +kernel
theorem dX12_lateOf_0 : decode cX12_lateOf 0 = .ok (.aload_n 0, 1) := by decide +kernel
theorem dX12_lateOf_1 : decode cX12_lateOf 1 = .ok (.getfield 33, 3) := by decide +kernel
theorem dX12_lateOf_4 : decode cX12_lateOf 4 = .ok (.aload_n 0, 1) := by decide +kernel
theorem dX12_lateOf_5 : decode cX12_lateOf 5 = .ok (.getfield 205, 3) := by decide +kernel
theorem dX12_lateOf_8 : decode cX12_lateOf 8 = .ok (.iaload, 1) := by decide +kernel
theorem dX12_lateOf_9 : decode cX12_lateOf 9 = .ok (.ifCond .ge 5, 3) := by decide +kernel
theorem dX12_lateOf_12 : decode cX12_lateOf 12 = .ok (.iconst 0, 1) := by decide +kernel
theorem dX12_lateOf_13 : decode cX12_lateOf 13 = .ok (.ireturn, 1) := by decide +kernel
theorem dX12_lateOf_14 : decode cX12_lateOf 14 = .ok (.aload_n 0, 1) := by decide +kernel
theorem dX12_lateOf_15 : decode cX12_lateOf 15 = .ok (.getfield 33, 3) := by decide +kernel
theorem dX12_lateOf_18 : decode cX12_lateOf 18 = .ok (.aload_n 0, 1) := by decide +kernel
theorem dX12_lateOf_19 : decode cX12_lateOf 19 = .ok (.getfield 205, 3) := by decide +kernel
theorem dX12_lateOf_22 : decode cX12_lateOf 22 = .ok (.iaload, 1) := by decide +kernel
theorem dX12_lateOf_23 : decode cX12_lateOf 23 = .ok (.iload_n 1, 1) := by decide +kernel
theorem dX12_lateOf_24 : decode cX12_lateOf 24 = .ok (.isub, 1) := by decide +kernel
theorem dX12_lateOf_25 : decode cX12_lateOf 25 = .ok (.istore_n 3, 1) := by decide +kernel
theorem dX12_lateOf_26 : decode cX12_lateOf 26 = .ok (.iload_n 3, 1) := by decide +kernel
theorem dX12_lateOf_27 : decode cX12_lateOf 27 = .ok (.ifCond .gt 7, 3) := by decide +kernel
theorem dX12_lateOf_30 : decode cX12_lateOf 30 = .ok (.iload_n 2, 1) := by decide +kernel
theorem dX12_lateOf_31 : decode cX12_lateOf 31 = .ok (.goto 15, 3) := by decide +kernel
theorem dX12_lateOf_34 : decode cX12_lateOf 34 = .ok (.iload_n 3, 1) := by decide +kernel
theorem dX12_lateOf_35 : decode cX12_lateOf 35 = .ok (.iload_n 2, 1) := by decide +kernel
theorem dX12_lateOf_36 : decode cX12_lateOf 36 = .ok (.if_icmp .lt 7, 3) := by decide +kernel
theorem dX12_lateOf_39 : decode cX12_lateOf 39 = .ok (.iconst 0, 1) := by decide +kernel
theorem dX12_lateOf_40 : decode cX12_lateOf 40 = .ok (.goto 6, 3) := by decide +kernel
theorem dX12_lateOf_43 : decode cX12_lateOf 43 = .ok (.iload_n 2, 1) := by decide +kernel
theorem dX12_lateOf_44 : decode cX12_lateOf 44 = .ok (.iload_n 3, 1) := by decide +kernel
theorem dX12_lateOf_45 : decode cX12_lateOf 45 = .ok (.isub, 1) := by decide +kernel
theorem dX12_lateOf_46 : decode cX12_lateOf 46 = .ok (.ireturn, 1) := by decide +kernel
theorem dX12_wages_0 : decode cX12_wages 0 = .ok (.aload_n 0, 1) := by decide +kernel
theorem dX12_wages_1 : decode cX12_wages 1 = .ok (.invokevirtual 323, 3) := by decide +kernel
theorem dX12_wages_4 : decode cX12_wages 4 = .ok (.iconst 0, 1) := by decide +kernel
theorem dX12_wages_5 : decode cX12_wages 5 = .ok (.istore_n 1, 1) := by decide +kernel
theorem dX12_wages_6 : decode cX12_wages 6 = .ok (.aload_n 0, 1) := by decide +kernel
theorem dX12_wages_7 : decode cX12_wages 7 = .ok (.getfield 267, 3) := by decide +kernel
theorem dX12_wages_10 : decode cX12_wages 10 = .ok (.istore_n 2, 1) := by decide +kernel
theorem dX12_wages_11 : decode cX12_wages 11 = .ok (.iconst 0, 1) := by decide +kernel
theorem dX12_wages_12 : decode cX12_wages 12 = .ok (.istore_n 3, 1) := by decide +kernel
theorem dX12_wages_13 : decode cX12_wages 13 = .ok (.iload_n 3, 1) := by decide +kernel
theorem dX12_wages_14 : decode cX12_wages 14 = .ok (.aload_n 0, 1) := by decide +kernel
theorem dX12_wages_15 : decode cX12_wages 15 = .ok (.getfield 310, 3) := by decide +kernel
theorem dX12_wages_18 : decode cX12_wages 18 = .ok (.if_icmp .ge 88, 3) := by decide +kernel
theorem dX12_wages_21 : decode cX12_wages 21 = .ok (.iconst 0, 1) := by decide +kernel
theorem dX12_wages_22 : decode cX12_wages 22 = .ok (.istore 4, 2) := by decide +kernel
theorem dX12_wages_24 : decode cX12_wages 24 = .ok (.iload 4, 2) := by decide +kernel
theorem dX12_wages_26 : decode cX12_wages 26 = .ok (.aload_n 0, 1) := by decide +kernel
theorem dX12_wages_27 : decode cX12_wages 27 = .ok (.invokevirtual 257, 3) := by decide +kernel
theorem dX12_wages_30 : decode cX12_wages 30 = .ok (.if_icmp .ge 61, 3) := by decide +kernel
theorem dX12_wages_33 : decode cX12_wages 33 = .ok (.aload_n 0, 1) := by decide +kernel
theorem dX12_wages_34 : decode cX12_wages 34 = .ok (.getfield 80, 3) := by decide +kernel
theorem dX12_wages_37 : decode cX12_wages 37 = .ok (.bipush 8, 2) := by decide +kernel
theorem dX12_wages_39 : decode cX12_wages 39 = .ok (.iload_n 3, 1) := by decide +kernel
theorem dX12_wages_40 : decode cX12_wages 40 = .ok (.imul, 1) := by decide +kernel
theorem dX12_wages_41 : decode cX12_wages 41 = .ok (.iload 4, 2) := by decide +kernel
theorem dX12_wages_43 : decode cX12_wages 43 = .ok (.iadd, 1) := by decide +kernel
theorem dX12_wages_44 : decode cX12_wages 44 = .ok (.iaload, 1) := by decide +kernel
theorem dX12_wages_45 : decode cX12_wages 45 = .ok (.ifCond .lt 40, 3) := by decide +kernel
theorem dX12_wages_48 : decode cX12_wages 48 = .ok (.iload_n 1, 1) := by decide +kernel
theorem dX12_wages_49 : decode cX12_wages 49 = .ok (.aload_n 0, 1) := by decide +kernel
theorem dX12_wages_50 : decode cX12_wages 50 = .ok (.getfield 36, 3) := by decide +kernel
theorem dX12_wages_53 : decode cX12_wages 53 = .ok (.bipush 8, 2) := by decide +kernel
theorem dX12_wages_55 : decode cX12_wages 55 = .ok (.aload_n 0, 1) := by decide +kernel
theorem dX12_wages_56 : decode cX12_wages 56 = .ok (.getfield 205, 3) := by decide +kernel
theorem dX12_wages_59 : decode cX12_wages 59 = .ok (.imul, 1) := by decide +kernel
theorem dX12_wages_60 : decode cX12_wages 60 = .ok (.iload 4, 2) := by decide +kernel
theorem dX12_wages_62 : decode cX12_wages 62 = .ok (.iadd, 1) := by decide +kernel
theorem dX12_wages_63 : decode cX12_wages 63 = .ok (.iaload, 1) := by decide +kernel
theorem dX12_wages_64 : decode cX12_wages 64 = .ok (.aload_n 0, 1) := by decide +kernel
theorem dX12_wages_65 : decode cX12_wages 65 = .ok (.getfield 77, 3) := by decide +kernel
theorem dX12_wages_68 : decode cX12_wages 68 = .ok (.iload_n 3, 1) := by decide +kernel
theorem dX12_wages_69 : decode cX12_wages 69 = .ok (.iaload, 1) := by decide +kernel
theorem dX12_wages_70 : decode cX12_wages 70 = .ok (.aload_n 0, 1) := by decide +kernel
theorem dX12_wages_71 : decode cX12_wages 71 = .ok (.iload_n 2, 1) := by decide +kernel
theorem dX12_wages_72 : decode cX12_wages 72 = .ok (.aload_n 0, 1) := by decide +kernel
theorem dX12_wages_73 : decode cX12_wages 73 = .ok (.getfield 77, 3) := by decide +kernel
theorem dX12_wages_76 : decode cX12_wages 76 = .ok (.iload_n 3, 1) := by decide +kernel
theorem dX12_wages_77 : decode cX12_wages 77 = .ok (.iaload, 1) := by decide +kernel
theorem dX12_wages_78 : decode cX12_wages 78 = .ok (.invokevirtual 326, 3) := by decide +kernel
theorem dX12_wages_81 : decode cX12_wages 81 = .ok (.iadd, 1) := by decide +kernel
theorem dX12_wages_82 : decode cX12_wages 82 = .ok (.imul, 1) := by decide +kernel
theorem dX12_wages_83 : decode cX12_wages 83 = .ok (.iadd, 1) := by decide +kernel
theorem dX12_wages_84 : decode cX12_wages 84 = .ok (.istore_n 1, 1) := by decide +kernel
theorem dX12_wages_85 : decode cX12_wages 85 = .ok (.iinc 4 1, 3) := by decide +kernel
theorem dX12_wages_88 : decode cX12_wages 88 = .ok (.goto (-64), 3) := by decide +kernel
theorem dX12_wages_91 : decode cX12_wages 91 = .ok (.iload_n 2, 1) := by decide +kernel
theorem dX12_wages_92 : decode cX12_wages 92 = .ok (.aload_n 0, 1) := by decide +kernel
theorem dX12_wages_93 : decode cX12_wages 93 = .ok (.getfield 77, 3) := by decide +kernel
theorem dX12_wages_96 : decode cX12_wages 96 = .ok (.iload_n 3, 1) := by decide +kernel
theorem dX12_wages_97 : decode cX12_wages 97 = .ok (.iaload, 1) := by decide +kernel
theorem dX12_wages_98 : decode cX12_wages 98 = .ok (.iadd, 1) := by decide +kernel
theorem dX12_wages_99 : decode cX12_wages 99 = .ok (.istore_n 2, 1) := by decide +kernel
theorem dX12_wages_100 : decode cX12_wages 100 = .ok (.iinc 3 1, 3) := by decide +kernel
theorem dX12_wages_103 : decode cX12_wages 103 = .ok (.goto (-90), 3) := by decide +kernel
theorem dX12_wages_106 : decode cX12_wages 106 = .ok (.iload_n 1, 1) := by decide +kernel
theorem dX12_wages_107 : decode cX12_wages 107 = .ok (.ireturn, 1) := by decide +kernel
theorem dX12_edge_0 : decode cX12_edge 0 = .ok (.aload_n 0, 1) := by decide +kernel
theorem dX12_edge_1 : decode cX12_edge 1 = .ok (.getfield 83, 3) := by decide +kernel
theorem dX12_edge_4 : decode cX12_edge 4 = .ok (.bipush 22, 2) := by decide +kernel
theorem dX12_edge_6 : decode cX12_edge 6 = .ok (.iload_n 1, 1) := by decide +kernel
theorem dX12_edge_7 : decode cX12_edge 7 = .ok (.imul, 1) := by decide +kernel
theorem dX12_edge_8 : decode cX12_edge 8 = .ok (.iload_n 2, 1) := by decide +kernel
theorem dX12_edge_9 : decode cX12_edge 9 = .ok (.iadd, 1) := by decide +kernel
theorem dX12_edge_10 : decode cX12_edge 10 = .ok (.dup2, 1) := by decide +kernel
theorem dX12_edge_11 : decode cX12_edge 11 = .ok (.iaload, 1) := by decide +kernel
theorem dX12_edge_12 : decode cX12_edge 12 = .ok (.iload 4, 2) := by decide +kernel
theorem dX12_edge_14 : decode cX12_edge 14 = .ok (.iload_n 3, 1) := by decide +kernel
theorem dX12_edge_15 : decode cX12_edge 15 = .ok (.isub, 1) := by decide +kernel
theorem dX12_edge_16 : decode cX12_edge 16 = .ok (.iadd, 1) := by decide +kernel
theorem dX12_edge_17 : decode cX12_edge 17 = .ok (.iastore, 1) := by decide +kernel
theorem dX12_edge_18 : decode cX12_edge 18 = .ok (.aload_n 0, 1) := by decide +kernel
theorem dX12_edge_19 : decode cX12_edge 19 = .ok (.getfield 83, 3) := by decide +kernel
theorem dX12_edge_22 : decode cX12_edge 22 = .ok (.sipush 440, 3) := by decide +kernel
theorem dX12_edge_25 : decode cX12_edge 25 = .ok (.iload_n 2, 1) := by decide +kernel
theorem dX12_edge_26 : decode cX12_edge 26 = .ok (.iadd, 1) := by decide +kernel
theorem dX12_edge_27 : decode cX12_edge 27 = .ok (.dup2, 1) := by decide +kernel
theorem dX12_edge_28 : decode cX12_edge 28 = .ok (.iaload, 1) := by decide +kernel
theorem dX12_edge_29 : decode cX12_edge 29 = .ok (.iload_n 3, 1) := by decide +kernel
theorem dX12_edge_30 : decode cX12_edge 30 = .ok (.iadd, 1) := by decide +kernel
theorem dX12_edge_31 : decode cX12_edge 31 = .ok (.iastore, 1) := by decide +kernel
theorem dX12_edge_32 : decode cX12_edge 32 = .ok (.aload_n 0, 1) := by decide +kernel
theorem dX12_edge_33 : decode cX12_edge 33 = .ok (.getfield 83, 3) := by decide +kernel
theorem dX12_edge_36 : decode cX12_edge 36 = .ok (.bipush 22, 2) := by decide +kernel
theorem dX12_edge_38 : decode cX12_edge 38 = .ok (.iload_n 1, 1) := by decide +kernel
theorem dX12_edge_39 : decode cX12_edge 39 = .ok (.imul, 1) := by decide +kernel
theorem dX12_edge_40 : decode cX12_edge 40 = .ok (.bipush 21, 2) := by decide +kernel
theorem dX12_edge_42 : decode cX12_edge 42 = .ok (.iadd, 1) := by decide +kernel
theorem dX12_edge_43 : decode cX12_edge 43 = .ok (.dup2, 1) := by decide +kernel
theorem dX12_edge_44 : decode cX12_edge 44 = .ok (.iaload, 1) := by decide +kernel
theorem dX12_edge_45 : decode cX12_edge 45 = .ok (.iload_n 3, 1) := by decide +kernel
theorem dX12_edge_46 : decode cX12_edge 46 = .ok (.iadd, 1) := by decide +kernel
theorem dX12_edge_47 : decode cX12_edge 47 = .ok (.iastore, 1) := by decide +kernel
theorem dX12_edge_48 : decode cX12_edge 48 = .ok (.aload_n 0, 1) := by decide +kernel
theorem dX12_edge_49 : decode cX12_edge 49 = .ok (.dup, 1) := by decide +kernel
theorem dX12_edge_50 : decode cX12_edge 50 = .ok (.getfield 329, 3) := by decide +kernel
theorem dX12_edge_53 : decode cX12_edge 53 = .ok (.iload_n 3, 1) := by decide +kernel
theorem dX12_edge_54 : decode cX12_edge 54 = .ok (.iadd, 1) := by decide +kernel
theorem dX12_edge_55 : decode cX12_edge 55 = .ok (.putfield 329, 3) := by decide +kernel
theorem dX12_edge_58 : decode cX12_edge 58 = .ok (.return_, 1) := by decide +kernel
theorem dX12_cut_0 : decode cX12_cut 0 = .ok (.iload_n 0, 1) := by decide +kernel
theorem dX12_cut_1 : decode cX12_cut 1 = .ok (.iload_n 1, 1) := by decide +kernel
theorem dX12_cut_2 : decode cX12_cut 2 = .ok (.idiv, 1) := by decide +kernel
theorem dX12_cut_3 : decode cX12_cut 3 = .ok (.ireturn, 1) := by decide +kernel
theorem dX12_up_0 : decode cX12_up 0 = .ok (.iload_n 0, 1) := by decide +kernel
theorem dX12_up_1 : decode cX12_up 1 = .ok (.iload_n 1, 1) := by decide +kernel
theorem dX12_up_2 : decode cX12_up 2 = .ok (.iadd, 1) := by decide +kernel
theorem dX12_up_3 : decode cX12_up 3 = .ok (.iconst 1, 1) := by decide +kernel
theorem dX12_up_4 : decode cX12_up 4 = .ok (.isub, 1) := by decide +kernel
theorem dX12_up_5 : decode cX12_up 5 = .ok (.iload_n 1, 1) := by decide +kernel
theorem dX12_up_6 : decode cX12_up 6 = .ok (.idiv, 1) := by decide +kernel
theorem dX12_up_7 : decode cX12_up 7 = .ok (.ireturn, 1) := by decide +kernel
theorem dX12_isDay_0 : decode cX12_isDay 0 = .ok (.iconst 0, 1) := by decide +kernel
theorem dX12_isDay_1 : decode cX12_isDay 1 = .ok (.istore_n 3, 1) := by decide +kernel
theorem dX12_isDay_2 : decode cX12_isDay 2 = .ok (.iload_n 3, 1) := by decide +kernel
theorem dX12_isDay_3 : decode cX12_isDay 3 = .ok (.sipush 484, 3) := by decide +kernel
theorem dX12_isDay_6 : decode cX12_isDay 6 = .ok (.if_icmp .ge 16, 3) := by decide +kernel
theorem dX12_isDay_9 : decode cX12_isDay 9 = .ok (.aload_n 0, 1) := by decide +kernel
theorem dX12_isDay_10 : decode cX12_isDay 10 = .ok (.getfield 83, 3) := by decide +kernel
theorem dX12_isDay_13 : decode cX12_isDay 13 = .ok (.iload_n 3, 1) := by decide +kernel
theorem dX12_isDay_14 : decode cX12_isDay 14 = .ok (.iconst 0, 1) := by decide +kernel
theorem dX12_isDay_15 : decode cX12_isDay 15 = .ok (.iastore, 1) := by decide +kernel
theorem dX12_isDay_16 : decode cX12_isDay 16 = .ok (.iinc 3 1, 3) := by decide +kernel
theorem dX12_isDay_19 : decode cX12_isDay 19 = .ok (.goto (-17), 3) := by decide +kernel
theorem dX12_isDay_22 : decode cX12_isDay 22 = .ok (.aload_n 0, 1) := by decide +kernel
theorem dX12_isDay_23 : decode cX12_isDay 23 = .ok (.iconst 0, 1) := by decide +kernel
theorem dX12_isDay_24 : decode cX12_isDay 24 = .ok (.putfield 329, 3) := by decide +kernel
theorem dX12_isDay_27 : decode cX12_isDay 27 = .ok (.iconst 0, 1) := by decide +kernel
theorem dX12_isDay_28 : decode cX12_isDay 28 = .ok (.istore_n 3, 1) := by decide +kernel
theorem dX12_isDay_29 : decode cX12_isDay 29 = .ok (.iconst 0, 1) := by decide +kernel
theorem dX12_isDay_30 : decode cX12_isDay 30 = .ok (.istore 4, 2) := by decide +kernel
theorem dX12_isDay_32 : decode cX12_isDay 32 = .ok (.iload 4, 2) := by decide +kernel
theorem dX12_isDay_34 : decode cX12_isDay 34 = .ok (.bipush 8, 2) := by decide +kernel
theorem dX12_isDay_36 : decode cX12_isDay 36 = .ok (.if_icmp .ge 47, 3) := by decide +kernel
theorem dX12_isDay_39 : decode cX12_isDay 39 = .ok (.aload_n 0, 1) := by decide +kernel
theorem dX12_isDay_40 : decode cX12_isDay 40 = .ok (.iconst 0, 1) := by decide +kernel
theorem dX12_isDay_41 : decode cX12_isDay 41 = .ok (.iconst 1, 1) := by decide +kernel
theorem dX12_isDay_42 : decode cX12_isDay 42 = .ok (.iload 4, 2) := by decide +kernel
theorem dX12_isDay_44 : decode cX12_isDay 44 = .ok (.iadd, 1) := by decide +kernel
theorem dX12_isDay_45 : decode cX12_isDay 45 = .ok (.aload_n 0, 1) := by decide +kernel
theorem dX12_isDay_46 : decode cX12_isDay 46 = .ok (.iload 4, 2) := by decide +kernel
theorem dX12_isDay_48 : decode cX12_isDay 48 = .ok (.invokevirtual 276, 3) := by decide +kernel
theorem dX12_isDay_51 : decode cX12_isDay 51 = .ok (.iload_n 2, 1) := by decide +kernel
theorem dX12_isDay_52 : decode cX12_isDay 52 = .ok (.invokestatic 332, 3) := by decide +kernel
theorem dX12_isDay_55 : decode cX12_isDay 55 = .ok (.aload_n 0, 1) := by decide +kernel
theorem dX12_isDay_56 : decode cX12_isDay 56 = .ok (.iload 4, 2) := by decide +kernel
theorem dX12_isDay_58 : decode cX12_isDay 58 = .ok (.invokevirtual 276, 3) := by decide +kernel
theorem dX12_isDay_61 : decode cX12_isDay 61 = .ok (.iload_n 2, 1) := by decide +kernel
theorem dX12_isDay_62 : decode cX12_isDay 62 = .ok (.invokestatic 335, 3) := by decide +kernel
theorem dX12_isDay_65 : decode cX12_isDay 65 = .ok (.invokevirtual 338, 3) := by decide +kernel
theorem dX12_isDay_68 : decode cX12_isDay 68 = .ok (.iload_n 3, 1) := by decide +kernel
theorem dX12_isDay_69 : decode cX12_isDay 69 = .ok (.aload_n 0, 1) := by decide +kernel
theorem dX12_isDay_70 : decode cX12_isDay 70 = .ok (.iload 4, 2) := by decide +kernel
theorem dX12_isDay_72 : decode cX12_isDay 72 = .ok (.invokevirtual 276, 3) := by decide +kernel
theorem dX12_isDay_75 : decode cX12_isDay 75 = .ok (.iadd, 1) := by decide +kernel
theorem dX12_isDay_76 : decode cX12_isDay 76 = .ok (.istore_n 3, 1) := by decide +kernel
theorem dX12_isDay_77 : decode cX12_isDay 77 = .ok (.iinc 4 1, 3) := by decide +kernel
theorem dX12_isDay_80 : decode cX12_isDay 80 = .ok (.goto (-48), 3) := by decide +kernel
theorem dX12_isDay_83 : decode cX12_isDay 83 = .ok (.iconst 0, 1) := by decide +kernel
theorem dX12_isDay_84 : decode cX12_isDay 84 = .ok (.istore 4, 2) := by decide +kernel
theorem dX12_isDay_86 : decode cX12_isDay 86 = .ok (.iload 4, 2) := by decide +kernel
theorem dX12_isDay_88 : decode cX12_isDay 88 = .ok (.bipush 10, 2) := by decide +kernel
theorem dX12_isDay_90 : decode cX12_isDay 90 = .ok (.if_icmp .ge 40, 3) := by decide +kernel
theorem dX12_isDay_93 : decode cX12_isDay 93 = .ok (.aload_n 0, 1) := by decide +kernel
theorem dX12_isDay_94 : decode cX12_isDay 94 = .ok (.bipush 9, 2) := by decide +kernel
theorem dX12_isDay_96 : decode cX12_isDay 96 = .ok (.iload 4, 2) := by decide +kernel
theorem dX12_isDay_98 : decode cX12_isDay 98 = .ok (.iadd, 1) := by decide +kernel
theorem dX12_isDay_99 : decode cX12_isDay 99 = .ok (.bipush 19, 2) := by decide +kernel
theorem dX12_isDay_101 : decode cX12_isDay 101 = .ok (.aload_n 0, 1) := by decide +kernel
theorem dX12_isDay_102 : decode cX12_isDay 102 = .ok (.iload 4, 2) := by decide +kernel
theorem dX12_isDay_104 : decode cX12_isDay 104 = .ok (.invokevirtual 279, 3) := by decide +kernel
theorem dX12_isDay_107 : decode cX12_isDay 107 = .ok (.iload_n 2, 1) := by decide +kernel
theorem dX12_isDay_108 : decode cX12_isDay 108 = .ok (.invokestatic 332, 3) := by decide +kernel
theorem dX12_isDay_111 : decode cX12_isDay 111 = .ok (.aload_n 0, 1) := by decide +kernel
theorem dX12_isDay_112 : decode cX12_isDay 112 = .ok (.iload 4, 2) := by decide +kernel
theorem dX12_isDay_114 : decode cX12_isDay 114 = .ok (.invokevirtual 279, 3) := by decide +kernel
theorem dX12_isDay_117 : decode cX12_isDay 117 = .ok (.iload_n 2, 1) := by decide +kernel
theorem dX12_isDay_118 : decode cX12_isDay 118 = .ok (.invokestatic 335, 3) := by decide +kernel
theorem dX12_isDay_121 : decode cX12_isDay 121 = .ok (.invokevirtual 338, 3) := by decide +kernel
theorem dX12_isDay_124 : decode cX12_isDay 124 = .ok (.iinc 4 1, 3) := by decide +kernel
theorem dX12_isDay_127 : decode cX12_isDay 127 = .ok (.goto (-41), 3) := by decide +kernel
theorem dX12_isDay_130 : decode cX12_isDay 130 = .ok (.aload_n 0, 1) := by decide +kernel
theorem dX12_isDay_131 : decode cX12_isDay 131 = .ok (.bipush 19, 2) := by decide +kernel
theorem dX12_isDay_133 : decode cX12_isDay 133 = .ok (.iconst 0, 1) := by decide +kernel
theorem dX12_isDay_134 : decode cX12_isDay 134 = .ok (.iload_n 3, 1) := by decide +kernel
theorem dX12_isDay_135 : decode cX12_isDay 135 = .ok (.iload_n 2, 1) := by decide +kernel
theorem dX12_isDay_136 : decode cX12_isDay 136 = .ok (.invokestatic 332, 3) := by decide +kernel
theorem dX12_isDay_139 : decode cX12_isDay 139 = .ok (.iload_n 3, 1) := by decide +kernel
theorem dX12_isDay_140 : decode cX12_isDay 140 = .ok (.iload_n 2, 1) := by decide +kernel
theorem dX12_isDay_141 : decode cX12_isDay 141 = .ok (.invokestatic 335, 3) := by decide +kernel
theorem dX12_isDay_144 : decode cX12_isDay 144 = .ok (.invokevirtual 338, 3) := by decide +kernel
theorem dX12_isDay_147 : decode cX12_isDay 147 = .ok (.iconst 0, 1) := by decide +kernel
theorem dX12_isDay_148 : decode cX12_isDay 148 = .ok (.istore 4, 2) := by decide +kernel
theorem dX12_isDay_150 : decode cX12_isDay 150 = .ok (.iload 4, 2) := by decide +kernel
theorem dX12_isDay_152 : decode cX12_isDay 152 = .ok (.bipush 80, 2) := by decide +kernel
theorem dX12_isDay_154 : decode cX12_isDay 154 = .ok (.if_icmp .ge 86, 3) := by decide +kernel
theorem dX12_isDay_157 : decode cX12_isDay 157 = .ok (.iload 4, 2) := by decide +kernel
theorem dX12_isDay_159 : decode cX12_isDay 159 = .ok (.iload_n 1, 1) := by decide +kernel
theorem dX12_isDay_160 : decode cX12_isDay 160 = .ok (.if_icmp .ge 13, 3) := by decide +kernel
theorem dX12_isDay_163 : decode cX12_isDay 163 = .ok (.aload_n 0, 1) := by decide +kernel
theorem dX12_isDay_164 : decode cX12_isDay 164 = .ok (.getfield 92, 3) := by decide +kernel
theorem dX12_isDay_167 : decode cX12_isDay 167 = .ok (.iload 4, 2) := by decide +kernel
theorem dX12_isDay_169 : decode cX12_isDay 169 = .ok (.iaload, 1) := by decide +kernel
theorem dX12_isDay_170 : decode cX12_isDay 170 = .ok (.goto 14, 3) := by decide +kernel
theorem dX12_isDay_173 : decode cX12_isDay 173 = .ok (.aload_n 0, 1) := by decide +kernel
theorem dX12_isDay_174 : decode cX12_isDay 174 = .ok (.getfield 62, 3) := by decide +kernel
theorem dX12_isDay_177 : decode cX12_isDay 177 = .ok (.iload 4, 2) := by decide +kernel
theorem dX12_isDay_179 : decode cX12_isDay 179 = .ok (.iaload, 1) := by decide +kernel
theorem dX12_isDay_180 : decode cX12_isDay 180 = .ok (.iload_n 2, 1) := by decide +kernel
theorem dX12_isDay_181 : decode cX12_isDay 181 = .ok (.invokestatic 332, 3) := by decide +kernel
theorem dX12_isDay_184 : decode cX12_isDay 184 = .ok (.istore 5, 2) := by decide +kernel
theorem dX12_isDay_186 : decode cX12_isDay 186 = .ok (.aload_n 0, 1) := by decide +kernel
theorem dX12_isDay_187 : decode cX12_isDay 187 = .ok (.iconst 1, 1) := by decide +kernel
theorem dX12_isDay_188 : decode cX12_isDay 188 = .ok (.iload 4, 2) := by decide +kernel
theorem dX12_isDay_190 : decode cX12_isDay 190 = .ok (.bipush 10, 2) := by decide +kernel
theorem dX12_isDay_192 : decode cX12_isDay 192 = .ok (.idiv, 1) := by decide +kernel
theorem dX12_isDay_193 : decode cX12_isDay 193 = .ok (.iadd, 1) := by decide +kernel
theorem dX12_isDay_194 : decode cX12_isDay 194 = .ok (.bipush 9, 2) := by decide +kernel
theorem dX12_isDay_196 : decode cX12_isDay 196 = .ok (.iload 4, 2) := by decide +kernel
theorem dX12_isDay_198 : decode cX12_isDay 198 = .ok (.bipush 10, 2) := by decide +kernel
theorem dX12_isDay_200 : decode cX12_isDay 200 = .ok (.irem, 1) := by decide +kernel
theorem dX12_isDay_201 : decode cX12_isDay 201 = .ok (.iadd, 1) := by decide +kernel
theorem dX12_isDay_202 : decode cX12_isDay 202 = .ok (.iload 5, 2) := by decide +kernel
theorem dX12_isDay_204 : decode cX12_isDay 204 = .ok (.iload 4, 2) := by decide +kernel
theorem dX12_isDay_206 : decode cX12_isDay 206 = .ok (.iload_n 1, 1) := by decide +kernel
theorem dX12_isDay_207 : decode cX12_isDay 207 = .ok (.if_icmp .ge 13, 3) := by decide +kernel
theorem dX12_isDay_210 : decode cX12_isDay 210 = .ok (.aload_n 0, 1) := by decide +kernel
theorem dX12_isDay_211 : decode cX12_isDay 211 = .ok (.getfield 92, 3) := by decide +kernel
theorem dX12_isDay_214 : decode cX12_isDay 214 = .ok (.iload 4, 2) := by decide +kernel
theorem dX12_isDay_216 : decode cX12_isDay 216 = .ok (.iaload, 1) := by decide +kernel
theorem dX12_isDay_217 : decode cX12_isDay 217 = .ok (.goto 14, 3) := by decide +kernel
theorem dX12_isDay_220 : decode cX12_isDay 220 = .ok (.aload_n 0, 1) := by decide +kernel
theorem dX12_isDay_221 : decode cX12_isDay 221 = .ok (.getfield 62, 3) := by decide +kernel
theorem dX12_isDay_224 : decode cX12_isDay 224 = .ok (.iload 4, 2) := by decide +kernel
theorem dX12_isDay_226 : decode cX12_isDay 226 = .ok (.iaload, 1) := by decide +kernel
theorem dX12_isDay_227 : decode cX12_isDay 227 = .ok (.iload_n 2, 1) := by decide +kernel
theorem dX12_isDay_228 : decode cX12_isDay 228 = .ok (.invokestatic 335, 3) := by decide +kernel
theorem dX12_isDay_231 : decode cX12_isDay 231 = .ok (.invokevirtual 338, 3) := by decide +kernel
theorem dX12_isDay_234 : decode cX12_isDay 234 = .ok (.iinc 4 1, 3) := by decide +kernel
theorem dX12_isDay_237 : decode cX12_isDay 237 = .ok (.goto (-87), 3) := by decide +kernel
theorem dX12_isDay_240 : decode cX12_isDay 240 = .ok (.iconst 0, 1) := by decide +kernel
theorem dX12_isDay_241 : decode cX12_isDay 241 = .ok (.istore 4, 2) := by decide +kernel
theorem dX12_isDay_243 : decode cX12_isDay 243 = .ok (.aload_n 0, 1) := by decide +kernel
theorem dX12_isDay_244 : decode cX12_isDay 244 = .ok (.invokevirtual 342, 3) := by decide +kernel
theorem dX12_isDay_247 : decode cX12_isDay 247 = .ok (.istore 5, 2) := by decide +kernel
theorem dX12_isDay_249 : decode cX12_isDay 249 = .ok (.iload 5, 2) := by decide +kernel
theorem dX12_isDay_251 : decode cX12_isDay 251 = .ok (.ifCond .le 19, 3) := by decide +kernel
theorem dX12_isDay_254 : decode cX12_isDay 254 = .ok (.iload 4, 2) := by decide +kernel
theorem dX12_isDay_256 : decode cX12_isDay 256 = .ok (.iload 5, 2) := by decide +kernel
theorem dX12_isDay_258 : decode cX12_isDay 258 = .ok (.iadd, 1) := by decide +kernel
theorem dX12_isDay_259 : decode cX12_isDay 259 = .ok (.istore 4, 2) := by decide +kernel
theorem dX12_isDay_261 : decode cX12_isDay 261 = .ok (.aload_n 0, 1) := by decide +kernel
theorem dX12_isDay_262 : decode cX12_isDay 262 = .ok (.invokevirtual 342, 3) := by decide +kernel
theorem dX12_isDay_265 : decode cX12_isDay 265 = .ok (.istore 5, 2) := by decide +kernel
theorem dX12_isDay_267 : decode cX12_isDay 267 = .ok (.goto (-18), 3) := by decide +kernel
theorem dX12_isDay_270 : decode cX12_isDay 270 = .ok (.iload 4, 2) := by decide +kernel
theorem dX12_isDay_272 : decode cX12_isDay 272 = .ok (.aload_n 0, 1) := by decide +kernel
theorem dX12_isDay_273 : decode cX12_isDay 273 = .ok (.getfield 329, 3) := by decide +kernel
theorem dX12_isDay_276 : decode cX12_isDay 276 = .ok (.if_icmp .ne 7, 3) := by decide +kernel
theorem dX12_isDay_279 : decode cX12_isDay 279 = .ok (.iconst 1, 1) := by decide +kernel
theorem dX12_isDay_280 : decode cX12_isDay 280 = .ok (.goto 4, 3) := by decide +kernel
theorem dX12_isDay_283 : decode cX12_isDay 283 = .ok (.iconst 0, 1) := by decide +kernel
theorem dX12_isDay_284 : decode cX12_isDay 284 = .ok (.ireturn, 1) := by decide +kernel
theorem dX12_grows_0 : decode cX12_grows 0 = .ok (.iconst 0, 1) := by decide +kernel
theorem dX12_grows_1 : decode cX12_grows 1 = .ok (.istore_n 1, 1) := by decide +kernel
theorem dX12_grows_2 : decode cX12_grows 2 = .ok (.iload_n 1, 1) := by decide +kernel
theorem dX12_grows_3 : decode cX12_grows 3 = .ok (.bipush 22, 2) := by decide +kernel
theorem dX12_grows_5 : decode cX12_grows 5 = .ok (.if_icmp .ge 16, 3) := by decide +kernel
theorem dX12_grows_8 : decode cX12_grows 8 = .ok (.aload_n 0, 1) := by decide +kernel
theorem dX12_grows_9 : decode cX12_grows 9 = .ok (.getfield 86, 3) := by decide +kernel
theorem dX12_grows_12 : decode cX12_grows 12 = .ok (.iload_n 1, 1) := by decide +kernel
theorem dX12_grows_13 : decode cX12_grows 13 = .ok (.iconst (-1), 1) := by decide +kernel
theorem dX12_grows_14 : decode cX12_grows 14 = .ok (.iastore, 1) := by decide +kernel
theorem dX12_grows_15 : decode cX12_grows 15 = .ok (.iinc 1 1, 3) := by decide +kernel
theorem dX12_grows_18 : decode cX12_grows 18 = .ok (.goto (-16), 3) := by decide +kernel
theorem dX12_grows_21 : decode cX12_grows 21 = .ok (.iconst 1, 1) := by decide +kernel
theorem dX12_grows_22 : decode cX12_grows 22 = .ok (.istore_n 1, 1) := by decide +kernel
theorem dX12_grows_23 : decode cX12_grows 23 = .ok (.aload_n 0, 1) := by decide +kernel
theorem dX12_grows_24 : decode cX12_grows 24 = .ok (.getfield 89, 3) := by decide +kernel
theorem dX12_grows_27 : decode cX12_grows 27 = .ok (.iconst 0, 1) := by decide +kernel
theorem dX12_grows_28 : decode cX12_grows 28 = .ok (.bipush 20, 2) := by decide +kernel
theorem dX12_grows_30 : decode cX12_grows 30 = .ok (.iastore, 1) := by decide +kernel
theorem dX12_grows_31 : decode cX12_grows 31 = .ok (.aload_n 0, 1) := by decide +kernel
theorem dX12_grows_32 : decode cX12_grows 32 = .ok (.getfield 86, 3) := by decide +kernel
theorem dX12_grows_35 : decode cX12_grows 35 = .ok (.bipush 20, 2) := by decide +kernel
theorem dX12_grows_37 : decode cX12_grows 37 = .ok (.bipush 20, 2) := by decide +kernel
theorem dX12_grows_39 : decode cX12_grows 39 = .ok (.iastore, 1) := by decide +kernel
theorem dX12_grows_40 : decode cX12_grows 40 = .ok (.iconst 0, 1) := by decide +kernel
theorem dX12_grows_41 : decode cX12_grows 41 = .ok (.istore_n 2, 1) := by decide +kernel
theorem dX12_grows_42 : decode cX12_grows 42 = .ok (.iload_n 2, 1) := by decide +kernel
theorem dX12_grows_43 : decode cX12_grows 43 = .ok (.iload_n 1, 1) := by decide +kernel
theorem dX12_grows_44 : decode cX12_grows 44 = .ok (.if_icmp .ge 86, 3) := by decide +kernel
theorem dX12_grows_47 : decode cX12_grows 47 = .ok (.aload_n 0, 1) := by decide +kernel
theorem dX12_grows_48 : decode cX12_grows 48 = .ok (.getfield 86, 3) := by decide +kernel
theorem dX12_grows_51 : decode cX12_grows 51 = .ok (.bipush 21, 2) := by decide +kernel
theorem dX12_grows_53 : decode cX12_grows 53 = .ok (.iaload, 1) := by decide +kernel
theorem dX12_grows_54 : decode cX12_grows 54 = .ok (.ifCond .ge 76, 3) := by decide +kernel
theorem dX12_grows_57 : decode cX12_grows 57 = .ok (.iconst 0, 1) := by decide +kernel
theorem dX12_grows_58 : decode cX12_grows 58 = .ok (.istore_n 3, 1) := by decide +kernel
theorem dX12_grows_59 : decode cX12_grows 59 = .ok (.iload_n 3, 1) := by decide +kernel
theorem dX12_grows_60 : decode cX12_grows 60 = .ok (.bipush 22, 2) := by decide +kernel
theorem dX12_grows_62 : decode cX12_grows 62 = .ok (.if_icmp .ge 62, 3) := by decide +kernel
theorem dX12_grows_65 : decode cX12_grows 65 = .ok (.aload_n 0, 1) := by decide +kernel
theorem dX12_grows_66 : decode cX12_grows 66 = .ok (.getfield 86, 3) := by decide +kernel
theorem dX12_grows_69 : decode cX12_grows 69 = .ok (.iload_n 3, 1) := by decide +kernel
theorem dX12_grows_70 : decode cX12_grows 70 = .ok (.iaload, 1) := by decide +kernel
theorem dX12_grows_71 : decode cX12_grows 71 = .ok (.ifCond .ge 47, 3) := by decide +kernel
theorem dX12_grows_74 : decode cX12_grows 74 = .ok (.aload_n 0, 1) := by decide +kernel
theorem dX12_grows_75 : decode cX12_grows 75 = .ok (.getfield 83, 3) := by decide +kernel
theorem dX12_grows_78 : decode cX12_grows 78 = .ok (.bipush 22, 2) := by decide +kernel
theorem dX12_grows_80 : decode cX12_grows 80 = .ok (.aload_n 0, 1) := by decide +kernel
theorem dX12_grows_81 : decode cX12_grows 81 = .ok (.getfield 89, 3) := by decide +kernel
theorem dX12_grows_84 : decode cX12_grows 84 = .ok (.iload_n 2, 1) := by decide +kernel
theorem dX12_grows_85 : decode cX12_grows 85 = .ok (.iaload, 1) := by decide +kernel
theorem dX12_grows_86 : decode cX12_grows 86 = .ok (.imul, 1) := by decide +kernel
theorem dX12_grows_87 : decode cX12_grows 87 = .ok (.iload_n 3, 1) := by decide +kernel
theorem dX12_grows_88 : decode cX12_grows 88 = .ok (.iadd, 1) := by decide +kernel
theorem dX12_grows_89 : decode cX12_grows 89 = .ok (.iaload, 1) := by decide +kernel
theorem dX12_grows_90 : decode cX12_grows 90 = .ok (.ifCond .ne 6, 3) := by decide +kernel
theorem dX12_grows_93 : decode cX12_grows 93 = .ok (.goto 25, 3) := by decide +kernel
theorem dX12_grows_96 : decode cX12_grows 96 = .ok (.aload_n 0, 1) := by decide +kernel
theorem dX12_grows_97 : decode cX12_grows 97 = .ok (.getfield 86, 3) := by decide +kernel
theorem dX12_grows_100 : decode cX12_grows 100 = .ok (.iload_n 3, 1) := by decide +kernel
theorem dX12_grows_101 : decode cX12_grows 101 = .ok (.aload_n 0, 1) := by decide +kernel
theorem dX12_grows_102 : decode cX12_grows 102 = .ok (.getfield 89, 3) := by decide +kernel
theorem dX12_grows_105 : decode cX12_grows 105 = .ok (.iload_n 2, 1) := by decide +kernel
theorem dX12_grows_106 : decode cX12_grows 106 = .ok (.iaload, 1) := by decide +kernel
theorem dX12_grows_107 : decode cX12_grows 107 = .ok (.iastore, 1) := by decide +kernel
theorem dX12_grows_108 : decode cX12_grows 108 = .ok (.aload_n 0, 1) := by decide +kernel
theorem dX12_grows_109 : decode cX12_grows 109 = .ok (.getfield 89, 3) := by decide +kernel
theorem dX12_grows_112 : decode cX12_grows 112 = .ok (.iload_n 1, 1) := by decide +kernel
theorem dX12_grows_113 : decode cX12_grows 113 = .ok (.iload_n 3, 1) := by decide +kernel
theorem dX12_grows_114 : decode cX12_grows 114 = .ok (.iastore, 1) := by decide +kernel
theorem dX12_grows_115 : decode cX12_grows 115 = .ok (.iinc 1 1, 3) := by decide +kernel
theorem dX12_grows_118 : decode cX12_grows 118 = .ok (.iinc 3 1, 3) := by decide +kernel
theorem dX12_grows_121 : decode cX12_grows 121 = .ok (.goto (-62), 3) := by decide +kernel
theorem dX12_grows_124 : decode cX12_grows 124 = .ok (.iinc 2 1, 3) := by decide +kernel
theorem dX12_grows_127 : decode cX12_grows 127 = .ok (.goto (-85), 3) := by decide +kernel
theorem dX12_grows_130 : decode cX12_grows 130 = .ok (.aload_n 0, 1) := by decide +kernel
theorem dX12_grows_131 : decode cX12_grows 131 = .ok (.getfield 86, 3) := by decide +kernel
theorem dX12_grows_134 : decode cX12_grows 134 = .ok (.bipush 21, 2) := by decide +kernel
theorem dX12_grows_136 : decode cX12_grows 136 = .ok (.iaload, 1) := by decide +kernel
theorem dX12_grows_137 : decode cX12_grows 137 = .ok (.ifCond .ge 5, 3) := by decide +kernel
theorem dX12_grows_140 : decode cX12_grows 140 = .ok (.iconst 0, 1) := by decide +kernel
theorem dX12_grows_141 : decode cX12_grows 141 = .ok (.ireturn, 1) := by decide +kernel
theorem dX12_grows_142 : decode cX12_grows 142 = .ok (.aload_n 0, 1) := by decide +kernel
theorem dX12_grows_143 : decode cX12_grows 143 = .ok (.getfield 83, 3) := by decide +kernel
theorem dX12_grows_146 : decode cX12_grows 146 = .ok (.bipush 22, 2) := by decide +kernel
theorem dX12_grows_148 : decode cX12_grows 148 = .ok (.aload_n 0, 1) := by decide +kernel
theorem dX12_grows_149 : decode cX12_grows 149 = .ok (.getfield 86, 3) := by decide +kernel
theorem dX12_grows_152 : decode cX12_grows 152 = .ok (.bipush 21, 2) := by decide +kernel
theorem dX12_grows_154 : decode cX12_grows 154 = .ok (.iaload, 1) := by decide +kernel
theorem dX12_grows_155 : decode cX12_grows 155 = .ok (.imul, 1) := by decide +kernel
theorem dX12_grows_156 : decode cX12_grows 156 = .ok (.bipush 21, 2) := by decide +kernel
theorem dX12_grows_158 : decode cX12_grows 158 = .ok (.iadd, 1) := by decide +kernel
theorem dX12_grows_159 : decode cX12_grows 159 = .ok (.iaload, 1) := by decide +kernel
theorem dX12_grows_160 : decode cX12_grows 160 = .ok (.istore_n 2, 1) := by decide +kernel
theorem dX12_grows_161 : decode cX12_grows 161 = .ok (.aload_n 0, 1) := by decide +kernel
theorem dX12_grows_162 : decode cX12_grows 162 = .ok (.getfield 86, 3) := by decide +kernel
theorem dX12_grows_165 : decode cX12_grows 165 = .ok (.bipush 21, 2) := by decide +kernel
theorem dX12_grows_167 : decode cX12_grows 167 = .ok (.iaload, 1) := by decide +kernel
theorem dX12_grows_168 : decode cX12_grows 168 = .ok (.istore_n 3, 1) := by decide +kernel
theorem dX12_grows_169 : decode cX12_grows 169 = .ok (.iload_n 3, 1) := by decide +kernel
theorem dX12_grows_170 : decode cX12_grows 170 = .ok (.bipush 20, 2) := by decide +kernel
theorem dX12_grows_172 : decode cX12_grows 172 = .ok (.if_icmp .eq 50, 3) := by decide +kernel
theorem dX12_grows_175 : decode cX12_grows 175 = .ok (.aload_n 0, 1) := by decide +kernel
theorem dX12_grows_176 : decode cX12_grows 176 = .ok (.getfield 83, 3) := by decide +kernel
theorem dX12_grows_179 : decode cX12_grows 179 = .ok (.bipush 22, 2) := by decide +kernel
theorem dX12_grows_181 : decode cX12_grows 181 = .ok (.aload_n 0, 1) := by decide +kernel
theorem dX12_grows_182 : decode cX12_grows 182 = .ok (.getfield 86, 3) := by decide +kernel
theorem dX12_grows_185 : decode cX12_grows 185 = .ok (.iload_n 3, 1) := by decide +kernel
theorem dX12_grows_186 : decode cX12_grows 186 = .ok (.iaload, 1) := by decide +kernel
theorem dX12_grows_187 : decode cX12_grows 187 = .ok (.imul, 1) := by decide +kernel
theorem dX12_grows_188 : decode cX12_grows 188 = .ok (.iload_n 3, 1) := by decide +kernel
theorem dX12_grows_189 : decode cX12_grows 189 = .ok (.iadd, 1) := by decide +kernel
theorem dX12_grows_190 : decode cX12_grows 190 = .ok (.iaload, 1) := by decide +kernel
theorem dX12_grows_191 : decode cX12_grows 191 = .ok (.iload_n 2, 1) := by decide +kernel
theorem dX12_grows_192 : decode cX12_grows 192 = .ok (.if_icmp .ge 20, 3) := by decide +kernel
theorem dX12_grows_195 : decode cX12_grows 195 = .ok (.aload_n 0, 1) := by decide +kernel
theorem dX12_grows_196 : decode cX12_grows 196 = .ok (.getfield 83, 3) := by decide +kernel
theorem dX12_grows_199 : decode cX12_grows 199 = .ok (.bipush 22, 2) := by decide +kernel
theorem dX12_grows_201 : decode cX12_grows 201 = .ok (.aload_n 0, 1) := by decide +kernel
theorem dX12_grows_202 : decode cX12_grows 202 = .ok (.getfield 86, 3) := by decide +kernel
theorem dX12_grows_205 : decode cX12_grows 205 = .ok (.iload_n 3, 1) := by decide +kernel
theorem dX12_grows_206 : decode cX12_grows 206 = .ok (.iaload, 1) := by decide +kernel
theorem dX12_grows_207 : decode cX12_grows 207 = .ok (.imul, 1) := by decide +kernel
theorem dX12_grows_208 : decode cX12_grows 208 = .ok (.iload_n 3, 1) := by decide +kernel
theorem dX12_grows_209 : decode cX12_grows 209 = .ok (.iadd, 1) := by decide +kernel
theorem dX12_grows_210 : decode cX12_grows 210 = .ok (.iaload, 1) := by decide +kernel
theorem dX12_grows_211 : decode cX12_grows 211 = .ok (.istore_n 2, 1) := by decide +kernel
theorem dX12_grows_212 : decode cX12_grows 212 = .ok (.aload_n 0, 1) := by decide +kernel
theorem dX12_grows_213 : decode cX12_grows 213 = .ok (.getfield 86, 3) := by decide +kernel
theorem dX12_grows_216 : decode cX12_grows 216 = .ok (.iload_n 3, 1) := by decide +kernel
theorem dX12_grows_217 : decode cX12_grows 217 = .ok (.iaload, 1) := by decide +kernel
theorem dX12_grows_218 : decode cX12_grows 218 = .ok (.istore_n 3, 1) := by decide +kernel
theorem dX12_grows_219 : decode cX12_grows 219 = .ok (.goto (-50), 3) := by decide +kernel
theorem dX12_grows_222 : decode cX12_grows 222 = .ok (.bipush 21, 2) := by decide +kernel
theorem dX12_grows_224 : decode cX12_grows 224 = .ok (.istore_n 3, 1) := by decide +kernel
theorem dX12_grows_225 : decode cX12_grows 225 = .ok (.iload_n 3, 1) := by decide +kernel
theorem dX12_grows_226 : decode cX12_grows 226 = .ok (.bipush 20, 2) := by decide +kernel
theorem dX12_grows_228 : decode cX12_grows 228 = .ok (.if_icmp .eq 53, 3) := by decide +kernel
theorem dX12_grows_231 : decode cX12_grows 231 = .ok (.aload_n 0, 1) := by decide +kernel
theorem dX12_grows_232 : decode cX12_grows 232 = .ok (.getfield 83, 3) := by decide +kernel
theorem dX12_grows_235 : decode cX12_grows 235 = .ok (.bipush 22, 2) := by decide +kernel
theorem dX12_grows_237 : decode cX12_grows 237 = .ok (.aload_n 0, 1) := by decide +kernel
theorem dX12_grows_238 : decode cX12_grows 238 = .ok (.getfield 86, 3) := by decide +kernel
theorem dX12_grows_241 : decode cX12_grows 241 = .ok (.iload_n 3, 1) := by decide +kernel
theorem dX12_grows_242 : decode cX12_grows 242 = .ok (.iaload, 1) := by decide +kernel
theorem dX12_grows_243 : decode cX12_grows 243 = .ok (.imul, 1) := by decide +kernel
theorem dX12_grows_244 : decode cX12_grows 244 = .ok (.iload_n 3, 1) := by decide +kernel
theorem dX12_grows_245 : decode cX12_grows 245 = .ok (.iadd, 1) := by decide +kernel
theorem dX12_grows_246 : decode cX12_grows 246 = .ok (.dup2, 1) := by decide +kernel
theorem dX12_grows_247 : decode cX12_grows 247 = .ok (.iaload, 1) := by decide +kernel
theorem dX12_grows_248 : decode cX12_grows 248 = .ok (.iload_n 2, 1) := by decide +kernel
theorem dX12_grows_249 : decode cX12_grows 249 = .ok (.isub, 1) := by decide +kernel
theorem dX12_grows_250 : decode cX12_grows 250 = .ok (.iastore, 1) := by decide +kernel
theorem dX12_grows_251 : decode cX12_grows 251 = .ok (.aload_n 0, 1) := by decide +kernel
theorem dX12_grows_252 : decode cX12_grows 252 = .ok (.getfield 83, 3) := by decide +kernel
theorem dX12_grows_255 : decode cX12_grows 255 = .ok (.bipush 22, 2) := by decide +kernel
theorem dX12_grows_257 : decode cX12_grows 257 = .ok (.iload_n 3, 1) := by decide +kernel
theorem dX12_grows_258 : decode cX12_grows 258 = .ok (.imul, 1) := by decide +kernel
theorem dX12_grows_259 : decode cX12_grows 259 = .ok (.aload_n 0, 1) := by decide +kernel
theorem dX12_grows_260 : decode cX12_grows 260 = .ok (.getfield 86, 3) := by decide +kernel
theorem dX12_grows_263 : decode cX12_grows 263 = .ok (.iload_n 3, 1) := by decide +kernel
theorem dX12_grows_264 : decode cX12_grows 264 = .ok (.iaload, 1) := by decide +kernel
theorem dX12_grows_265 : decode cX12_grows 265 = .ok (.iadd, 1) := by decide +kernel
theorem dX12_grows_266 : decode cX12_grows 266 = .ok (.dup2, 1) := by decide +kernel
theorem dX12_grows_267 : decode cX12_grows 267 = .ok (.iaload, 1) := by decide +kernel
theorem dX12_grows_268 : decode cX12_grows 268 = .ok (.iload_n 2, 1) := by decide +kernel
theorem dX12_grows_269 : decode cX12_grows 269 = .ok (.iadd, 1) := by decide +kernel
theorem dX12_grows_270 : decode cX12_grows 270 = .ok (.iastore, 1) := by decide +kernel
theorem dX12_grows_271 : decode cX12_grows 271 = .ok (.aload_n 0, 1) := by decide +kernel
theorem dX12_grows_272 : decode cX12_grows 272 = .ok (.getfield 86, 3) := by decide +kernel
theorem dX12_grows_275 : decode cX12_grows 275 = .ok (.iload_n 3, 1) := by decide +kernel
theorem dX12_grows_276 : decode cX12_grows 276 = .ok (.iaload, 1) := by decide +kernel
theorem dX12_grows_277 : decode cX12_grows 277 = .ok (.istore_n 3, 1) := by decide +kernel
theorem dX12_grows_278 : decode cX12_grows 278 = .ok (.goto (-53), 3) := by decide +kernel
theorem dX12_grows_281 : decode cX12_grows 281 = .ok (.iload_n 2, 1) := by decide +kernel
theorem dX12_grows_282 : decode cX12_grows 282 = .ok (.ireturn, 1) := by decide +kernel
theorem dX12_layPart_0 : decode cX12_layPart 0 = .ok (.iconst 0, 1) := by decide +kernel
theorem dX12_layPart_1 : decode cX12_layPart 1 = .ok (.istore_n 2, 1) := by decide +kernel
theorem dX12_layPart_2 : decode cX12_layPart 2 = .ok (.iload_n 2, 1) := by decide +kernel
theorem dX12_layPart_3 : decode cX12_layPart 3 = .ok (.bipush 80, 2) := by decide +kernel
theorem dX12_layPart_5 : decode cX12_layPart 5 = .ok (.if_icmp .ge 57, 3) := by decide +kernel
theorem dX12_layPart_8 : decode cX12_layPart 8 = .ok (.aload_n 0, 1) := by decide +kernel
theorem dX12_layPart_9 : decode cX12_layPart 9 = .ok (.getfield 92, 3) := by decide +kernel
theorem dX12_layPart_12 : decode cX12_layPart 12 = .ok (.iload_n 2, 1) := by decide +kernel
theorem dX12_layPart_13 : decode cX12_layPart 13 = .ok (.aload_n 0, 1) := by decide +kernel
theorem dX12_layPart_14 : decode cX12_layPart 14 = .ok (.getfield 62, 3) := by decide +kernel
theorem dX12_layPart_17 : decode cX12_layPart 17 = .ok (.iload_n 2, 1) := by decide +kernel
theorem dX12_layPart_18 : decode cX12_layPart 18 = .ok (.iaload, 1) := by decide +kernel
theorem dX12_layPart_19 : decode cX12_layPart 19 = .ok (.iload_n 1, 1) := by decide +kernel
theorem dX12_layPart_20 : decode cX12_layPart 20 = .ok (.invokestatic 332, 3) := by decide +kernel
theorem dX12_layPart_23 : decode cX12_layPart 23 = .ok (.iastore, 1) := by decide +kernel
theorem dX12_layPart_24 : decode cX12_layPart 24 = .ok (.aload_n 0, 1) := by decide +kernel
theorem dX12_layPart_25 : decode cX12_layPart 25 = .ok (.getfield 62, 3) := by decide +kernel
theorem dX12_layPart_28 : decode cX12_layPart 28 = .ok (.iload_n 2, 1) := by decide +kernel
theorem dX12_layPart_29 : decode cX12_layPart 29 = .ok (.iaload, 1) := by decide +kernel
theorem dX12_layPart_30 : decode cX12_layPart 30 = .ok (.iload_n 1, 1) := by decide +kernel
theorem dX12_layPart_31 : decode cX12_layPart 31 = .ok (.irem, 1) := by decide +kernel
theorem dX12_layPart_32 : decode cX12_layPart 32 = .ok (.ifCond .le 24, 3) := by decide +kernel
theorem dX12_layPart_35 : decode cX12_layPart 35 = .ok (.aload_n 0, 1) := by decide +kernel
theorem dX12_layPart_36 : decode cX12_layPart 36 = .ok (.iload_n 2, 1) := by decide +kernel
theorem dX12_layPart_37 : decode cX12_layPart 37 = .ok (.iconst 1, 1) := by decide +kernel
theorem dX12_layPart_38 : decode cX12_layPart 38 = .ok (.iadd, 1) := by decide +kernel
theorem dX12_layPart_39 : decode cX12_layPart 39 = .ok (.iload_n 1, 1) := by decide +kernel
theorem dX12_layPart_40 : decode cX12_layPart 40 = .ok (.invokevirtual 345, 3) := by decide +kernel
theorem dX12_layPart_43 : decode cX12_layPart 43 = .ok (.ifCond .ne 13, 3) := by decide +kernel
theorem dX12_layPart_46 : decode cX12_layPart 46 = .ok (.aload_n 0, 1) := by decide +kernel
theorem dX12_layPart_47 : decode cX12_layPart 47 = .ok (.getfield 92, 3) := by decide +kernel
theorem dX12_layPart_50 : decode cX12_layPart 50 = .ok (.iload_n 2, 1) := by decide +kernel
theorem dX12_layPart_51 : decode cX12_layPart 51 = .ok (.dup2, 1) := by decide +kernel
theorem dX12_layPart_52 : decode cX12_layPart 52 = .ok (.iaload, 1) := by decide +kernel
theorem dX12_layPart_53 : decode cX12_layPart 53 = .ok (.iconst 1, 1) := by decide +kernel
theorem dX12_layPart_54 : decode cX12_layPart 54 = .ok (.iadd, 1) := by decide +kernel
theorem dX12_layPart_55 : decode cX12_layPart 55 = .ok (.iastore, 1) := by decide +kernel
theorem dX12_layPart_56 : decode cX12_layPart 56 = .ok (.iinc 2 1, 3) := by decide +kernel
theorem dX12_layPart_59 : decode cX12_layPart 59 = .ok (.goto (-57), 3) := by decide +kernel
theorem dX12_layPart_62 : decode cX12_layPart 62 = .ok (.return_, 1) := by decide +kernel
theorem dX12_parted_0 : decode cX12_parted 0 = .ok (.iload_n 1, 1) := by decide +kernel
theorem dX12_parted_1 : decode cX12_parted 1 = .ok (.iconst 1, 1) := by decide +kernel
theorem dX12_parted_2 : decode cX12_parted 2 = .ok (.bipush 9, 2) := by decide +kernel
theorem dX12_parted_4 : decode cX12_parted 4 = .ok (.invokestatic 260, 3) := by decide +kernel
theorem dX12_parted_7 : decode cX12_parted 7 = .ok (.ifCond .eq 31, 3) := by decide +kernel
theorem dX12_parted_10 : decode cX12_parted 10 = .ok (.iload_n 2, 1) := by decide +kernel
theorem dX12_parted_11 : decode cX12_parted 11 = .ok (.iconst 0, 1) := by decide +kernel
theorem dX12_parted_12 : decode cX12_parted 12 = .ok (.iload_n 1, 1) := by decide +kernel
theorem dX12_parted_13 : decode cX12_parted 13 = .ok (.iconst 1, 1) := by decide +kernel
theorem dX12_parted_14 : decode cX12_parted 14 = .ok (.isub, 1) := by decide +kernel
theorem dX12_parted_15 : decode cX12_parted 15 = .ok (.invokestatic 260, 3) := by decide +kernel
theorem dX12_parted_18 : decode cX12_parted 18 = .ok (.ifCond .eq 20, 3) := by decide +kernel
theorem dX12_parted_21 : decode cX12_parted 21 = .ok (.aload_n 0, 1) := by decide +kernel
theorem dX12_parted_22 : decode cX12_parted 22 = .ok (.iload_n 3, 1) := by decide +kernel
theorem dX12_parted_23 : decode cX12_parted 23 = .ok (.invokevirtual 285, 3) := by decide +kernel
theorem dX12_parted_26 : decode cX12_parted 26 = .ok (.ifCond .eq 12, 3) := by decide +kernel
theorem dX12_parted_29 : decode cX12_parted 29 = .ok (.aload_n 0, 1) := by decide +kernel
theorem dX12_parted_30 : decode cX12_parted 30 = .ok (.iload 4, 2) := by decide +kernel
theorem dX12_parted_32 : decode cX12_parted 32 = .ok (.invokevirtual 288, 3) := by decide +kernel
theorem dX12_parted_35 : decode cX12_parted 35 = .ok (.ifCond .ne 5, 3) := by decide +kernel
theorem dX12_parted_38 : decode cX12_parted 38 = .ok (.iconst (-1), 1) := by decide +kernel
theorem dX12_parted_39 : decode cX12_parted 39 = .ok (.ireturn, 1) := by decide +kernel
theorem dX12_parted_40 : decode cX12_parted 40 = .ok (.aload_n 0, 1) := by decide +kernel
theorem dX12_parted_41 : decode cX12_parted 41 = .ok (.invokevirtual 291, 3) := by decide +kernel
theorem dX12_parted_44 : decode cX12_parted 44 = .ok (.iconst 0, 1) := by decide +kernel
theorem dX12_parted_45 : decode cX12_parted 45 = .ok (.istore 5, 2) := by decide +kernel
theorem dX12_parted_47 : decode cX12_parted 47 = .ok (.iload 5, 2) := by decide +kernel
theorem dX12_parted_49 : decode cX12_parted 49 = .ok (.iload_n 2, 1) := by decide +kernel
theorem dX12_parted_50 : decode cX12_parted 50 = .ok (.if_icmp .gt 50, 3) := by decide +kernel
theorem dX12_parted_53 : decode cX12_parted 53 = .ok (.aload_n 0, 1) := by decide +kernel
theorem dX12_parted_54 : decode cX12_parted 54 = .ok (.iload_n 1, 1) := by decide +kernel
theorem dX12_parted_55 : decode cX12_parted 55 = .ok (.iload 5, 2) := by decide +kernel
theorem dX12_parted_57 : decode cX12_parted 57 = .ok (.isub, 1) := by decide +kernel
theorem dX12_parted_58 : decode cX12_parted 58 = .ok (.invokevirtual 349, 3) := by decide +kernel
theorem dX12_parted_61 : decode cX12_parted 61 = .ok (.iconst 0, 1) := by decide +kernel
theorem dX12_parted_62 : decode cX12_parted 62 = .ok (.istore 6, 2) := by decide +kernel
theorem dX12_parted_64 : decode cX12_parted 64 = .ok (.iload 6, 2) := by decide +kernel
theorem dX12_parted_66 : decode cX12_parted 66 = .ok (.bipush 80, 2) := by decide +kernel
theorem dX12_parted_68 : decode cX12_parted 68 = .ok (.if_icmp .ge 26, 3) := by decide +kernel
theorem dX12_parted_71 : decode cX12_parted 71 = .ok (.aload_n 0, 1) := by decide +kernel
theorem dX12_parted_72 : decode cX12_parted 72 = .ok (.getfield 62, 3) := by decide +kernel
theorem dX12_parted_75 : decode cX12_parted 75 = .ok (.iload 6, 2) := by decide +kernel
theorem dX12_parted_77 : decode cX12_parted 77 = .ok (.dup2, 1) := by decide +kernel
theorem dX12_parted_78 : decode cX12_parted 78 = .ok (.iaload, 1) := by decide +kernel
theorem dX12_parted_79 : decode cX12_parted 79 = .ok (.aload_n 0, 1) := by decide +kernel
theorem dX12_parted_80 : decode cX12_parted 80 = .ok (.getfield 92, 3) := by decide +kernel
theorem dX12_parted_83 : decode cX12_parted 83 = .ok (.iload 6, 2) := by decide +kernel
theorem dX12_parted_85 : decode cX12_parted 85 = .ok (.iaload, 1) := by decide +kernel
theorem dX12_parted_86 : decode cX12_parted 86 = .ok (.isub, 1) := by decide +kernel
theorem dX12_parted_87 : decode cX12_parted 87 = .ok (.iastore, 1) := by decide +kernel
theorem dX12_parted_88 : decode cX12_parted 88 = .ok (.iinc 6 1, 3) := by decide +kernel
theorem dX12_parted_91 : decode cX12_parted 91 = .ok (.goto (-27), 3) := by decide +kernel
theorem dX12_parted_94 : decode cX12_parted 94 = .ok (.iinc 5 1, 3) := by decide +kernel
theorem dX12_parted_97 : decode cX12_parted 97 = .ok (.goto (-50), 3) := by decide +kernel
theorem dX12_parted_100 : decode cX12_parted 100 = .ok (.aload_n 0, 1) := by decide +kernel
theorem dX12_parted_101 : decode cX12_parted 101 = .ok (.getfield 92, 3) := by decide +kernel
theorem dX12_parted_104 : decode cX12_parted 104 = .ok (.bipush 10, 2) := by decide +kernel
theorem dX12_parted_106 : decode cX12_parted 106 = .ok (.iload_n 3, 1) := by decide +kernel
theorem dX12_parted_107 : decode cX12_parted 107 = .ok (.imul, 1) := by decide +kernel
theorem dX12_parted_108 : decode cX12_parted 108 = .ok (.iload 4, 2) := by decide +kernel
theorem dX12_parted_110 : decode cX12_parted 110 = .ok (.iadd, 1) := by decide +kernel
theorem dX12_parted_111 : decode cX12_parted 111 = .ok (.iaload, 1) := by decide +kernel
theorem dX12_parted_112 : decode cX12_parted 112 = .ok (.ireturn, 1) := by decide +kernel
theorem dX12_findEven_0 : decode cX12_findEven 0 = .ok (.aload_n 0, 1) := by decide +kernel
theorem dX12_findEven_1 : decode cX12_findEven 1 = .ok (.invokevirtual 291, 3) := by decide +kernel
theorem dX12_findEven_4 : decode cX12_findEven 4 = .ok (.iconst 0, 1) := by decide +kernel
theorem dX12_findEven_5 : decode cX12_findEven 5 = .ok (.istore_n 1, 1) := by decide +kernel
theorem dX12_findEven_6 : decode cX12_findEven 6 = .ok (.aload_n 0, 1) := by decide +kernel
theorem dX12_findEven_7 : decode cX12_findEven 7 = .ok (.iconst 0, 1) := by decide +kernel
theorem dX12_findEven_8 : decode cX12_findEven 8 = .ok (.putfield 352, 3) := by decide +kernel
theorem dX12_findEven_11 : decode cX12_findEven 11 = .ok (.iconst 1, 1) := by decide +kernel
theorem dX12_findEven_12 : decode cX12_findEven 12 = .ok (.istore_n 2, 1) := by decide +kernel
theorem dX12_findEven_13 : decode cX12_findEven 13 = .ok (.iload_n 2, 1) := by decide +kernel
theorem dX12_findEven_14 : decode cX12_findEven 14 = .ok (.iconst 1, 1) := by decide +kernel
theorem dX12_findEven_15 : decode cX12_findEven 15 = .ok (.aload_n 0, 1) := by decide +kernel
theorem dX12_findEven_16 : decode cX12_findEven 16 = .ok (.invokevirtual 257, 3) := by decide +kernel
theorem dX12_findEven_19 : decode cX12_findEven 19 = .ok (.ishl, 1) := by decide +kernel
theorem dX12_findEven_20 : decode cX12_findEven 20 = .ok (.if_icmp .ge 92, 3) := by decide +kernel
theorem dX12_findEven_23 : decode cX12_findEven 23 = .ok (.iconst 0, 1) := by decide +kernel
theorem dX12_findEven_24 : decode cX12_findEven 24 = .ok (.istore_n 3, 1) := by decide +kernel
theorem dX12_findEven_25 : decode cX12_findEven 25 = .ok (.iconst 0, 1) := by decide +kernel
theorem dX12_findEven_26 : decode cX12_findEven 26 = .ok (.istore 4, 2) := by decide +kernel
theorem dX12_findEven_28 : decode cX12_findEven 28 = .ok (.iload 4, 2) := by decide +kernel
theorem dX12_findEven_30 : decode cX12_findEven 30 = .ok (.aload_n 0, 1) := by decide +kernel
theorem dX12_findEven_31 : decode cX12_findEven 31 = .ok (.invokevirtual 257, 3) := by decide +kernel
theorem dX12_findEven_34 : decode cX12_findEven 34 = .ok (.if_icmp .ge 45, 3) := by decide +kernel
theorem dX12_findEven_37 : decode cX12_findEven 37 = .ok (.iconst 1, 1) := by decide +kernel
theorem dX12_findEven_38 : decode cX12_findEven 38 = .ok (.iload 4, 2) := by decide +kernel
theorem dX12_findEven_40 : decode cX12_findEven 40 = .ok (.ishl, 1) := by decide +kernel
theorem dX12_findEven_41 : decode cX12_findEven 41 = .ok (.aload_n 0, 1) := by decide +kernel
theorem dX12_findEven_42 : decode cX12_findEven 42 = .ok (.getfield 39, 3) := by decide +kernel
theorem dX12_findEven_45 : decode cX12_findEven 45 = .ok (.bipush 8, 2) := by decide +kernel
theorem dX12_findEven_47 : decode cX12_findEven 47 = .ok (.aload_n 0, 1) := by decide +kernel
theorem dX12_findEven_48 : decode cX12_findEven 48 = .ok (.getfield 205, 3) := by decide +kernel
theorem dX12_findEven_51 : decode cX12_findEven 51 = .ok (.imul, 1) := by decide +kernel
theorem dX12_findEven_52 : decode cX12_findEven 52 = .ok (.iload 4, 2) := by decide +kernel
theorem dX12_findEven_54 : decode cX12_findEven 54 = .ok (.iadd, 1) := by decide +kernel
theorem dX12_findEven_55 : decode cX12_findEven 55 = .ok (.iaload, 1) := by decide +kernel
theorem dX12_findEven_56 : decode cX12_findEven 56 = .ok (.ior, 1) := by decide +kernel
theorem dX12_findEven_57 : decode cX12_findEven 57 = .ok (.iload_n 2, 1) := by decide +kernel
theorem dX12_findEven_58 : decode cX12_findEven 58 = .ok (.iconst (-1), 1) := by decide +kernel
theorem dX12_findEven_59 : decode cX12_findEven 59 = .ok (.ixor, 1) := by decide +kernel
theorem dX12_findEven_60 : decode cX12_findEven 60 = .ok (.iand, 1) := by decide +kernel
theorem dX12_findEven_61 : decode cX12_findEven 61 = .ok (.ifCond .ne 12, 3) := by decide +kernel
theorem dX12_findEven_64 : decode cX12_findEven 64 = .ok (.iload_n 3, 1) := by decide +kernel
theorem dX12_findEven_65 : decode cX12_findEven 65 = .ok (.aload_n 0, 1) := by decide +kernel
theorem dX12_findEven_66 : decode cX12_findEven 66 = .ok (.iload 4, 2) := by decide +kernel
theorem dX12_findEven_68 : decode cX12_findEven 68 = .ok (.invokevirtual 276, 3) := by decide +kernel
theorem dX12_findEven_71 : decode cX12_findEven 71 = .ok (.iadd, 1) := by decide +kernel
theorem dX12_findEven_72 : decode cX12_findEven 72 = .ok (.istore_n 3, 1) := by decide +kernel
theorem dX12_findEven_73 : decode cX12_findEven 73 = .ok (.iinc 4 1, 3) := by decide +kernel
theorem dX12_findEven_76 : decode cX12_findEven 76 = .ok (.goto (-48), 3) := by decide +kernel
theorem dX12_findEven_79 : decode cX12_findEven 79 = .ok (.iload_n 3, 1) := by decide +kernel
theorem dX12_findEven_80 : decode cX12_findEven 80 = .ok (.iload_n 2, 1) := by decide +kernel
theorem dX12_findEven_81 : decode cX12_findEven 81 = .ok (.invokestatic 300, 3) := by decide +kernel
theorem dX12_findEven_84 : decode cX12_findEven 84 = .ok (.invokestatic 335, 3) := by decide +kernel
theorem dX12_findEven_87 : decode cX12_findEven 87 = .ok (.istore 4, 2) := by decide +kernel
theorem dX12_findEven_89 : decode cX12_findEven 89 = .ok (.iload 4, 2) := by decide +kernel
theorem dX12_findEven_91 : decode cX12_findEven 91 = .ok (.iload_n 1, 1) := by decide +kernel
theorem dX12_findEven_92 : decode cX12_findEven 92 = .ok (.if_icmp .gt 6, 3) := by decide +kernel
theorem dX12_findEven_95 : decode cX12_findEven 95 = .ok (.goto 11, 3) := by decide +kernel
theorem dX12_findEven_98 : decode cX12_findEven 98 = .ok (.iload 4, 2) := by decide +kernel
theorem dX12_findEven_100 : decode cX12_findEven 100 = .ok (.istore_n 1, 1) := by decide +kernel
theorem dX12_findEven_101 : decode cX12_findEven 101 = .ok (.aload_n 0, 1) := by decide +kernel
theorem dX12_findEven_102 : decode cX12_findEven 102 = .ok (.iload_n 2, 1) := by decide +kernel
theorem dX12_findEven_103 : decode cX12_findEven 103 = .ok (.putfield 352, 3) := by decide +kernel
theorem dX12_findEven_106 : decode cX12_findEven 106 = .ok (.iinc 2 1, 3) := by decide +kernel
theorem dX12_findEven_109 : decode cX12_findEven 109 = .ok (.goto (-96), 3) := by decide +kernel
theorem dX12_findEven_112 : decode cX12_findEven 112 = .ok (.iload_n 1, 1) := by decide +kernel
theorem dX12_findEven_113 : decode cX12_findEven 113 = .ok (.ireturn, 1) := by decide +kernel
theorem dX12_even_0 : decode cX12_even 0 = .ok (.aload_n 0, 1) := by decide +kernel
theorem dX12_even_1 : decode cX12_even 1 = .ok (.invokevirtual 355, 3) := by decide +kernel
theorem dX12_even_4 : decode cX12_even 4 = .ok (.ireturn, 1) := by decide +kernel
theorem dX12_proof_0 : decode cX12_proof 0 = .ok (.aload_n 0, 1) := by decide +kernel
theorem dX12_proof_1 : decode cX12_proof 1 = .ok (.invokevirtual 355, 3) := by decide +kernel
theorem dX12_proof_4 : decode cX12_proof 4 = .ok (.pop, 1) := by decide +kernel
theorem dX12_proof_5 : decode cX12_proof 5 = .ok (.aload_n 0, 1) := by decide +kernel
theorem dX12_proof_6 : decode cX12_proof 6 = .ok (.getfield 352, 3) := by decide +kernel
theorem dX12_proof_9 : decode cX12_proof 9 = .ok (.ireturn, 1) := by decide +kernel
theorem dX12_keepAct_0 : decode cX12_keepAct 0 = .ok (.aload_n 0, 1) := by decide +kernel
theorem dX12_keepAct_1 : decode cX12_keepAct 1 = .ok (.getfield 270, 3) := by decide +kernel
theorem dX12_keepAct_4 : decode cX12_keepAct 4 = .ok (.bipush 40, 2) := by decide +kernel
theorem dX12_keepAct_6 : decode cX12_keepAct 6 = .ok (.if_icmp .ne 43, 3) := by decide +kernel
theorem dX12_keepAct_9 : decode cX12_keepAct 9 = .ok (.iconst 0, 1) := by decide +kernel
theorem dX12_keepAct_10 : decode cX12_keepAct 10 = .ok (.istore_n 1, 1) := by decide +kernel
theorem dX12_keepAct_11 : decode cX12_keepAct 11 = .ok (.iload_n 1, 1) := by decide +kernel
theorem dX12_keepAct_12 : decode cX12_keepAct 12 = .ok (.sipush 3240, 3) := by decide +kernel
theorem dX12_keepAct_15 : decode cX12_keepAct 15 = .ok (.if_icmp .ge 24, 3) := by decide +kernel
theorem dX12_keepAct_18 : decode cX12_keepAct 18 = .ok (.aload_n 0, 1) := by decide +kernel
theorem dX12_keepAct_19 : decode cX12_keepAct 19 = .ok (.getfield 95, 3) := by decide +kernel
theorem dX12_keepAct_22 : decode cX12_keepAct 22 = .ok (.iload_n 1, 1) := by decide +kernel
theorem dX12_keepAct_23 : decode cX12_keepAct 23 = .ok (.aload_n 0, 1) := by decide +kernel
theorem dX12_keepAct_24 : decode cX12_keepAct 24 = .ok (.getfield 95, 3) := by decide +kernel
theorem dX12_keepAct_27 : decode cX12_keepAct 27 = .ok (.iload_n 1, 1) := by decide +kernel
theorem dX12_keepAct_28 : decode cX12_keepAct 28 = .ok (.bipush 81, 2) := by decide +kernel
theorem dX12_keepAct_30 : decode cX12_keepAct 30 = .ok (.iadd, 1) := by decide +kernel
theorem dX12_keepAct_31 : decode cX12_keepAct 31 = .ok (.iaload, 1) := by decide +kernel
theorem dX12_keepAct_32 : decode cX12_keepAct 32 = .ok (.iastore, 1) := by decide +kernel
theorem dX12_keepAct_33 : decode cX12_keepAct 33 = .ok (.iinc 1 1, 3) := by decide +kernel
theorem dX12_keepAct_36 : decode cX12_keepAct 36 = .ok (.goto (-25), 3) := by decide +kernel
theorem dX12_keepAct_39 : decode cX12_keepAct 39 = .ok (.aload_n 0, 1) := by decide +kernel
theorem dX12_keepAct_40 : decode cX12_keepAct 40 = .ok (.dup, 1) := by decide +kernel
theorem dX12_keepAct_41 : decode cX12_keepAct 41 = .ok (.getfield 270, 3) := by decide +kernel
theorem dX12_keepAct_44 : decode cX12_keepAct 44 = .ok (.iconst 1, 1) := by decide +kernel
theorem dX12_keepAct_45 : decode cX12_keepAct 45 = .ok (.isub, 1) := by decide +kernel
theorem dX12_keepAct_46 : decode cX12_keepAct 46 = .ok (.putfield 270, 3) := by decide +kernel
theorem dX12_keepAct_49 : decode cX12_keepAct 49 = .ok (.iconst 0, 1) := by decide +kernel
theorem dX12_keepAct_50 : decode cX12_keepAct 50 = .ok (.istore_n 1, 1) := by decide +kernel
theorem dX12_keepAct_51 : decode cX12_keepAct 51 = .ok (.iload_n 1, 1) := by decide +kernel
theorem dX12_keepAct_52 : decode cX12_keepAct 52 = .ok (.bipush 80, 2) := by decide +kernel
theorem dX12_keepAct_54 : decode cX12_keepAct 54 = .ok (.if_icmp .ge 29, 3) := by decide +kernel
theorem dX12_keepAct_57 : decode cX12_keepAct 57 = .ok (.aload_n 0, 1) := by decide +kernel
theorem dX12_keepAct_58 : decode cX12_keepAct 58 = .ok (.getfield 95, 3) := by decide +kernel
theorem dX12_keepAct_61 : decode cX12_keepAct 61 = .ok (.bipush 81, 2) := by decide +kernel
theorem dX12_keepAct_63 : decode cX12_keepAct 63 = .ok (.aload_n 0, 1) := by decide +kernel
theorem dX12_keepAct_64 : decode cX12_keepAct 64 = .ok (.getfield 270, 3) := by decide +kernel
theorem dX12_keepAct_67 : decode cX12_keepAct 67 = .ok (.imul, 1) := by decide +kernel
theorem dX12_keepAct_68 : decode cX12_keepAct 68 = .ok (.iload_n 1, 1) := by decide +kernel
theorem dX12_keepAct_69 : decode cX12_keepAct 69 = .ok (.iadd, 1) := by decide +kernel
theorem dX12_keepAct_70 : decode cX12_keepAct 70 = .ok (.aload_n 0, 1) := by decide +kernel
theorem dX12_keepAct_71 : decode cX12_keepAct 71 = .ok (.getfield 65, 3) := by decide +kernel
theorem dX12_keepAct_74 : decode cX12_keepAct 74 = .ok (.iload_n 1, 1) := by decide +kernel
theorem dX12_keepAct_75 : decode cX12_keepAct 75 = .ok (.iaload, 1) := by decide +kernel
theorem dX12_keepAct_76 : decode cX12_keepAct 76 = .ok (.iastore, 1) := by decide +kernel
theorem dX12_keepAct_77 : decode cX12_keepAct 77 = .ok (.iinc 1 1, 3) := by decide +kernel
theorem dX12_keepAct_80 : decode cX12_keepAct 80 = .ok (.goto (-29), 3) := by decide +kernel
theorem dX12_keepAct_83 : decode cX12_keepAct 83 = .ok (.aload_n 0, 1) := by decide +kernel
theorem dX12_keepAct_84 : decode cX12_keepAct 84 = .ok (.getfield 95, 3) := by decide +kernel
theorem dX12_keepAct_87 : decode cX12_keepAct 87 = .ok (.bipush 81, 2) := by decide +kernel
theorem dX12_keepAct_89 : decode cX12_keepAct 89 = .ok (.aload_n 0, 1) := by decide +kernel
theorem dX12_keepAct_90 : decode cX12_keepAct 90 = .ok (.getfield 270, 3) := by decide +kernel
theorem dX12_keepAct_93 : decode cX12_keepAct 93 = .ok (.imul, 1) := by decide +kernel
theorem dX12_keepAct_94 : decode cX12_keepAct 94 = .ok (.bipush 80, 2) := by decide +kernel
