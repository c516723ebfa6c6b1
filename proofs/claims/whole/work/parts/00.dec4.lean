theorem dX6_whole_321 : decode prog_8_method_33_code 321 = .ok (.iaload, 1) := by decide +kernel
theorem dX6_whole_322 : decode prog_8_method_33_code 322 = .ok (.ifCond .eq 10, 3) := by decide +kernel
theorem dX6_whole_325 : decode prog_8_method_33_code 325 = .ok (.iload 13, 2) := by decide +kernel
theorem dX6_whole_327 : decode prog_8_method_33_code 327 = .ok (.iload 12, 2) := by decide +kernel
theorem dX6_whole_329 : decode prog_8_method_33_code 329 = .ok (.if_icmp .le 8, 3) := by decide +kernel
theorem dX6_whole_332 : decode prog_8_method_33_code 332 = .ok (.iload 12, 2) := by decide +kernel
theorem dX6_whole_334 : decode prog_8_method_33_code 334 = .ok (.goto 5, 3) := by decide +kernel
theorem dX6_whole_337 : decode prog_8_method_33_code 337 = .ok (.iload 13, 2) := by decide +kernel
theorem dX6_whole_339 : decode prog_8_method_33_code 339 = .ok (.istore 13, 2) := by decide +kernel
theorem dX6_whole_341 : decode prog_8_method_33_code 341 = .ok (.aload_n 0, 1) := by decide +kernel
theorem dX6_whole_342 : decode prog_8_method_33_code 342 = .ok (.iconst 2, 1) := by decide +kernel
theorem dX6_whole_343 : decode prog_8_method_33_code 343 = .ok (.iload 13, 2) := by decide +kernel
theorem dX6_whole_345 : decode prog_8_method_33_code 345 = .ok (.i2l, 1) := by decide +kernel
theorem dX6_whole_346 : decode prog_8_method_33_code 346 = .ok (.invokevirtual 79, 3) := by decide +kernel
theorem dX6_whole_349 : decode prog_8_method_33_code 349 = .ok (.iload 12, 2) := by decide +kernel
theorem dX6_whole_351 : decode prog_8_method_33_code 351 = .ok (.iload 13, 2) := by decide +kernel
theorem dX6_whole_353 : decode prog_8_method_33_code 353 = .ok (.isub, 1) := by decide +kernel
theorem dX6_whole_354 : decode prog_8_method_33_code 354 = .ok (.istore 11, 2) := by decide +kernel
theorem dX6_whole_356 : decode prog_8_method_33_code 356 = .ok (.lload 7, 2) := by decide +kernel
theorem dX6_whole_358 : decode prog_8_method_33_code 358 = .ok (.iload 11, 2) := by decide +kernel
theorem dX6_whole_360 : decode prog_8_method_33_code 360 = .ok (.i2l, 1) := by decide +kernel
theorem dX6_whole_361 : decode prog_8_method_33_code 361 = .ok (.ladd, 1) := by decide +kernel
theorem dX6_whole_362 : decode prog_8_method_33_code 362 = .ok (.lstore 9, 2) := by decide +kernel
theorem dX6_whole_364 : decode prog_8_method_33_code 364 = .ok (.aload_n 0, 1) := by decide +kernel
theorem dX6_whole_365 : decode prog_8_method_33_code 365 = .ok (.iload_n 1, 1) := by decide +kernel
theorem dX6_whole_366 : decode prog_8_method_33_code 366 = .ok (.iload_n 2, 1) := by decide +kernel
theorem dX6_whole_367 : decode prog_8_method_33_code 367 = .ok (.iload_n 3, 1) := by decide +kernel
theorem dX6_whole_368 : decode prog_8_method_33_code 368 = .ok (.iload 4, 2) := by decide +kernel
theorem dX6_whole_370 : decode prog_8_method_33_code 370 = .ok (.lload 9, 2) := by decide +kernel
theorem dX6_whole_372 : decode prog_8_method_33_code 372 = .ok (.iload 11, 2) := by decide +kernel
theorem dX6_whole_374 : decode prog_8_method_33_code 374 = .ok (.iload 5, 2) := by decide +kernel
theorem dX6_whole_376 : decode prog_8_method_33_code 376 = .ok (.iload 6, 2) := by decide +kernel
theorem dX6_whole_378 : decode prog_8_method_33_code 378 = .ok (.invokevirtual 136, 3) := by decide +kernel
theorem dX6_whole_381 : decode prog_8_method_33_code 381 = .ok (.ireturn, 1) := by decide +kernel
theorem dX6_remains_0 : decode prog_8_method_34_code 0 = .ok (.aload_n 0, 1) := by decide +kernel
theorem dX6_remains_1 : decode prog_8_method_34_code 1 = .ok (.getfield 27, 3) := by decide +kernel
theorem dX6_remains_4 : decode prog_8_method_34_code 4 = .ok (.iconst 2, 1) := by decide +kernel
theorem dX6_remains_5 : decode prog_8_method_34_code 5 = .ok (.iaload, 1) := by decide +kernel
theorem dX6_remains_6 : decode prog_8_method_34_code 6 = .ok (.sipush 4096, 3) := by decide +kernel
theorem dX6_remains_9 : decode prog_8_method_34_code 9 = .ok (.if_icmp .gt 21, 3) := by decide +kernel
theorem dX6_remains_12 : decode prog_8_method_34_code 12 = .ok (.lload 5, 2) := by decide +kernel
theorem dX6_remains_14 : decode prog_8_method_34_code 14 = .ok (.ldc2_w 36, 3) := by decide +kernel
theorem dX6_remains_17 : decode prog_8_method_34_code 17 = .ok (.lcmp, 1) := by decide +kernel
theorem dX6_remains_18 : decode prog_8_method_34_code 18 = .ok (.ifCond .lt 12, 3) := by decide +kernel
theorem dX6_remains_21 : decode prog_8_method_34_code 21 = .ok (.lload 5, 2) := by decide +kernel
theorem dX6_remains_23 : decode prog_8_method_34_code 23 = .ok (.ldc2_w 38, 3) := by decide +kernel
theorem dX6_remains_26 : decode prog_8_method_34_code 26 = .ok (.lcmp, 1) := by decide +kernel
theorem dX6_remains_27 : decode prog_8_method_34_code 27 = .ok (.ifCond .le 5, 3) := by decide +kernel
theorem dX6_remains_30 : decode prog_8_method_34_code 30 = .ok (.iconst 0, 1) := by decide +kernel
theorem dX6_remains_31 : decode prog_8_method_34_code 31 = .ok (.ireturn, 1) := by decide +kernel
theorem dX6_remains_32 : decode prog_8_method_34_code 32 = .ok (.aload_n 0, 1) := by decide +kernel
theorem dX6_remains_33 : decode prog_8_method_34_code 33 = .ok (.getfield 20, 3) := by decide +kernel
theorem dX6_remains_36 : decode prog_8_method_34_code 36 = .ok (.iload_n 3, 1) := by decide +kernel
theorem dX6_remains_37 : decode prog_8_method_34_code 37 = .ok (.iaload, 1) := by decide +kernel
theorem dX6_remains_38 : decode prog_8_method_34_code 38 = .ok (.i2l, 1) := by decide +kernel
theorem dX6_remains_39 : decode prog_8_method_34_code 39 = .ok (.iload 7, 2) := by decide +kernel
theorem dX6_remains_41 : decode prog_8_method_34_code 41 = .ok (.i2l, 1) := by decide +kernel
theorem dX6_remains_42 : decode prog_8_method_34_code 42 = .ok (.ladd, 1) := by decide +kernel
theorem dX6_remains_43 : decode prog_8_method_34_code 43 = .ok (.lstore 10, 2) := by decide +kernel
theorem dX6_remains_45 : decode prog_8_method_34_code 45 = .ok (.lload 10, 2) := by decide +kernel
theorem dX6_remains_47 : decode prog_8_method_34_code 47 = .ok (.ldc2_w 38, 3) := by decide +kernel
theorem dX6_remains_50 : decode prog_8_method_34_code 50 = .ok (.lcmp, 1) := by decide +kernel
theorem dX6_remains_51 : decode prog_8_method_34_code 51 = .ok (.ifCond .le 5, 3) := by decide +kernel
theorem dX6_remains_54 : decode prog_8_method_34_code 54 = .ok (.iconst 0, 1) := by decide +kernel
theorem dX6_remains_55 : decode prog_8_method_34_code 55 = .ok (.ireturn, 1) := by decide +kernel
theorem dX6_remains_56 : decode prog_8_method_34_code 56 = .ok (.aload_n 0, 1) := by decide +kernel
theorem dX6_remains_57 : decode prog_8_method_34_code 57 = .ok (.getfield 27, 3) := by decide +kernel
theorem dX6_remains_60 : decode prog_8_method_34_code 60 = .ok (.iconst 2, 1) := by decide +kernel
theorem dX6_remains_61 : decode prog_8_method_34_code 61 = .ok (.iaload, 1) := by decide +kernel
theorem dX6_remains_62 : decode prog_8_method_34_code 62 = .ok (.istore 12, 2) := by decide +kernel
theorem dX6_remains_64 : decode prog_8_method_34_code 64 = .ok (.iconst 0, 1) := by decide +kernel
theorem dX6_remains_65 : decode prog_8_method_34_code 65 = .ok (.istore 13, 2) := by decide +kernel
theorem dX6_remains_67 : decode prog_8_method_34_code 67 = .ok (.iload 13, 2) := by decide +kernel
theorem dX6_remains_69 : decode prog_8_method_34_code 69 = .ok (.iload 12, 2) := by decide +kernel
theorem dX6_remains_71 : decode prog_8_method_34_code 71 = .ok (.if_icmp .ge 28, 3) := by decide +kernel
theorem dX6_remains_74 : decode prog_8_method_34_code 74 = .ok (.aload_n 0, 1) := by decide +kernel
theorem dX6_remains_75 : decode prog_8_method_34_code 75 = .ok (.getfield 24, 3) := by decide +kernel
theorem dX6_remains_78 : decode prog_8_method_34_code 78 = .ok (.iconst 0, 1) := by decide +kernel
theorem dX6_remains_79 : decode prog_8_method_34_code 79 = .ok (.iload 13, 2) := by decide +kernel
theorem dX6_remains_81 : decode prog_8_method_34_code 81 = .ok (.iadd, 1) := by decide +kernel
theorem dX6_remains_82 : decode prog_8_method_34_code 82 = .ok (.aload_n 0, 1) := by decide +kernel
theorem dX6_remains_83 : decode prog_8_method_34_code 83 = .ok (.getfield 24, 3) := by decide +kernel
theorem dX6_remains_86 : decode prog_8_method_34_code 86 = .ok (.ldc 48, 2) := by decide +kernel
theorem dX6_remains_88 : decode prog_8_method_34_code 88 = .ok (.iload 13, 2) := by decide +kernel
theorem dX6_remains_90 : decode prog_8_method_34_code 90 = .ok (.iadd, 1) := by decide +kernel
theorem dX6_remains_91 : decode prog_8_method_34_code 91 = .ok (.iaload, 1) := by decide +kernel
theorem dX6_remains_92 : decode prog_8_method_34_code 92 = .ok (.iastore, 1) := by decide +kernel
theorem dX6_remains_93 : decode prog_8_method_34_code 93 = .ok (.iinc 13 1, 3) := by decide +kernel
theorem dX6_remains_96 : decode prog_8_method_34_code 96 = .ok (.goto (-29), 3) := by decide +kernel
theorem dX6_remains_99 : decode prog_8_method_34_code 99 = .ok (.aload_n 0, 1) := by decide +kernel
theorem dX6_remains_100 : decode prog_8_method_34_code 100 = .ok (.getfield 27, 3) := by decide +kernel
theorem dX6_remains_103 : decode prog_8_method_34_code 103 = .ok (.iconst 0, 1) := by decide +kernel
theorem dX6_remains_104 : decode prog_8_method_34_code 104 = .ok (.iload 12, 2) := by decide +kernel
theorem dX6_remains_106 : decode prog_8_method_34_code 106 = .ok (.iastore, 1) := by decide +kernel
theorem dX6_remains_107 : decode prog_8_method_34_code 107 = .ok (.aload_n 0, 1) := by decide +kernel
theorem dX6_remains_108 : decode prog_8_method_34_code 108 = .ok (.invokevirtual 101, 3) := by decide +kernel
theorem dX6_remains_111 : decode prog_8_method_34_code 111 = .ok (.aload_n 0, 1) := by decide +kernel
theorem dX6_remains_112 : decode prog_8_method_34_code 112 = .ok (.getfield 27, 3) := by decide +kernel
theorem dX6_remains_115 : decode prog_8_method_34_code 115 = .ok (.iconst 2, 1) := by decide +kernel
theorem dX6_remains_116 : decode prog_8_method_34_code 116 = .ok (.iaload, 1) := by decide +kernel
theorem dX6_remains_117 : decode prog_8_method_34_code 117 = .ok (.istore 13, 2) := by decide +kernel
theorem dX6_remains_119 : decode prog_8_method_34_code 119 = .ok (.iconst 0, 1) := by decide +kernel
theorem dX6_remains_120 : decode prog_8_method_34_code 120 = .ok (.istore 14, 2) := by decide +kernel
theorem dX6_remains_122 : decode prog_8_method_34_code 122 = .ok (.iload 14, 2) := by decide +kernel
theorem dX6_remains_124 : decode prog_8_method_34_code 124 = .ok (.iload 13, 2) := by decide +kernel
theorem dX6_remains_126 : decode prog_8_method_34_code 126 = .ok (.if_icmp .ge 30, 3) := by decide +kernel
theorem dX6_remains_129 : decode prog_8_method_34_code 129 = .ok (.aload_n 0, 1) := by decide +kernel
theorem dX6_remains_130 : decode prog_8_method_34_code 130 = .ok (.getfield 24, 3) := by decide +kernel
theorem dX6_remains_133 : decode prog_8_method_34_code 133 = .ok (.sipush 17000, 3) := by decide +kernel
theorem dX6_remains_136 : decode prog_8_method_34_code 136 = .ok (.iload 14, 2) := by decide +kernel
theorem dX6_remains_138 : decode prog_8_method_34_code 138 = .ok (.iadd, 1) := by decide +kernel
theorem dX6_remains_139 : decode prog_8_method_34_code 139 = .ok (.aload_n 0, 1) := by decide +kernel
theorem dX6_remains_140 : decode prog_8_method_34_code 140 = .ok (.getfield 24, 3) := by decide +kernel
theorem dX6_remains_143 : decode prog_8_method_34_code 143 = .ok (.ldc 48, 2) := by decide +kernel
theorem dX6_remains_145 : decode prog_8_method_34_code 145 = .ok (.iload 14, 2) := by decide +kernel
theorem dX6_remains_147 : decode prog_8_method_34_code 147 = .ok (.iadd, 1) := by decide +kernel
theorem dX6_remains_148 : decode prog_8_method_34_code 148 = .ok (.iaload, 1) := by decide +kernel
theorem dX6_remains_149 : decode prog_8_method_34_code 149 = .ok (.iastore, 1) := by decide +kernel
theorem dX6_remains_150 : decode prog_8_method_34_code 150 = .ok (.iinc 14 1, 3) := by decide +kernel
theorem dX6_remains_153 : decode prog_8_method_34_code 153 = .ok (.goto (-31), 3) := by decide +kernel
theorem dX6_remains_156 : decode prog_8_method_34_code 156 = .ok (.aload_n 0, 1) := by decide +kernel
theorem dX6_remains_157 : decode prog_8_method_34_code 157 = .ok (.getfield 27, 3) := by decide +kernel
theorem dX6_remains_160 : decode prog_8_method_34_code 160 = .ok (.iconst 1, 1) := by decide +kernel
theorem dX6_remains_161 : decode prog_8_method_34_code 161 = .ok (.iload 13, 2) := by decide +kernel
theorem dX6_remains_163 : decode prog_8_method_34_code 163 = .ok (.iastore, 1) := by decide +kernel
theorem dX6_remains_164 : decode prog_8_method_34_code 164 = .ok (.iconst 0, 1) := by decide +kernel
theorem dX6_remains_165 : decode prog_8_method_34_code 165 = .ok (.istore 14, 2) := by decide +kernel
theorem dX6_remains_167 : decode prog_8_method_34_code 167 = .ok (.iload 14, 2) := by decide +kernel
theorem dX6_remains_169 : decode prog_8_method_34_code 169 = .ok (.iload 12, 2) := by decide +kernel
theorem dX6_remains_171 : decode prog_8_method_34_code 171 = .ok (.if_icmp .ge 28, 3) := by decide +kernel
theorem dX6_remains_174 : decode prog_8_method_34_code 174 = .ok (.aload_n 0, 1) := by decide +kernel
theorem dX6_remains_175 : decode prog_8_method_34_code 175 = .ok (.getfield 24, 3) := by decide +kernel
theorem dX6_remains_178 : decode prog_8_method_34_code 178 = .ok (.ldc 48, 2) := by decide +kernel
theorem dX6_remains_180 : decode prog_8_method_34_code 180 = .ok (.iload 14, 2) := by decide +kernel
theorem dX6_remains_182 : decode prog_8_method_34_code 182 = .ok (.iadd, 1) := by decide +kernel
theorem dX6_remains_183 : decode prog_8_method_34_code 183 = .ok (.aload_n 0, 1) := by decide +kernel
theorem dX6_remains_184 : decode prog_8_method_34_code 184 = .ok (.getfield 24, 3) := by decide +kernel
theorem dX6_remains_187 : decode prog_8_method_34_code 187 = .ok (.iconst 0, 1) := by decide +kernel
theorem dX6_remains_188 : decode prog_8_method_34_code 188 = .ok (.iload 14, 2) := by decide +kernel
theorem dX6_remains_190 : decode prog_8_method_34_code 190 = .ok (.iadd, 1) := by decide +kernel
theorem dX6_remains_191 : decode prog_8_method_34_code 191 = .ok (.iaload, 1) := by decide +kernel
theorem dX6_remains_192 : decode prog_8_method_34_code 192 = .ok (.iastore, 1) := by decide +kernel
theorem dX6_remains_193 : decode prog_8_method_34_code 193 = .ok (.iinc 14 1, 3) := by decide +kernel
theorem dX6_remains_196 : decode prog_8_method_34_code 196 = .ok (.goto (-29), 3) := by decide +kernel
theorem dX6_remains_199 : decode prog_8_method_34_code 199 = .ok (.aload_n 0, 1) := by decide +kernel
theorem dX6_remains_200 : decode prog_8_method_34_code 200 = .ok (.getfield 27, 3) := by decide +kernel
theorem dX6_remains_203 : decode prog_8_method_34_code 203 = .ok (.iconst 2, 1) := by decide +kernel
theorem dX6_remains_204 : decode prog_8_method_34_code 204 = .ok (.iload 12, 2) := by decide +kernel
theorem dX6_remains_206 : decode prog_8_method_34_code 206 = .ok (.iastore, 1) := by decide +kernel
theorem dX6_remains_207 : decode prog_8_method_34_code 207 = .ok (.aload_n 0, 1) := by decide +kernel
theorem dX6_remains_208 : decode prog_8_method_34_code 208 = .ok (.iconst 0, 1) := by decide +kernel
theorem dX6_remains_209 : decode prog_8_method_34_code 209 = .ok (.iload_n 3, 1) := by decide +kernel
theorem dX6_remains_210 : decode prog_8_method_34_code 210 = .ok (.invokevirtual 89, 3) := by decide +kernel
theorem dX6_remains_213 : decode prog_8_method_34_code 213 = .ok (.aload_n 0, 1) := by decide +kernel
theorem dX6_remains_214 : decode prog_8_method_34_code 214 = .ok (.iconst 0, 1) := by decide +kernel
theorem dX6_remains_215 : decode prog_8_method_34_code 215 = .ok (.iload 7, 2) := by decide +kernel
theorem dX6_remains_217 : decode prog_8_method_34_code 217 = .ok (.invokevirtual 49, 3) := by decide +kernel
theorem dX6_remains_220 : decode prog_8_method_34_code 220 = .ok (.aload_n 0, 1) := by decide +kernel
theorem dX6_remains_221 : decode prog_8_method_34_code 221 = .ok (.iconst 0, 1) := by decide +kernel
theorem dX6_remains_222 : decode prog_8_method_34_code 222 = .ok (.iconst 1, 1) := by decide +kernel
theorem dX6_remains_223 : decode prog_8_method_34_code 223 = .ok (.invokevirtual 57, 3) := by decide +kernel
theorem dX6_remains_226 : decode prog_8_method_34_code 226 = .ok (.aload_n 0, 1) := by decide +kernel
theorem dX6_remains_227 : decode prog_8_method_34_code 227 = .ok (.getfield 27, 3) := by decide +kernel
theorem dX6_remains_230 : decode prog_8_method_34_code 230 = .ok (.iconst 0, 1) := by decide +kernel
theorem dX6_remains_231 : decode prog_8_method_34_code 231 = .ok (.iaload, 1) := by decide +kernel
theorem dX6_remains_232 : decode prog_8_method_34_code 232 = .ok (.sipush 4096, 3) := by decide +kernel
theorem dX6_remains_235 : decode prog_8_method_34_code 235 = .ok (.if_icmp .le 5, 3) := by decide +kernel
theorem dX6_remains_238 : decode prog_8_method_34_code 238 = .ok (.iconst 0, 1) := by decide +kernel
theorem dX6_remains_239 : decode prog_8_method_34_code 239 = .ok (.ireturn, 1) := by decide +kernel
theorem dX6_remains_240 : decode prog_8_method_34_code 240 = .ok (.aload_n 0, 1) := by decide +kernel
theorem dX6_remains_241 : decode prog_8_method_34_code 241 = .ok (.iload_n 2, 1) := by decide +kernel
theorem dX6_remains_242 : decode prog_8_method_34_code 242 = .ok (.iconst 0, 1) := by decide +kernel
theorem dX6_remains_243 : decode prog_8_method_34_code 243 = .ok (.iload 9, 2) := by decide +kernel
theorem dX6_remains_245 : decode prog_8_method_34_code 245 = .ok (.lload 10, 2) := by decide +kernel
theorem dX6_remains_247 : decode prog_8_method_34_code 247 = .ok (.invokevirtual 75, 3) := by decide +kernel
theorem dX6_remains_250 : decode prog_8_method_34_code 250 = .ok (.istore 14, 2) := by decide +kernel
theorem dX6_remains_252 : decode prog_8_method_34_code 252 = .ok (.aload_n 0, 1) := by decide +kernel
theorem dX6_remains_253 : decode prog_8_method_34_code 253 = .ok (.iload_n 1, 1) := by decide +kernel
theorem dX6_remains_254 : decode prog_8_method_34_code 254 = .ok (.iconst 2, 1) := by decide +kernel
theorem dX6_remains_255 : decode prog_8_method_34_code 255 = .ok (.iload 8, 2) := by decide +kernel
theorem dX6_remains_257 : decode prog_8_method_34_code 257 = .ok (.lload 5, 2) := by decide +kernel
theorem dX6_remains_259 : decode prog_8_method_34_code 259 = .ok (.invokevirtual 75, 3) := by decide +kernel
theorem dX6_remains_262 : decode prog_8_method_34_code 262 = .ok (.ifCond .eq 12, 3) := by decide +kernel
theorem dX6_remains_265 : decode prog_8_method_34_code 265 = .ok (.iload 14, 2) := by decide +kernel
theorem dX6_remains_267 : decode prog_8_method_34_code 267 = .ok (.ifCond .eq 7, 3) := by decide +kernel
theorem dX6_remains_270 : decode prog_8_method_34_code 270 = .ok (.iconst 1, 1) := by decide +kernel
theorem dX6_remains_271 : decode prog_8_method_34_code 271 = .ok (.goto 4, 3) := by decide +kernel
theorem dX6_remains_274 : decode prog_8_method_34_code 274 = .ok (.iconst 0, 1) := by decide +kernel
theorem dX6_remains_275 : decode prog_8_method_34_code 275 = .ok (.ireturn, 1) := by decide +kernel
theorem dX6_half_0 : decode prog_8_method_35_code 0 = .ok (.lload_n 0, 1) := by decide +kernel
theorem dX6_half_1 : decode prog_8_method_35_code 1 = .ok (.lconst 0, 1) := by decide +kernel
theorem dX6_half_2 : decode prog_8_method_35_code 2 = .ok (.lcmp, 1) := by decide +kernel
theorem dX6_half_3 : decode prog_8_method_35_code 3 = .ok (.ifCond .ge 14, 3) := by decide +kernel
theorem dX6_half_6 : decode prog_8_method_35_code 6 = .ok (.lconst 1, 1) := by decide +kernel
theorem dX6_half_7 : decode prog_8_method_35_code 7 = .ok (.lload_n 0, 1) := by decide +kernel
theorem dX6_half_8 : decode prog_8_method_35_code 8 = .ok (.lsub, 1) := by decide +kernel
theorem dX6_half_9 : decode prog_8_method_35_code 9 = .ok (.ldc2_w 140, 3) := by decide +kernel
theorem dX6_half_12 : decode prog_8_method_35_code 12 = .ok (.ldiv, 1) := by decide +kernel
theorem dX6_half_13 : decode prog_8_method_35_code 13 = .ok (.lneg, 1) := by decide +kernel
theorem dX6_half_14 : decode prog_8_method_35_code 14 = .ok (.goto 8, 3) := by decide +kernel
theorem dX6_half_17 : decode prog_8_method_35_code 17 = .ok (.lload_n 0, 1) := by decide +kernel
theorem dX6_half_18 : decode prog_8_method_35_code 18 = .ok (.ldc2_w 140, 3) := by decide +kernel
theorem dX6_half_21 : decode prog_8_method_35_code 21 = .ok (.ldiv, 1) := by decide +kernel
theorem dX6_half_22 : decode prog_8_method_35_code 22 = .ok (.lreturn, 1) := by decide +kernel
theorem dX6_root_0 : decode prog_8_method_36_code 0 = .ok (.iload_n 1, 1) := by decide +kernel
theorem dX6_root_1 : decode prog_8_method_36_code 1 = .ok (.invokestatic 83, 3) := by decide +kernel
theorem dX6_root_4 : decode prog_8_method_36_code 4 = .ok (.ifCond .eq 38, 3) := by decide +kernel
theorem dX6_root_7 : decode prog_8_method_36_code 7 = .ok (.iload_n 2, 1) := by decide +kernel
theorem dX6_root_8 : decode prog_8_method_36_code 8 = .ok (.invokestatic 83, 3) := by decide +kernel
theorem dX6_root_11 : decode prog_8_method_36_code 11 = .ok (.ifCond .eq 31, 3) := by decide +kernel
theorem dX6_root_14 : decode prog_8_method_36_code 14 = .ok (.iload_n 3, 1) := by decide +kernel
theorem dX6_root_15 : decode prog_8_method_36_code 15 = .ok (.invokestatic 118, 3) := by decide +kernel
theorem dX6_root_18 : decode prog_8_method_36_code 18 = .ok (.ifCond .eq 24, 3) := by decide +kernel
theorem dX6_root_21 : decode prog_8_method_36_code 21 = .ok (.iload 4, 2) := by decide +kernel
theorem dX6_root_23 : decode prog_8_method_36_code 23 = .ok (.invokestatic 104, 3) := by decide +kernel
theorem dX6_root_26 : decode prog_8_method_36_code 26 = .ok (.ifCond .eq 16, 3) := by decide +kernel
theorem dX6_root_29 : decode prog_8_method_36_code 29 = .ok (.iload_n 3, 1) := by decide +kernel
theorem dX6_root_30 : decode prog_8_method_36_code 30 = .ok (.ifCond .eq 12, 3) := by decide +kernel
theorem dX6_root_33 : decode prog_8_method_36_code 33 = .ok (.aload_n 0, 1) := by decide +kernel
theorem dX6_root_34 : decode prog_8_method_36_code 34 = .ok (.getfield 17, 3) := by decide +kernel
theorem dX6_root_37 : decode prog_8_method_36_code 37 = .ok (.iload_n 2, 1) := by decide +kernel
theorem dX6_root_38 : decode prog_8_method_36_code 38 = .ok (.iaload, 1) := by decide +kernel
theorem dX6_root_39 : decode prog_8_method_36_code 39 = .ok (.ifCond .ge 5, 3) := by decide +kernel
theorem dX6_root_42 : decode prog_8_method_36_code 42 = .ok (.iconst 0, 1) := by decide +kernel
theorem dX6_root_43 : decode prog_8_method_36_code 43 = .ok (.ireturn, 1) := by decide +kernel
theorem dX6_root_44 : decode prog_8_method_36_code 44 = .ok (.aload_n 0, 1) := by decide +kernel
theorem dX6_root_45 : decode prog_8_method_36_code 45 = .ok (.getfield 20, 3) := by decide +kernel
theorem dX6_root_48 : decode prog_8_method_36_code 48 = .ok (.iload_n 2, 1) := by decide +kernel
theorem dX6_root_49 : decode prog_8_method_36_code 49 = .ok (.iaload, 1) := by decide +kernel
theorem dX6_root_50 : decode prog_8_method_36_code 50 = .ok (.iconst 2, 1) := by decide +kernel
theorem dX6_root_51 : decode prog_8_method_36_code 51 = .ok (.idiv, 1) := by decide +kernel
theorem dX6_root_52 : decode prog_8_method_36_code 52 = .ok (.istore 5, 2) := by decide +kernel
theorem dX6_root_54 : decode prog_8_method_36_code 54 = .ok (.aload_n 0, 1) := by decide +kernel
theorem dX6_root_55 : decode prog_8_method_36_code 55 = .ok (.iconst 0, 1) := by decide +kernel
theorem dX6_root_56 : decode prog_8_method_36_code 56 = .ok (.iload_n 2, 1) := by decide +kernel
theorem dX6_root_57 : decode prog_8_method_36_code 57 = .ok (.invokevirtual 89, 3) := by decide +kernel
theorem dX6_root_60 : decode prog_8_method_36_code 60 = .ok (.aload_n 0, 1) := by decide +kernel
theorem dX6_root_61 : decode prog_8_method_36_code 61 = .ok (.getfield 27, 3) := by decide +kernel
theorem dX6_root_64 : decode prog_8_method_36_code 64 = .ok (.iconst 0, 1) := by decide +kernel
theorem dX6_root_65 : decode prog_8_method_36_code 65 = .ok (.iaload, 1) := by decide +kernel
theorem dX6_root_66 : decode prog_8_method_36_code 66 = .ok (.ifCond .ne 14, 3) := by decide +kernel
theorem dX6_root_69 : decode prog_8_method_36_code 69 = .ok (.aload_n 0, 1) := by decide +kernel
theorem dX6_root_70 : decode prog_8_method_36_code 70 = .ok (.iload_n 1, 1) := by decide +kernel
theorem dX6_root_71 : decode prog_8_method_36_code 71 = .ok (.iconst 0, 1) := by decide +kernel
theorem dX6_root_72 : decode prog_8_method_36_code 72 = .ok (.iconst 0, 1) := by decide +kernel
theorem dX6_root_73 : decode prog_8_method_36_code 73 = .ok (.iload 5, 2) := by decide +kernel
theorem dX6_root_75 : decode prog_8_method_36_code 75 = .ok (.i2l, 1) := by decide +kernel
theorem dX6_root_76 : decode prog_8_method_36_code 76 = .ok (.invokevirtual 75, 3) := by decide +kernel
theorem dX6_root_79 : decode prog_8_method_36_code 79 = .ok (.ireturn, 1) := by decide +kernel
theorem dX6_root_80 : decode prog_8_method_36_code 80 = .ok (.iload_n 3, 1) := by decide +kernel
theorem dX6_root_81 : decode prog_8_method_36_code 81 = .ok (.i2l, 1) := by decide +kernel
theorem dX6_root_82 : decode prog_8_method_36_code 82 = .ok (.aload_n 0, 1) := by decide +kernel
theorem dX6_root_83 : decode prog_8_method_36_code 83 = .ok (.getfield 14, 3) := by decide +kernel
theorem dX6_root_86 : decode prog_8_method_36_code 86 = .ok (.iload_n 2, 1) := by decide +kernel
theorem dX6_root_87 : decode prog_8_method_36_code 87 = .ok (.iaload, 1) := by decide +kernel
theorem dX6_root_88 : decode prog_8_method_36_code 88 = .ok (.i2l, 1) := by decide +kernel
theorem dX6_root_89 : decode prog_8_method_36_code 89 = .ok (.lconst 1, 1) := by decide +kernel
theorem dX6_root_90 : decode prog_8_method_36_code 90 = .ok (.lsub, 1) := by decide +kernel
theorem dX6_root_91 : decode prog_8_method_36_code 91 = .ok (.aload_n 0, 1) := by decide +kernel
theorem dX6_root_92 : decode prog_8_method_36_code 92 = .ok (.getfield 20, 3) := by decide +kernel
theorem dX6_root_95 : decode prog_8_method_36_code 95 = .ok (.iload_n 2, 1) := by decide +kernel
theorem dX6_root_96 : decode prog_8_method_36_code 96 = .ok (.iaload, 1) := by decide +kernel
theorem dX6_root_97 : decode prog_8_method_36_code 97 = .ok (.i2l, 1) := by decide +kernel
theorem dX6_root_98 : decode prog_8_method_36_code 98 = .ok (.lsub, 1) := by decide +kernel
theorem dX6_root_99 : decode prog_8_method_36_code 99 = .ok (.invokestatic 142, 3) := by decide +kernel
theorem dX6_root_102 : decode prog_8_method_36_code 102 = .ok (.lsub, 1) := by decide +kernel
theorem dX6_root_103 : decode prog_8_method_36_code 103 = .ok (.lstore 6, 2) := by decide +kernel
theorem dX6_root_105 : decode prog_8_method_36_code 105 = .ok (.ldc2_w 140, 3) := by decide +kernel
theorem dX6_root_108 : decode prog_8_method_36_code 108 = .ok (.lload 6, 2) := by decide +kernel
theorem dX6_root_110 : decode prog_8_method_36_code 110 = .ok (.lmul, 1) := by decide +kernel
theorem dX6_root_111 : decode prog_8_method_36_code 111 = .ok (.aload_n 0, 1) := by decide +kernel
theorem dX6_root_112 : decode prog_8_method_36_code 112 = .ok (.getfield 20, 3) := by decide +kernel
theorem dX6_root_115 : decode prog_8_method_36_code 115 = .ok (.iload_n 2, 1) := by decide +kernel
theorem dX6_root_116 : decode prog_8_method_36_code 116 = .ok (.iaload, 1) := by decide +kernel
theorem dX6_root_117 : decode prog_8_method_36_code 117 = .ok (.i2l, 1) := by decide +kernel
theorem dX6_root_118 : decode prog_8_method_36_code 118 = .ok (.lsub, 1) := by decide +kernel
theorem dX6_root_119 : decode prog_8_method_36_code 119 = .ok (.lstore 8, 2) := by decide +kernel
theorem dX6_root_121 : decode prog_8_method_36_code 121 = .ok (.iconst 0, 1) := by decide +kernel
theorem dX6_root_122 : decode prog_8_method_36_code 122 = .ok (.istore 10, 2) := by decide +kernel
theorem dX6_root_124 : decode prog_8_method_36_code 124 = .ok (.lload 8, 2) := by decide +kernel
theorem dX6_root_126 : decode prog_8_method_36_code 126 = .ok (.lconst 0, 1) := by decide +kernel
theorem dX6_root_127 : decode prog_8_method_36_code 127 = .ok (.lcmp, 1) := by decide +kernel
theorem dX6_root_128 : decode prog_8_method_36_code 128 = .ok (.ifCond .lt 14, 3) := by decide +kernel
theorem dX6_root_131 : decode prog_8_method_36_code 131 = .ok (.aload_n 0, 1) := by decide +kernel
theorem dX6_root_132 : decode prog_8_method_36_code 132 = .ok (.iconst 0, 1) := by decide +kernel
theorem dX6_root_133 : decode prog_8_method_36_code 133 = .ok (.lload 8, 2) := by decide +kernel
theorem dX6_root_135 : decode prog_8_method_36_code 135 = .ok (.l2i, 1) := by decide +kernel
theorem dX6_root_136 : decode prog_8_method_36_code 136 = .ok (.invokevirtual 49, 3) := by decide +kernel
theorem dX6_root_139 : decode prog_8_method_36_code 139 = .ok (.goto 25, 3) := by decide +kernel
theorem dX6_root_142 : decode prog_8_method_36_code 142 = .ok (.aload_n 0, 1) := by decide +kernel
theorem dX6_root_143 : decode prog_8_method_36_code 143 = .ok (.iconst 0, 1) := by decide +kernel
theorem dX6_root_144 : decode prog_8_method_36_code 144 = .ok (.lload 8, 2) := by decide +kernel
theorem dX6_root_146 : decode prog_8_method_36_code 146 = .ok (.lneg, 1) := by decide +kernel
theorem dX6_root_147 : decode prog_8_method_36_code 147 = .ok (.invokevirtual 79, 3) := by decide +kernel
theorem dX6_root_150 : decode prog_8_method_36_code 150 = .ok (.aload_n 0, 1) := by decide +kernel
theorem dX6_root_151 : decode prog_8_method_36_code 151 = .ok (.getfield 40, 3) := by decide +kernel
theorem dX6_root_154 : decode prog_8_method_36_code 154 = .ok (.ifCond .le 7, 3) := by decide +kernel
theorem dX6_root_157 : decode prog_8_method_36_code 157 = .ok (.iconst 1, 1) := by decide +kernel
theorem dX6_root_158 : decode prog_8_method_36_code 158 = .ok (.goto 4, 3) := by decide +kernel
theorem dX6_root_161 : decode prog_8_method_36_code 161 = .ok (.iconst 0, 1) := by decide +kernel
theorem dX6_root_162 : decode prog_8_method_36_code 162 = .ok (.istore 10, 2) := by decide +kernel
theorem dX6_root_164 : decode prog_8_method_36_code 164 = .ok (.aload_n 0, 1) := by decide +kernel
theorem dX6_root_165 : decode prog_8_method_36_code 165 = .ok (.invokevirtual 146, 3) := by decide +kernel
theorem dX6_root_168 : decode prog_8_method_36_code 168 = .ok (.iload 10, 2) := by decide +kernel
theorem dX6_root_170 : decode prog_8_method_36_code 170 = .ok (.ifCond .ne 12, 3) := by decide +kernel
theorem dX6_root_173 : decode prog_8_method_36_code 173 = .ok (.aload_n 0, 1) := by decide +kernel
theorem dX6_root_174 : decode prog_8_method_36_code 174 = .ok (.getfield 27, 3) := by decide +kernel
theorem dX6_root_177 : decode prog_8_method_36_code 177 = .ok (.iconst 3, 1) := by decide +kernel
theorem dX6_root_178 : decode prog_8_method_36_code 178 = .ok (.iaload, 1) := by decide +kernel
theorem dX6_root_179 : decode prog_8_method_36_code 179 = .ok (.ifCond .le 7, 3) := by decide +kernel
theorem dX6_root_182 : decode prog_8_method_36_code 182 = .ok (.iconst 1, 1) := by decide +kernel
theorem dX6_root_183 : decode prog_8_method_36_code 183 = .ok (.goto 4, 3) := by decide +kernel
theorem dX6_root_186 : decode prog_8_method_36_code 186 = .ok (.iconst 0, 1) := by decide +kernel
theorem dX6_root_187 : decode prog_8_method_36_code 187 = .ok (.istore 10, 2) := by decide +kernel
theorem dX6_root_189 : decode prog_8_method_36_code 189 = .ok (.aload_n 0, 1) := by decide +kernel
theorem dX6_root_190 : decode prog_8_method_36_code 190 = .ok (.getfield 24, 3) := by decide +kernel
theorem dX6_root_193 : decode prog_8_method_36_code 193 = .ok (.ldc 48, 2) := by decide +kernel
theorem dX6_root_195 : decode prog_8_method_36_code 195 = .ok (.iaload, 1) := by decide +kernel
theorem dX6_root_196 : decode prog_8_method_36_code 196 = .ok (.istore 11, 2) := by decide +kernel
theorem dX6_root_198 : decode prog_8_method_36_code 198 = .ok (.aload_n 0, 1) := by decide +kernel
theorem dX6_root_199 : decode prog_8_method_36_code 199 = .ok (.iconst 2, 1) := by decide +kernel
theorem dX6_root_200 : decode prog_8_method_36_code 200 = .ok (.lconst 1, 1) := by decide +kernel
theorem dX6_root_201 : decode prog_8_method_36_code 201 = .ok (.invokevirtual 79, 3) := by decide +kernel
theorem dX6_root_204 : decode prog_8_method_36_code 204 = .ok (.aload_n 0, 1) := by decide +kernel
theorem dX6_root_205 : decode prog_8_method_36_code 205 = .ok (.iload 11, 2) := by decide +kernel
theorem dX6_root_207 : decode prog_8_method_36_code 207 = .ok (.iconst 5, 1) := by decide +kernel
theorem dX6_root_208 : decode prog_8_method_36_code 208 = .ok (.if_icmp .gt 14, 3) := by decide +kernel
theorem dX6_root_211 : decode prog_8_method_36_code 211 = .ok (.iload 11, 2) := by decide +kernel
theorem dX6_root_213 : decode prog_8_method_36_code 213 = .ok (.iconst 5, 1) := by decide +kernel
theorem dX6_root_214 : decode prog_8_method_36_code 214 = .ok (.if_icmp .ne 12, 3) := by decide +kernel
theorem dX6_root_217 : decode prog_8_method_36_code 217 = .ok (.iload 10, 2) := by decide +kernel
theorem dX6_root_219 : decode prog_8_method_36_code 219 = .ok (.ifCond .eq 7, 3) := by decide +kernel
theorem dX6_root_222 : decode prog_8_method_36_code 222 = .ok (.iconst 3, 1) := by decide +kernel
theorem dX6_root_223 : decode prog_8_method_36_code 223 = .ok (.goto 28, 3) := by decide +kernel
theorem dX6_root_226 : decode prog_8_method_36_code 226 = .ok (.iload 11, 2) := by decide +kernel
theorem dX6_root_228 : decode prog_8_method_36_code 228 = .ok (.iconst 5, 1) := by decide +kernel
theorem dX6_root_229 : decode prog_8_method_36_code 229 = .ok (.if_icmp .ne 7, 3) := by decide +kernel
theorem dX6_root_232 : decode prog_8_method_36_code 232 = .ok (.iconst 2, 1) := by decide +kernel
theorem dX6_root_233 : decode prog_8_method_36_code 233 = .ok (.goto 18, 3) := by decide +kernel
theorem dX6_root_236 : decode prog_8_method_36_code 236 = .ok (.iload 11, 2) := by decide +kernel
theorem dX6_root_238 : decode prog_8_method_36_code 238 = .ok (.ifCond .gt 8, 3) := by decide +kernel
theorem dX6_root_241 : decode prog_8_method_36_code 241 = .ok (.iload 10, 2) := by decide +kernel
theorem dX6_root_243 : decode prog_8_method_36_code 243 = .ok (.ifCond .eq 7, 3) := by decide +kernel
theorem dX6_root_246 : decode prog_8_method_36_code 246 = .ok (.iconst 1, 1) := by decide +kernel
theorem dX6_root_247 : decode prog_8_method_36_code 247 = .ok (.goto 4, 3) := by decide +kernel
theorem dX6_root_250 : decode prog_8_method_36_code 250 = .ok (.iconst 0, 1) := by decide +kernel
theorem dX6_root_251 : decode prog_8_method_36_code 251 = .ok (.putfield 40, 3) := by decide +kernel
theorem dX6_root_254 : decode prog_8_method_36_code 254 = .ok (.lload 6, 2) := by decide +kernel
theorem dX6_root_256 : decode prog_8_method_36_code 256 = .ok (.lconst 1, 1) := by decide +kernel
theorem dX6_root_257 : decode prog_8_method_36_code 257 = .ok (.lsub, 1) := by decide +kernel
theorem dX6_root_258 : decode prog_8_method_36_code 258 = .ok (.lstore 6, 2) := by decide +kernel
theorem dX6_root_260 : decode prog_8_method_36_code 260 = .ok (.aload_n 0, 1) := by decide +kernel
theorem dX6_root_261 : decode prog_8_method_36_code 261 = .ok (.getfield 40, 3) := by decide +kernel
theorem dX6_root_264 : decode prog_8_method_36_code 264 = .ok (.ifCond .le 16, 3) := by decide +kernel
theorem dX6_root_267 : decode prog_8_method_36_code 267 = .ok (.aload_n 0, 1) := by decide +kernel
theorem dX6_root_268 : decode prog_8_method_36_code 268 = .ok (.iload_n 1, 1) := by decide +kernel
theorem dX6_root_269 : decode prog_8_method_36_code 269 = .ok (.iconst 2, 1) := by decide +kernel
theorem dX6_root_270 : decode prog_8_method_36_code 270 = .ok (.iconst 1, 1) := by decide +kernel
theorem dX6_root_271 : decode prog_8_method_36_code 271 = .ok (.lload 6, 2) := by decide +kernel
theorem dX6_root_273 : decode prog_8_method_36_code 273 = .ok (.iload 4, 2) := by decide +kernel
theorem dX6_root_275 : decode prog_8_method_36_code 275 = .ok (.iload_n 3, 1) := by decide +kernel
theorem dX6_root_276 : decode prog_8_method_36_code 276 = .ok (.invokevirtual 125, 3) := by decide +kernel
theorem dX6_root_279 : decode prog_8_method_36_code 279 = .ok (.ireturn, 1) := by decide +kernel
theorem dX6_root_280 : decode prog_8_method_36_code 280 = .ok (.aload_n 0, 1) := by decide +kernel
theorem dX6_root_281 : decode prog_8_method_36_code 281 = .ok (.iload_n 1, 1) := by decide +kernel
theorem dX6_root_282 : decode prog_8_method_36_code 282 = .ok (.iconst 1, 1) := by decide +kernel
theorem dX6_root_283 : decode prog_8_method_36_code 283 = .ok (.lload 6, 2) := by decide +kernel
theorem dX6_root_285 : decode prog_8_method_36_code 285 = .ok (.iload 5, 2) := by decide +kernel
theorem dX6_root_287 : decode prog_8_method_36_code 287 = .ok (.i2l, 1) := by decide +kernel
theorem dX6_root_288 : decode prog_8_method_36_code 288 = .ok (.iload_n 3, 1) := by decide +kernel
theorem dX6_root_289 : decode prog_8_method_36_code 289 = .ok (.invokevirtual 129, 3) := by decide +kernel
theorem dX6_root_292 : decode prog_8_method_36_code 292 = .ok (.ireturn, 1) := by decide +kernel
theorem dX6_extract_0 : decode prog_8_method_37_code 0 = .ok (.aload_n 0, 1) := by decide +kernel
theorem dX6_extract_1 : decode prog_8_method_37_code 1 = .ok (.getfield 27, 3) := by decide +kernel
theorem dX6_extract_4 : decode prog_8_method_37_code 4 = .ok (.iconst 2, 1) := by decide +kernel
theorem dX6_extract_5 : decode prog_8_method_37_code 5 = .ok (.iconst 0, 1) := by decide +kernel
theorem dX6_extract_6 : decode prog_8_method_37_code 6 = .ok (.iastore, 1) := by decide +kernel
theorem dX6_extract_7 : decode prog_8_method_37_code 7 = .ok (.aload_n 0, 1) := by decide +kernel
theorem dX6_extract_8 : decode prog_8_method_37_code 8 = .ok (.getfield 27, 3) := by decide +kernel
theorem dX6_extract_11 : decode prog_8_method_37_code 11 = .ok (.iconst 3, 1) := by decide +kernel
theorem dX6_extract_12 : decode prog_8_method_37_code 12 = .ok (.iconst 0, 1) := by decide +kernel
theorem dX6_extract_13 : decode prog_8_method_37_code 13 = .ok (.iastore, 1) := by decide +kernel
theorem dX6_extract_14 : decode prog_8_method_37_code 14 = .ok (.aload_n 0, 1) := by decide +kernel
theorem dX6_extract_15 : decode prog_8_method_37_code 15 = .ok (.getfield 27, 3) := by decide +kernel
theorem dX6_extract_18 : decode prog_8_method_37_code 18 = .ok (.iconst 0, 1) := by decide +kernel
theorem dX6_extract_19 : decode prog_8_method_37_code 19 = .ok (.iaload, 1) := by decide +kernel
theorem dX6_extract_20 : decode prog_8_method_37_code 20 = .ok (.iconst 1, 1) := by decide +kernel
theorem dX6_extract_21 : decode prog_8_method_37_code 21 = .ok (.iadd, 1) := by decide +kernel
theorem dX6_extract_22 : decode prog_8_method_37_code 22 = .ok (.iconst 2, 1) := by decide +kernel
theorem dX6_extract_23 : decode prog_8_method_37_code 23 = .ok (.idiv, 1) := by decide +kernel
theorem dX6_extract_24 : decode prog_8_method_37_code 24 = .ok (.iconst 1, 1) := by decide +kernel
theorem dX6_extract_25 : decode prog_8_method_37_code 25 = .ok (.isub, 1) := by decide +kernel
theorem dX6_extract_26 : decode prog_8_method_37_code 26 = .ok (.istore_n 1, 1) := by decide +kernel
theorem dX6_extract_27 : decode prog_8_method_37_code 27 = .ok (.iload_n 1, 1) := by decide +kernel
theorem dX6_extract_28 : decode prog_8_method_37_code 28 = .ok (.ifCond .lt 199, 3) := by decide +kernel
theorem dX6_extract_31 : decode prog_8_method_37_code 31 = .ok (.aload_n 0, 1) := by decide +kernel
theorem dX6_extract_32 : decode prog_8_method_37_code 32 = .ok (.iconst 2, 1) := by decide +kernel
theorem dX6_extract_33 : decode prog_8_method_37_code 33 = .ok (.iload_n 1, 1) := by decide +kernel
theorem dX6_extract_34 : decode prog_8_method_37_code 34 = .ok (.imul, 1) := by decide +kernel
theorem dX6_extract_35 : decode prog_8_method_37_code 35 = .ok (.iconst 1, 1) := by decide +kernel
theorem dX6_extract_36 : decode prog_8_method_37_code 36 = .ok (.iadd, 1) := by decide +kernel
theorem dX6_extract_37 : decode prog_8_method_37_code 37 = .ok (.aload_n 0, 1) := by decide +kernel
theorem dX6_extract_38 : decode prog_8_method_37_code 38 = .ok (.getfield 27, 3) := by decide +kernel
theorem dX6_extract_41 : decode prog_8_method_37_code 41 = .ok (.iconst 0, 1) := by decide +kernel
theorem dX6_extract_42 : decode prog_8_method_37_code 42 = .ok (.iaload, 1) := by decide +kernel
theorem dX6_extract_43 : decode prog_8_method_37_code 43 = .ok (.if_icmp .ge 18, 3) := by decide +kernel
theorem dX6_extract_46 : decode prog_8_method_37_code 46 = .ok (.aload_n 0, 1) := by decide +kernel
theorem dX6_extract_47 : decode prog_8_method_37_code 47 = .ok (.getfield 24, 3) := by decide +kernel
theorem dX6_extract_50 : decode prog_8_method_37_code 50 = .ok (.iconst 0, 1) := by decide +kernel
theorem dX6_extract_51 : decode prog_8_method_37_code 51 = .ok (.iconst 2, 1) := by decide +kernel
theorem dX6_extract_52 : decode prog_8_method_37_code 52 = .ok (.iload_n 1, 1) := by decide +kernel
theorem dX6_extract_53 : decode prog_8_method_37_code 53 = .ok (.imul, 1) := by decide +kernel
theorem dX6_extract_54 : decode prog_8_method_37_code 54 = .ok (.iadd, 1) := by decide +kernel
theorem dX6_extract_55 : decode prog_8_method_37_code 55 = .ok (.iconst 1, 1) := by decide +kernel
theorem dX6_extract_56 : decode prog_8_method_37_code 56 = .ok (.iadd, 1) := by decide +kernel
theorem dX6_extract_57 : decode prog_8_method_37_code 57 = .ok (.iaload, 1) := by decide +kernel
theorem dX6_extract_58 : decode prog_8_method_37_code 58 = .ok (.goto 4, 3) := by decide +kernel
theorem dX6_extract_61 : decode prog_8_method_37_code 61 = .ok (.iconst 0, 1) := by decide +kernel
theorem dX6_extract_62 : decode prog_8_method_37_code 62 = .ok (.invokevirtual 149, 3) := by decide +kernel
theorem dX6_extract_65 : decode prog_8_method_37_code 65 = .ok (.aload_n 0, 1) := by decide +kernel
theorem dX6_extract_66 : decode prog_8_method_37_code 66 = .ok (.aload_n 0, 1) := by decide +kernel
theorem dX6_extract_67 : decode prog_8_method_37_code 67 = .ok (.getfield 24, 3) := by decide +kernel
theorem dX6_extract_70 : decode prog_8_method_37_code 70 = .ok (.iconst 0, 1) := by decide +kernel
theorem dX6_extract_71 : decode prog_8_method_37_code 71 = .ok (.iconst 2, 1) := by decide +kernel
theorem dX6_extract_72 : decode prog_8_method_37_code 72 = .ok (.iload_n 1, 1) := by decide +kernel
theorem dX6_extract_73 : decode prog_8_method_37_code 73 = .ok (.imul, 1) := by decide +kernel
theorem dX6_extract_74 : decode prog_8_method_37_code 74 = .ok (.iadd, 1) := by decide +kernel
theorem dX6_extract_75 : decode prog_8_method_37_code 75 = .ok (.iaload, 1) := by decide +kernel
theorem dX6_extract_76 : decode prog_8_method_37_code 76 = .ok (.invokevirtual 149, 3) := by decide +kernel
theorem dX6_extract_79 : decode prog_8_method_37_code 79 = .ok (.aload_n 0, 1) := by decide +kernel
theorem dX6_extract_80 : decode prog_8_method_37_code 80 = .ok (.getfield 27, 3) := by decide +kernel
theorem dX6_extract_83 : decode prog_8_method_37_code 83 = .ok (.iconst 1, 1) := by decide +kernel
theorem dX6_extract_84 : decode prog_8_method_37_code 84 = .ok (.aload_n 0, 1) := by decide +kernel
theorem dX6_extract_85 : decode prog_8_method_37_code 85 = .ok (.getfield 27, 3) := by decide +kernel
theorem dX6_extract_88 : decode prog_8_method_37_code 88 = .ok (.iconst 2, 1) := by decide +kernel
theorem dX6_extract_89 : decode prog_8_method_37_code 89 = .ok (.iaload, 1) := by decide +kernel
theorem dX6_extract_90 : decode prog_8_method_37_code 90 = .ok (.iastore, 1) := by decide +kernel
theorem dX6_extract_91 : decode prog_8_method_37_code 91 = .ok (.iconst 0, 1) := by decide +kernel
theorem dX6_extract_92 : decode prog_8_method_37_code 92 = .ok (.istore_n 2, 1) := by decide +kernel
theorem dX6_extract_93 : decode prog_8_method_37_code 93 = .ok (.iload_n 2, 1) := by decide +kernel
theorem dX6_extract_94 : decode prog_8_method_37_code 94 = .ok (.aload_n 0, 1) := by decide +kernel
theorem dX6_extract_95 : decode prog_8_method_37_code 95 = .ok (.getfield 27, 3) := by decide +kernel
theorem dX6_extract_98 : decode prog_8_method_37_code 98 = .ok (.iconst 2, 1) := by decide +kernel
theorem dX6_extract_99 : decode prog_8_method_37_code 99 = .ok (.iaload, 1) := by decide +kernel
theorem dX6_extract_100 : decode prog_8_method_37_code 100 = .ok (.if_icmp .ge 28, 3) := by decide +kernel
theorem dX6_extract_103 : decode prog_8_method_37_code 103 = .ok (.aload_n 0, 1) := by decide +kernel
theorem dX6_extract_104 : decode prog_8_method_37_code 104 = .ok (.getfield 24, 3) := by decide +kernel
theorem dX6_extract_107 : decode prog_8_method_37_code 107 = .ok (.sipush 17000, 3) := by decide +kernel
theorem dX6_extract_110 : decode prog_8_method_37_code 110 = .ok (.iload_n 2, 1) := by decide +kernel
theorem dX6_extract_111 : decode prog_8_method_37_code 111 = .ok (.iadd, 1) := by decide +kernel
theorem dX6_extract_112 : decode prog_8_method_37_code 112 = .ok (.aload_n 0, 1) := by decide +kernel
theorem dX6_extract_113 : decode prog_8_method_37_code 113 = .ok (.getfield 24, 3) := by decide +kernel
theorem dX6_extract_116 : decode prog_8_method_37_code 116 = .ok (.ldc 48, 2) := by decide +kernel
theorem dX6_extract_118 : decode prog_8_method_37_code 118 = .ok (.iload_n 2, 1) := by decide +kernel
theorem dX6_extract_119 : decode prog_8_method_37_code 119 = .ok (.iadd, 1) := by decide +kernel
theorem dX6_extract_120 : decode prog_8_method_37_code 120 = .ok (.iaload, 1) := by decide +kernel
theorem dX6_extract_121 : decode prog_8_method_37_code 121 = .ok (.iastore, 1) := by decide +kernel
theorem dX6_extract_122 : decode prog_8_method_37_code 122 = .ok (.iinc 2 1, 3) := by decide +kernel
theorem dX6_extract_125 : decode prog_8_method_37_code 125 = .ok (.goto (-32), 3) := by decide +kernel
theorem dX6_extract_128 : decode prog_8_method_37_code 128 = .ok (.aload_n 0, 1) := by decide +kernel
theorem dX6_extract_129 : decode prog_8_method_37_code 129 = .ok (.iconst 1, 1) := by decide +kernel
theorem dX6_extract_130 : decode prog_8_method_37_code 130 = .ok (.iconst 2, 1) := by decide +kernel
theorem dX6_extract_131 : decode prog_8_method_37_code 131 = .ok (.invokevirtual 94, 3) := by decide +kernel
theorem dX6_extract_134 : decode prog_8_method_37_code 134 = .ok (.aload_n 0, 1) := by decide +kernel
theorem dX6_extract_135 : decode prog_8_method_37_code 135 = .ok (.iconst 1, 1) := by decide +kernel
theorem dX6_extract_136 : decode prog_8_method_37_code 136 = .ok (.iconst 1, 1) := by decide +kernel
theorem dX6_extract_137 : decode prog_8_method_37_code 137 = .ok (.invokevirtual 49, 3) := by decide +kernel
theorem dX6_extract_140 : decode prog_8_method_37_code 140 = .ok (.aload_n 0, 1) := by decide +kernel
theorem dX6_extract_141 : decode prog_8_method_37_code 141 = .ok (.iconst 1, 1) := by decide +kernel
theorem dX6_extract_142 : decode prog_8_method_37_code 142 = .ok (.invokevirtual 71, 3) := by decide +kernel
theorem dX6_extract_145 : decode prog_8_method_37_code 145 = .ok (.iconst 0, 1) := by decide +kernel
theorem dX6_extract_146 : decode prog_8_method_37_code 146 = .ok (.istore_n 2, 1) := by decide +kernel
theorem dX6_extract_147 : decode prog_8_method_37_code 147 = .ok (.aload_n 0, 1) := by decide +kernel
theorem dX6_extract_148 : decode prog_8_method_37_code 148 = .ok (.iconst 3, 1) := by decide +kernel
theorem dX6_extract_149 : decode prog_8_method_37_code 149 = .ok (.iconst 1, 1) := by decide +kernel
theorem dX6_extract_150 : decode prog_8_method_37_code 150 = .ok (.invokevirtual 53, 3) := by decide +kernel
theorem dX6_extract_153 : decode prog_8_method_37_code 153 = .ok (.ifCond .lt 25, 3) := by decide +kernel
theorem dX6_extract_156 : decode prog_8_method_37_code 156 = .ok (.aload_n 0, 1) := by decide +kernel
theorem dX6_extract_157 : decode prog_8_method_37_code 157 = .ok (.iconst 3, 1) := by decide +kernel
theorem dX6_extract_158 : decode prog_8_method_37_code 158 = .ok (.iconst 1, 1) := by decide +kernel
theorem dX6_extract_159 : decode prog_8_method_37_code 159 = .ok (.invokevirtual 57, 3) := by decide +kernel
theorem dX6_extract_162 : decode prog_8_method_37_code 162 = .ok (.aload_n 0, 1) := by decide +kernel
theorem dX6_extract_163 : decode prog_8_method_37_code 163 = .ok (.iconst 1, 1) := by decide +kernel
theorem dX6_extract_164 : decode prog_8_method_37_code 164 = .ok (.invokevirtual 71, 3) := by decide +kernel
theorem dX6_extract_167 : decode prog_8_method_37_code 167 = .ok (.aload_n 0, 1) := by decide +kernel
theorem dX6_extract_168 : decode prog_8_method_37_code 168 = .ok (.iconst 1, 1) := by decide +kernel
theorem dX6_extract_169 : decode prog_8_method_37_code 169 = .ok (.invokevirtual 71, 3) := by decide +kernel
theorem dX6_extract_172 : decode prog_8_method_37_code 172 = .ok (.iinc 2 1, 3) := by decide +kernel
theorem dX6_extract_175 : decode prog_8_method_37_code 175 = .ok (.goto (-28), 3) := by decide +kernel
theorem dX6_extract_178 : decode prog_8_method_37_code 178 = .ok (.aload_n 0, 1) := by decide +kernel
theorem dX6_extract_179 : decode prog_8_method_37_code 179 = .ok (.iconst 2, 1) := by decide +kernel
theorem dX6_extract_180 : decode prog_8_method_37_code 180 = .ok (.iconst 1, 1) := by decide +kernel
theorem dX6_extract_181 : decode prog_8_method_37_code 181 = .ok (.invokevirtual 49, 3) := by decide +kernel
theorem dX6_extract_184 : decode prog_8_method_37_code 184 = .ok (.aload_n 0, 1) := by decide +kernel
theorem dX6_extract_185 : decode prog_8_method_37_code 185 = .ok (.getfield 27, 3) := by decide +kernel
theorem dX6_extract_188 : decode prog_8_method_37_code 188 = .ok (.iconst 2, 1) := by decide +kernel
theorem dX6_extract_189 : decode prog_8_method_37_code 189 = .ok (.iaload, 1) := by decide +kernel
theorem dX6_extract_190 : decode prog_8_method_37_code 190 = .ok (.ifCond .ne 14, 3) := by decide +kernel
theorem dX6_extract_193 : decode prog_8_method_37_code 193 = .ok (.iload_n 2, 1) := by decide +kernel
theorem dX6_extract_194 : decode prog_8_method_37_code 194 = .ok (.ifCond .le 10, 3) := by decide +kernel
theorem dX6_extract_197 : decode prog_8_method_37_code 197 = .ok (.aload_n 0, 1) := by decide +kernel
theorem dX6_extract_198 : decode prog_8_method_37_code 198 = .ok (.getfield 27, 3) := by decide +kernel
theorem dX6_extract_201 : decode prog_8_method_37_code 201 = .ok (.iconst 2, 1) := by decide +kernel
theorem dX6_extract_202 : decode prog_8_method_37_code 202 = .ok (.iconst 1, 1) := by decide +kernel
theorem dX6_extract_203 : decode prog_8_method_37_code 203 = .ok (.iastore, 1) := by decide +kernel
theorem dX6_extract_204 : decode prog_8_method_37_code 204 = .ok (.aload_n 0, 1) := by decide +kernel
theorem dX6_extract_205 : decode prog_8_method_37_code 205 = .ok (.getfield 27, 3) := by decide +kernel
theorem dX6_extract_208 : decode prog_8_method_37_code 208 = .ok (.iconst 2, 1) := by decide +kernel
theorem dX6_extract_209 : decode prog_8_method_37_code 209 = .ok (.iaload, 1) := by decide +kernel
theorem dX6_extract_210 : decode prog_8_method_37_code 210 = .ok (.ifCond .le 11, 3) := by decide +kernel
theorem dX6_extract_213 : decode prog_8_method_37_code 213 = .ok (.aload_n 0, 1) := by decide +kernel
theorem dX6_extract_214 : decode prog_8_method_37_code 214 = .ok (.getfield 24, 3) := by decide +kernel
theorem dX6_extract_217 : decode prog_8_method_37_code 217 = .ok (.ldc 48, 2) := by decide +kernel
theorem dX6_extract_219 : decode prog_8_method_37_code 219 = .ok (.iload_n 2, 1) := by decide +kernel
theorem dX6_extract_220 : decode prog_8_method_37_code 220 = .ok (.iastore, 1) := by decide +kernel
theorem dX6_extract_221 : decode prog_8_method_37_code 221 = .ok (.iinc 1 (-1), 3) := by decide +kernel
theorem dX6_extract_224 : decode prog_8_method_37_code 224 = .ok (.goto (-197), 3) := by decide +kernel
theorem dX6_extract_227 : decode prog_8_method_37_code 227 = .ok (.return_, 1) := by decide +kernel
theorem dX6_bring_0 : decode prog_8_method_38_code 0 = .ok (.aload_n 0, 1) := by decide +kernel
theorem dX6_bring_1 : decode prog_8_method_38_code 1 = .ok (.iconst 3, 1) := by decide +kernel
theorem dX6_bring_2 : decode prog_8_method_38_code 2 = .ok (.iconst 1, 1) := by decide +kernel
theorem dX6_bring_3 : decode prog_8_method_38_code 3 = .ok (.invokevirtual 49, 3) := by decide +kernel
theorem dX6_bring_6 : decode prog_8_method_38_code 6 = .ok (.aload_n 0, 1) := by decide +kernel
theorem dX6_bring_7 : decode prog_8_method_38_code 7 = .ok (.getfield 27, 3) := by decide +kernel
theorem dX6_bring_10 : decode prog_8_method_38_code 10 = .ok (.iconst 3, 1) := by decide +kernel
theorem dX6_bring_11 : decode prog_8_method_38_code 11 = .ok (.iaload, 1) := by decide +kernel
theorem dX6_bring_12 : decode prog_8_method_38_code 12 = .ok (.ifCond .ne 14, 3) := by decide +kernel
theorem dX6_bring_15 : decode prog_8_method_38_code 15 = .ok (.iload_n 1, 1) := by decide +kernel
theorem dX6_bring_16 : decode prog_8_method_38_code 16 = .ok (.ifCond .le 10, 3) := by decide +kernel
theorem dX6_bring_19 : decode prog_8_method_38_code 19 = .ok (.aload_n 0, 1) := by decide +kernel
theorem dX6_bring_20 : decode prog_8_method_38_code 20 = .ok (.getfield 27, 3) := by decide +kernel
theorem dX6_bring_23 : decode prog_8_method_38_code 23 = .ok (.iconst 3, 1) := by decide +kernel
theorem dX6_bring_24 : decode prog_8_method_38_code 24 = .ok (.iconst 1, 1) := by decide +kernel
theorem dX6_bring_25 : decode prog_8_method_38_code 25 = .ok (.iastore, 1) := by decide +kernel
theorem dX6_bring_26 : decode prog_8_method_38_code 26 = .ok (.aload_n 0, 1) := by decide +kernel
theorem dX6_bring_27 : decode prog_8_method_38_code 27 = .ok (.getfield 27, 3) := by decide +kernel
theorem dX6_bring_30 : decode prog_8_method_38_code 30 = .ok (.iconst 3, 1) := by decide +kernel
theorem dX6_bring_31 : decode prog_8_method_38_code 31 = .ok (.iaload, 1) := by decide +kernel
theorem dX6_bring_32 : decode prog_8_method_38_code 32 = .ok (.ifCond .le 11, 3) := by decide +kernel
theorem dX6_bring_35 : decode prog_8_method_38_code 35 = .ok (.aload_n 0, 1) := by decide +kernel
theorem dX6_bring_36 : decode prog_8_method_38_code 36 = .ok (.getfield 24, 3) := by decide +kernel
theorem dX6_bring_39 : decode prog_8_method_38_code 39 = .ok (.ldc 52, 2) := by decide +kernel
theorem dX6_bring_41 : decode prog_8_method_38_code 41 = .ok (.iload_n 1, 1) := by decide +kernel
theorem dX6_bring_42 : decode prog_8_method_38_code 42 = .ok (.iastore, 1) := by decide +kernel
theorem dX6_bring_43 : decode prog_8_method_38_code 43 = .ok (.return_, 1) := by decide +kernel
theorem dX6_rescale_0 : decode prog_8_method_39_code 0 = .ok (.iload_n 1, 1) := by decide +kernel
theorem dX6_rescale_1 : decode prog_8_method_39_code 1 = .ok (.invokestatic 83, 3) := by decide +kernel
theorem dX6_rescale_4 : decode prog_8_method_39_code 4 = .ok (.ifCond .eq 18, 3) := by decide +kernel
theorem dX6_rescale_7 : decode prog_8_method_39_code 7 = .ok (.iload_n 2, 1) := by decide +kernel
theorem dX6_rescale_8 : decode prog_8_method_39_code 8 = .ok (.invokestatic 83, 3) := by decide +kernel
theorem dX6_rescale_11 : decode prog_8_method_39_code 11 = .ok (.ifCond .eq 11, 3) := by decide +kernel
theorem dX6_rescale_14 : decode prog_8_method_39_code 14 = .ok (.iload 4, 2) := by decide +kernel
theorem dX6_rescale_16 : decode prog_8_method_39_code 16 = .ok (.invokestatic 104, 3) := by decide +kernel
theorem dX6_rescale_19 : decode prog_8_method_39_code 19 = .ok (.ifCond .ne 5, 3) := by decide +kernel
theorem dX6_rescale_22 : decode prog_8_method_39_code 22 = .ok (.iconst 0, 1) := by decide +kernel
theorem dX6_rescale_23 : decode prog_8_method_39_code 23 = .ok (.ireturn, 1) := by decide +kernel
theorem dX6_rescale_24 : decode prog_8_method_39_code 24 = .ok (.aload_n 0, 1) := by decide +kernel
theorem dX6_rescale_25 : decode prog_8_method_39_code 25 = .ok (.iconst 0, 1) := by decide +kernel
theorem dX6_rescale_26 : decode prog_8_method_39_code 26 = .ok (.iload_n 2, 1) := by decide +kernel
theorem dX6_rescale_27 : decode prog_8_method_39_code 27 = .ok (.invokevirtual 89, 3) := by decide +kernel
theorem dX6_rescale_30 : decode prog_8_method_39_code 30 = .ok (.iload_n 3, 1) := by decide +kernel
theorem dX6_rescale_31 : decode prog_8_method_39_code 31 = .ok (.i2l, 1) := by decide +kernel
theorem dX6_rescale_32 : decode prog_8_method_39_code 32 = .ok (.aload_n 0, 1) := by decide +kernel
theorem dX6_rescale_33 : decode prog_8_method_39_code 33 = .ok (.getfield 20, 3) := by decide +kernel
theorem dX6_rescale_36 : decode prog_8_method_39_code 36 = .ok (.iload_n 2, 1) := by decide +kernel
theorem dX6_rescale_37 : decode prog_8_method_39_code 37 = .ok (.iaload, 1) := by decide +kernel
theorem dX6_rescale_38 : decode prog_8_method_39_code 38 = .ok (.i2l, 1) := by decide +kernel
theorem dX6_rescale_39 : decode prog_8_method_39_code 39 = .ok (.lsub, 1) := by decide +kernel
theorem dX6_rescale_40 : decode prog_8_method_39_code 40 = .ok (.lstore 5, 2) := by decide +kernel
theorem dX6_rescale_42 : decode prog_8_method_39_code 42 = .ok (.aload_n 0, 1) := by decide +kernel
theorem dX6_rescale_43 : decode prog_8_method_39_code 43 = .ok (.iconst 0, 1) := by decide +kernel
theorem dX6_rescale_44 : decode prog_8_method_39_code 44 = .ok (.putfield 40, 3) := by decide +kernel
theorem dX6_rescale_47 : decode prog_8_method_39_code 47 = .ok (.aload_n 0, 1) := by decide +kernel
theorem dX6_rescale_48 : decode prog_8_method_39_code 48 = .ok (.getfield 27, 3) := by decide +kernel
theorem dX6_rescale_51 : decode prog_8_method_39_code 51 = .ok (.iconst 0, 1) := by decide +kernel
theorem dX6_rescale_52 : decode prog_8_method_39_code 52 = .ok (.iaload, 1) := by decide +kernel
theorem dX6_rescale_53 : decode prog_8_method_39_code 53 = .ok (.ifCond .le 22, 3) := by decide +kernel
theorem dX6_rescale_56 : decode prog_8_method_39_code 56 = .ok (.aload_n 0, 1) := by decide +kernel
theorem dX6_rescale_57 : decode prog_8_method_39_code 57 = .ok (.getfield 27, 3) := by decide +kernel
theorem dX6_rescale_60 : decode prog_8_method_39_code 60 = .ok (.iconst 0, 1) := by decide +kernel
theorem dX6_rescale_61 : decode prog_8_method_39_code 61 = .ok (.iaload, 1) := by decide +kernel
theorem dX6_rescale_62 : decode prog_8_method_39_code 62 = .ok (.i2l, 1) := by decide +kernel
theorem dX6_rescale_63 : decode prog_8_method_39_code 63 = .ok (.lload 5, 2) := by decide +kernel
theorem dX6_rescale_65 : decode prog_8_method_39_code 65 = .ok (.ladd, 1) := by decide +kernel
theorem dX6_rescale_66 : decode prog_8_method_39_code 66 = .ok (.ldc2_w 107, 3) := by decide +kernel
theorem dX6_rescale_69 : decode prog_8_method_39_code 69 = .ok (.lcmp, 1) := by decide +kernel
theorem dX6_rescale_70 : decode prog_8_method_39_code 70 = .ok (.ifCond .le 5, 3) := by decide +kernel
theorem dX6_rescale_73 : decode prog_8_method_39_code 73 = .ok (.iconst 0, 1) := by decide +kernel
theorem dX6_rescale_74 : decode prog_8_method_39_code 74 = .ok (.ireturn, 1) := by decide +kernel
theorem dX6_rescale_75 : decode prog_8_method_39_code 75 = .ok (.lload 5, 2) := by decide +kernel
theorem dX6_rescale_77 : decode prog_8_method_39_code 77 = .ok (.lconst 0, 1) := by decide +kernel
theorem dX6_rescale_78 : decode prog_8_method_39_code 78 = .ok (.lcmp, 1) := by decide +kernel
theorem dX6_rescale_79 : decode prog_8_method_39_code 79 = .ok (.ifCond .le 23, 3) := by decide +kernel
theorem dX6_rescale_82 : decode prog_8_method_39_code 82 = .ok (.aload_n 0, 1) := by decide +kernel
theorem dX6_rescale_83 : decode prog_8_method_39_code 83 = .ok (.getfield 27, 3) := by decide +kernel
theorem dX6_rescale_86 : decode prog_8_method_39_code 86 = .ok (.iconst 0, 1) := by decide +kernel
theorem dX6_rescale_87 : decode prog_8_method_39_code 87 = .ok (.iaload, 1) := by decide +kernel
theorem dX6_rescale_88 : decode prog_8_method_39_code 88 = .ok (.ifCond .le 14, 3) := by decide +kernel
theorem dX6_rescale_91 : decode prog_8_method_39_code 91 = .ok (.aload_n 0, 1) := by decide +kernel
theorem dX6_rescale_92 : decode prog_8_method_39_code 92 = .ok (.iconst 0, 1) := by decide +kernel
theorem dX6_rescale_93 : decode prog_8_method_39_code 93 = .ok (.lload 5, 2) := by decide +kernel
theorem dX6_rescale_95 : decode prog_8_method_39_code 95 = .ok (.l2i, 1) := by decide +kernel
theorem dX6_rescale_96 : decode prog_8_method_39_code 96 = .ok (.invokevirtual 49, 3) := by decide +kernel
theorem dX6_rescale_99 : decode prog_8_method_39_code 99 = .ok (.goto 11, 3) := by decide +kernel
theorem dX6_rescale_102 : decode prog_8_method_39_code 102 = .ok (.aload_n 0, 1) := by decide +kernel
theorem dX6_rescale_103 : decode prog_8_method_39_code 103 = .ok (.iconst 0, 1) := by decide +kernel
theorem dX6_rescale_104 : decode prog_8_method_39_code 104 = .ok (.lload 5, 2) := by decide +kernel
theorem dX6_rescale_106 : decode prog_8_method_39_code 106 = .ok (.lneg, 1) := by decide +kernel
theorem dX6_rescale_107 : decode prog_8_method_39_code 107 = .ok (.invokevirtual 79, 3) := by decide +kernel
theorem dX6_rescale_110 : decode prog_8_method_39_code 110 = .ok (.aload_n 0, 1) := by decide +kernel
theorem dX6_rescale_111 : decode prog_8_method_39_code 111 = .ok (.iload_n 1, 1) := by decide +kernel
theorem dX6_rescale_112 : decode prog_8_method_39_code 112 = .ok (.iconst 0, 1) := by decide +kernel
theorem dX6_rescale_113 : decode prog_8_method_39_code 113 = .ok (.aload_n 0, 1) := by decide +kernel
theorem dX6_rescale_114 : decode prog_8_method_39_code 114 = .ok (.getfield 17, 3) := by decide +kernel
theorem dX6_rescale_117 : decode prog_8_method_39_code 117 = .ok (.iload_n 2, 1) := by decide +kernel
theorem dX6_rescale_118 : decode prog_8_method_39_code 118 = .ok (.iaload, 1) := by decide +kernel
theorem dX6_rescale_119 : decode prog_8_method_39_code 119 = .ok (.iload_n 3, 1) := by decide +kernel
theorem dX6_rescale_120 : decode prog_8_method_39_code 120 = .ok (.i2l, 1) := by decide +kernel
theorem dX6_rescale_121 : decode prog_8_method_39_code 121 = .ok (.iload 4, 2) := by decide +kernel
theorem dX6_rescale_123 : decode prog_8_method_39_code 123 = .ok (.invokevirtual 114, 3) := by decide +kernel
theorem dX6_rescale_126 : decode prog_8_method_39_code 126 = .ok (.ireturn, 1) := by decide +kernel
theorem dX6_round_0 : decode prog_8_method_40_code 0 = .ok (.iload_n 1, 1) := by decide +kernel
theorem dX6_round_1 : decode prog_8_method_40_code 1 = .ok (.invokestatic 83, 3) := by decide +kernel
theorem dX6_round_4 : decode prog_8_method_40_code 4 = .ok (.ifCond .eq 25, 3) := by decide +kernel
theorem dX6_round_7 : decode prog_8_method_40_code 7 = .ok (.iload_n 2, 1) := by decide +kernel
theorem dX6_round_8 : decode prog_8_method_40_code 8 = .ok (.invokestatic 83, 3) := by decide +kernel
theorem dX6_round_11 : decode prog_8_method_40_code 11 = .ok (.ifCond .eq 18, 3) := by decide +kernel
theorem dX6_round_14 : decode prog_8_method_40_code 14 = .ok (.iload_n 3, 1) := by decide +kernel
theorem dX6_round_15 : decode prog_8_method_40_code 15 = .ok (.invokestatic 118, 3) := by decide +kernel
theorem dX6_round_18 : decode prog_8_method_40_code 18 = .ok (.ifCond .eq 11, 3) := by decide +kernel
theorem dX6_round_21 : decode prog_8_method_40_code 21 = .ok (.iload 4, 2) := by decide +kernel
theorem dX6_round_23 : decode prog_8_method_40_code 23 = .ok (.invokestatic 104, 3) := by decide +kernel
theorem dX6_round_26 : decode prog_8_method_40_code 26 = .ok (.ifCond .ne 5, 3) := by decide +kernel
theorem dX6_round_29 : decode prog_8_method_40_code 29 = .ok (.iconst 0, 1) := by decide +kernel
theorem dX6_round_30 : decode prog_8_method_40_code 30 = .ok (.ireturn, 1) := by decide +kernel
theorem dX6_round_31 : decode prog_8_method_40_code 31 = .ok (.aload_n 0, 1) := by decide +kernel
theorem dX6_round_32 : decode prog_8_method_40_code 32 = .ok (.iconst 0, 1) := by decide +kernel
theorem dX6_round_33 : decode prog_8_method_40_code 33 = .ok (.iload_n 2, 1) := by decide +kernel
theorem dX6_round_34 : decode prog_8_method_40_code 34 = .ok (.invokevirtual 89, 3) := by decide +kernel
theorem dX6_round_37 : decode prog_8_method_40_code 37 = .ok (.iload_n 3, 1) := by decide +kernel
theorem dX6_round_38 : decode prog_8_method_40_code 38 = .ok (.ifCond .eq 13, 3) := by decide +kernel
theorem dX6_round_41 : decode prog_8_method_40_code 41 = .ok (.aload_n 0, 1) := by decide +kernel
theorem dX6_round_42 : decode prog_8_method_40_code 42 = .ok (.getfield 27, 3) := by decide +kernel
theorem dX6_round_45 : decode prog_8_method_40_code 45 = .ok (.iconst 0, 1) := by decide +kernel
theorem dX6_round_46 : decode prog_8_method_40_code 46 = .ok (.iaload, 1) := by decide +kernel
theorem dX6_round_47 : decode prog_8_method_40_code 47 = .ok (.iload_n 3, 1) := by decide +kernel
theorem dX6_round_48 : decode prog_8_method_40_code 48 = .ok (.if_icmp .gt 23, 3) := by decide +kernel
theorem dX6_round_51 : decode prog_8_method_40_code 51 = .ok (.aload_n 0, 1) := by decide +kernel
theorem dX6_round_52 : decode prog_8_method_40_code 52 = .ok (.iload_n 1, 1) := by decide +kernel
theorem dX6_round_53 : decode prog_8_method_40_code 53 = .ok (.iconst 0, 1) := by decide +kernel
theorem dX6_round_54 : decode prog_8_method_40_code 54 = .ok (.aload_n 0, 1) := by decide +kernel
theorem dX6_round_55 : decode prog_8_method_40_code 55 = .ok (.getfield 17, 3) := by decide +kernel
theorem dX6_round_58 : decode prog_8_method_40_code 58 = .ok (.iload_n 2, 1) := by decide +kernel
theorem dX6_round_59 : decode prog_8_method_40_code 59 = .ok (.iaload, 1) := by decide +kernel
theorem dX6_round_60 : decode prog_8_method_40_code 60 = .ok (.aload_n 0, 1) := by decide +kernel
theorem dX6_round_61 : decode prog_8_method_40_code 61 = .ok (.getfield 20, 3) := by decide +kernel
theorem dX6_round_64 : decode prog_8_method_40_code 64 = .ok (.iload_n 2, 1) := by decide +kernel
theorem dX6_round_65 : decode prog_8_method_40_code 65 = .ok (.iaload, 1) := by decide +kernel
theorem dX6_round_66 : decode prog_8_method_40_code 66 = .ok (.i2l, 1) := by decide +kernel
theorem dX6_round_67 : decode prog_8_method_40_code 67 = .ok (.invokevirtual 75, 3) := by decide +kernel
theorem dX6_round_70 : decode prog_8_method_40_code 70 = .ok (.ireturn, 1) := by decide +kernel
theorem dX6_round_71 : decode prog_8_method_40_code 71 = .ok (.aload_n 0, 1) := by decide +kernel
theorem dX6_round_72 : decode prog_8_method_40_code 72 = .ok (.getfield 27, 3) := by decide +kernel
theorem dX6_round_75 : decode prog_8_method_40_code 75 = .ok (.iconst 0, 1) := by decide +kernel
theorem dX6_round_76 : decode prog_8_method_40_code 76 = .ok (.iaload, 1) := by decide +kernel
theorem dX6_round_77 : decode prog_8_method_40_code 77 = .ok (.iload_n 3, 1) := by decide +kernel
theorem dX6_round_78 : decode prog_8_method_40_code 78 = .ok (.isub, 1) := by decide +kernel
theorem dX6_round_79 : decode prog_8_method_40_code 79 = .ok (.istore 5, 2) := by decide +kernel
theorem dX6_round_81 : decode prog_8_method_40_code 81 = .ok (.aload_n 0, 1) := by decide +kernel
theorem dX6_round_82 : decode prog_8_method_40_code 82 = .ok (.iconst 0, 1) := by decide +kernel
theorem dX6_round_83 : decode prog_8_method_40_code 83 = .ok (.iload 5, 2) := by decide +kernel
theorem dX6_round_85 : decode prog_8_method_40_code 85 = .ok (.i2l, 1) := by decide +kernel
theorem dX6_round_86 : decode prog_8_method_40_code 86 = .ok (.invokevirtual 79, 3) := by decide +kernel
theorem dX6_round_89 : decode prog_8_method_40_code 89 = .ok (.aload_n 0, 1) := by decide +kernel
theorem dX6_round_90 : decode prog_8_method_40_code 90 = .ok (.iload_n 1, 1) := by decide +kernel
theorem dX6_round_91 : decode prog_8_method_40_code 91 = .ok (.iconst 0, 1) := by decide +kernel
theorem dX6_round_92 : decode prog_8_method_40_code 92 = .ok (.aload_n 0, 1) := by decide +kernel
theorem dX6_round_93 : decode prog_8_method_40_code 93 = .ok (.getfield 17, 3) := by decide +kernel
theorem dX6_round_96 : decode prog_8_method_40_code 96 = .ok (.iload_n 2, 1) := by decide +kernel
theorem dX6_round_97 : decode prog_8_method_40_code 97 = .ok (.iaload, 1) := by decide +kernel
theorem dX6_round_98 : decode prog_8_method_40_code 98 = .ok (.aload_n 0, 1) := by decide +kernel
theorem dX6_round_99 : decode prog_8_method_40_code 99 = .ok (.getfield 20, 3) := by decide +kernel
theorem dX6_round_102 : decode prog_8_method_40_code 102 = .ok (.iload_n 2, 1) := by decide +kernel
theorem dX6_round_103 : decode prog_8_method_40_code 103 = .ok (.iaload, 1) := by decide +kernel
theorem dX6_round_104 : decode prog_8_method_40_code 104 = .ok (.i2l, 1) := by decide +kernel
theorem dX6_round_105 : decode prog_8_method_40_code 105 = .ok (.iload 5, 2) := by decide +kernel
theorem dX6_round_107 : decode prog_8_method_40_code 107 = .ok (.i2l, 1) := by decide +kernel
theorem dX6_round_108 : decode prog_8_method_40_code 108 = .ok (.lsub, 1) := by decide +kernel
theorem dX6_round_109 : decode prog_8_method_40_code 109 = .ok (.iload 4, 2) := by decide +kernel
theorem dX6_round_111 : decode prog_8_method_40_code 111 = .ok (.iload_n 3, 1) := by decide +kernel
theorem dX6_round_112 : decode prog_8_method_40_code 112 = .ok (.invokevirtual 125, 3) := by decide +kernel
theorem dX6_round_115 : decode prog_8_method_40_code 115 = .ok (.ireturn, 1) := by decide +kernel
theorem dX6_strip_0 : decode prog_8_method_41_code 0 = .ok (.iload_n 1, 1) := by decide +kernel
theorem dX6_strip_1 : decode prog_8_method_41_code 1 = .ok (.invokestatic 83, 3) := by decide +kernel
theorem dX6_strip_4 : decode prog_8_method_41_code 4 = .ok (.ifCond .eq 10, 3) := by decide +kernel
theorem dX6_strip_7 : decode prog_8_method_41_code 7 = .ok (.iload_n 2, 1) := by decide +kernel
theorem dX6_strip_8 : decode prog_8_method_41_code 8 = .ok (.invokestatic 83, 3) := by decide +kernel
theorem dX6_strip_11 : decode prog_8_method_41_code 11 = .ok (.ifCond .ne 5, 3) := by decide +kernel
theorem dX6_strip_14 : decode prog_8_method_41_code 14 = .ok (.iconst 0, 1) := by decide +kernel
theorem dX6_strip_15 : decode prog_8_method_41_code 15 = .ok (.ireturn, 1) := by decide +kernel
theorem dX6_strip_16 : decode prog_8_method_41_code 16 = .ok (.aload_n 0, 1) := by decide +kernel
theorem dX6_strip_17 : decode prog_8_method_41_code 17 = .ok (.iconst 0, 1) := by decide +kernel
theorem dX6_strip_18 : decode prog_8_method_41_code 18 = .ok (.iload_n 2, 1) := by decide +kernel
theorem dX6_strip_19 : decode prog_8_method_41_code 19 = .ok (.invokevirtual 89, 3) := by decide +kernel
theorem dX6_strip_22 : decode prog_8_method_41_code 22 = .ok (.aload_n 0, 1) := by decide +kernel
theorem dX6_strip_23 : decode prog_8_method_41_code 23 = .ok (.iconst 0, 1) := by decide +kernel
theorem dX6_strip_24 : decode prog_8_method_41_code 24 = .ok (.invokevirtual 133, 3) := by decide +kernel
theorem dX6_strip_27 : decode prog_8_method_41_code 27 = .ok (.istore_n 3, 1) := by decide +kernel
theorem dX6_strip_28 : decode prog_8_method_41_code 28 = .ok (.aload_n 0, 1) := by decide +kernel
theorem dX6_strip_29 : decode prog_8_method_41_code 29 = .ok (.iconst 0, 1) := by decide +kernel
theorem dX6_strip_30 : decode prog_8_method_41_code 30 = .ok (.iload_n 3, 1) := by decide +kernel
theorem dX6_strip_31 : decode prog_8_method_41_code 31 = .ok (.i2l, 1) := by decide +kernel
theorem dX6_strip_32 : decode prog_8_method_41_code 32 = .ok (.invokevirtual 79, 3) := by decide +kernel
theorem dX6_strip_35 : decode prog_8_method_41_code 35 = .ok (.aload_n 0, 1) := by decide +kernel
theorem dX6_strip_36 : decode prog_8_method_41_code 36 = .ok (.iload_n 1, 1) := by decide +kernel
theorem dX6_strip_37 : decode prog_8_method_41_code 37 = .ok (.iconst 0, 1) := by decide +kernel
theorem dX6_strip_38 : decode prog_8_method_41_code 38 = .ok (.aload_n 0, 1) := by decide +kernel
theorem dX6_strip_39 : decode prog_8_method_41_code 39 = .ok (.getfield 17, 3) := by decide +kernel
theorem dX6_strip_42 : decode prog_8_method_41_code 42 = .ok (.iload_n 2, 1) := by decide +kernel
theorem dX6_strip_43 : decode prog_8_method_41_code 43 = .ok (.iaload, 1) := by decide +kernel
theorem dX6_strip_44 : decode prog_8_method_41_code 44 = .ok (.aload_n 0, 1) := by decide +kernel
theorem dX6_strip_45 : decode prog_8_method_41_code 45 = .ok (.getfield 27, 3) := by decide +kernel
theorem dX6_strip_48 : decode prog_8_method_41_code 48 = .ok (.iconst 0, 1) := by decide +kernel
theorem dX6_strip_49 : decode prog_8_method_41_code 49 = .ok (.iaload, 1) := by decide +kernel
theorem dX6_strip_50 : decode prog_8_method_41_code 50 = .ok (.ifCond .ne 7, 3) := by decide +kernel
theorem dX6_strip_53 : decode prog_8_method_41_code 53 = .ok (.lconst 0, 1) := by decide +kernel
theorem dX6_strip_54 : decode prog_8_method_41_code 54 = .ok (.goto 13, 3) := by decide +kernel
theorem dX6_strip_57 : decode prog_8_method_41_code 57 = .ok (.aload_n 0, 1) := by decide +kernel
theorem dX6_strip_58 : decode prog_8_method_41_code 58 = .ok (.getfield 20, 3) := by decide +kernel
theorem dX6_strip_61 : decode prog_8_method_41_code 61 = .ok (.iload_n 2, 1) := by decide +kernel
theorem dX6_strip_62 : decode prog_8_method_41_code 62 = .ok (.iaload, 1) := by decide +kernel
theorem dX6_strip_63 : decode prog_8_method_41_code 63 = .ok (.i2l, 1) := by decide +kernel
theorem dX6_strip_64 : decode prog_8_method_41_code 64 = .ok (.iload_n 3, 1) := by decide +kernel
theorem dX6_strip_65 : decode prog_8_method_41_code 65 = .ok (.i2l, 1) := by decide +kernel
theorem dX6_strip_66 : decode prog_8_method_41_code 66 = .ok (.lsub, 1) := by decide +kernel
theorem dX6_strip_67 : decode prog_8_method_41_code 67 = .ok (.invokevirtual 75, 3) := by decide +kernel
theorem dX6_strip_70 : decode prog_8_method_41_code 70 = .ok (.ireturn, 1) := by decide +kernel
theorem dX6_move_0 : decode prog_8_method_42_code 0 = .ok (.iload_n 1, 1) := by decide +kernel
theorem dX6_move_1 : decode prog_8_method_42_code 1 = .ok (.invokestatic 83, 3) := by decide +kernel
theorem dX6_move_4 : decode prog_8_method_42_code 4 = .ok (.ifCond .eq 10, 3) := by decide +kernel
theorem dX6_move_7 : decode prog_8_method_42_code 7 = .ok (.iload_n 2, 1) := by decide +kernel
theorem dX6_move_8 : decode prog_8_method_42_code 8 = .ok (.invokestatic 83, 3) := by decide +kernel
theorem dX6_move_11 : decode prog_8_method_42_code 11 = .ok (.ifCond .ne 5, 3) := by decide +kernel
theorem dX6_move_14 : decode prog_8_method_42_code 14 = .ok (.iconst 0, 1) := by decide +kernel
theorem dX6_move_15 : decode prog_8_method_42_code 15 = .ok (.ireturn, 1) := by decide +kernel
theorem dX6_move_16 : decode prog_8_method_42_code 16 = .ok (.aload_n 0, 1) := by decide +kernel
theorem dX6_move_17 : decode prog_8_method_42_code 17 = .ok (.iconst 0, 1) := by decide +kernel
theorem dX6_move_18 : decode prog_8_method_42_code 18 = .ok (.iload_n 2, 1) := by decide +kernel
theorem dX6_move_19 : decode prog_8_method_42_code 19 = .ok (.invokevirtual 89, 3) := by decide +kernel
theorem dX6_move_22 : decode prog_8_method_42_code 22 = .ok (.aload_n 0, 1) := by decide +kernel
theorem dX6_move_23 : decode prog_8_method_42_code 23 = .ok (.iload_n 1, 1) := by decide +kernel
theorem dX6_move_24 : decode prog_8_method_42_code 24 = .ok (.iconst 0, 1) := by decide +kernel
theorem dX6_move_25 : decode prog_8_method_42_code 25 = .ok (.aload_n 0, 1) := by decide +kernel
theorem dX6_move_26 : decode prog_8_method_42_code 26 = .ok (.getfield 17, 3) := by decide +kernel
theorem dX6_move_29 : decode prog_8_method_42_code 29 = .ok (.iload_n 2, 1) := by decide +kernel
theorem dX6_move_30 : decode prog_8_method_42_code 30 = .ok (.iaload, 1) := by decide +kernel
theorem dX6_move_31 : decode prog_8_method_42_code 31 = .ok (.aload_n 0, 1) := by decide +kernel
theorem dX6_move_32 : decode prog_8_method_42_code 32 = .ok (.getfield 20, 3) := by decide +kernel
theorem dX6_move_35 : decode prog_8_method_42_code 35 = .ok (.iload_n 2, 1) := by decide +kernel
theorem dX6_move_36 : decode prog_8_method_42_code 36 = .ok (.iaload, 1) := by decide +kernel
theorem dX6_move_37 : decode prog_8_method_42_code 37 = .ok (.i2l, 1) := by decide +kernel
theorem dX6_move_38 : decode prog_8_method_42_code 38 = .ok (.iload_n 3, 1) := by decide +kernel
theorem dX6_move_39 : decode prog_8_method_42_code 39 = .ok (.i2l, 1) := by decide +kernel
theorem dX6_move_40 : decode prog_8_method_42_code 40 = .ok (.lsub, 1) := by decide +kernel
theorem dX6_move_41 : decode prog_8_method_42_code 41 = .ok (.invokevirtual 75, 3) := by decide +kernel
theorem dX6_move_44 : decode prog_8_method_42_code 44 = .ok (.ireturn, 1) := by decide +kernel
theorem dX6_compare_0 : decode prog_8_method_43_code 0 = .ok (.iload_n 1, 1) := by decide +kernel
theorem dX6_compare_1 : decode prog_8_method_43_code 1 = .ok (.invokestatic 83, 3) := by decide +kernel
theorem dX6_compare_4 : decode prog_8_method_43_code 4 = .ok (.ifCond .eq 10, 3) := by decide +kernel
theorem dX6_compare_7 : decode prog_8_method_43_code 7 = .ok (.iload_n 2, 1) := by decide +kernel
theorem dX6_compare_8 : decode prog_8_method_43_code 8 = .ok (.invokestatic 83, 3) := by decide +kernel
theorem dX6_compare_11 : decode prog_8_method_43_code 11 = .ok (.ifCond .ne 6, 3) := by decide +kernel
theorem dX6_compare_14 : decode prog_8_method_43_code 14 = .ok (.bipush (-2), 2) := by decide +kernel
theorem dX6_compare_16 : decode prog_8_method_43_code 16 = .ok (.ireturn, 1) := by decide +kernel
theorem dX6_compare_17 : decode prog_8_method_43_code 17 = .ok (.aload_n 0, 1) := by decide +kernel
theorem dX6_compare_18 : decode prog_8_method_43_code 18 = .ok (.getfield 17, 3) := by decide +kernel
theorem dX6_compare_21 : decode prog_8_method_43_code 21 = .ok (.iload_n 1, 1) := by decide +kernel
theorem dX6_compare_22 : decode prog_8_method_43_code 22 = .ok (.iaload, 1) := by decide +kernel
theorem dX6_compare_23 : decode prog_8_method_43_code 23 = .ok (.aload_n 0, 1) := by decide +kernel
theorem dX6_compare_24 : decode prog_8_method_43_code 24 = .ok (.getfield 17, 3) := by decide +kernel
theorem dX6_compare_27 : decode prog_8_method_43_code 27 = .ok (.iload_n 2, 1) := by decide +kernel
theorem dX6_compare_28 : decode prog_8_method_43_code 28 = .ok (.iaload, 1) := by decide +kernel
theorem dX6_compare_29 : decode prog_8_method_43_code 29 = .ok (.if_icmp .eq 24, 3) := by decide +kernel
theorem dX6_compare_32 : decode prog_8_method_43_code 32 = .ok (.aload_n 0, 1) := by decide +kernel
theorem dX6_compare_33 : decode prog_8_method_43_code 33 = .ok (.getfield 17, 3) := by decide +kernel
theorem dX6_compare_36 : decode prog_8_method_43_code 36 = .ok (.iload_n 1, 1) := by decide +kernel
theorem dX6_compare_37 : decode prog_8_method_43_code 37 = .ok (.iaload, 1) := by decide +kernel
theorem dX6_compare_38 : decode prog_8_method_43_code 38 = .ok (.aload_n 0, 1) := by decide +kernel
theorem dX6_compare_39 : decode prog_8_method_43_code 39 = .ok (.getfield 17, 3) := by decide +kernel
theorem dX6_compare_42 : decode prog_8_method_43_code 42 = .ok (.iload_n 2, 1) := by decide +kernel
theorem dX6_compare_43 : decode prog_8_method_43_code 43 = .ok (.iaload, 1) := by decide +kernel
theorem dX6_compare_44 : decode prog_8_method_43_code 44 = .ok (.if_icmp .ge 7, 3) := by decide +kernel
theorem dX6_compare_47 : decode prog_8_method_43_code 47 = .ok (.iconst (-1), 1) := by decide +kernel
theorem dX6_compare_48 : decode prog_8_method_43_code 48 = .ok (.goto 4, 3) := by decide +kernel
theorem dX6_compare_51 : decode prog_8_method_43_code 51 = .ok (.iconst 1, 1) := by decide +kernel
theorem dX6_compare_52 : decode prog_8_method_43_code 52 = .ok (.ireturn, 1) := by decide +kernel
theorem dX6_compare_53 : decode prog_8_method_43_code 53 = .ok (.aload_n 0, 1) := by decide +kernel
theorem dX6_compare_54 : decode prog_8_method_43_code 54 = .ok (.getfield 17, 3) := by decide +kernel
theorem dX6_compare_57 : decode prog_8_method_43_code 57 = .ok (.iload_n 1, 1) := by decide +kernel
theorem dX6_compare_58 : decode prog_8_method_43_code 58 = .ok (.iaload, 1) := by decide +kernel
theorem dX6_compare_59 : decode prog_8_method_43_code 59 = .ok (.ifCond .ne 5, 3) := by decide +kernel
theorem dX6_compare_62 : decode prog_8_method_43_code 62 = .ok (.iconst 0, 1) := by decide +kernel
theorem dX6_compare_63 : decode prog_8_method_43_code 63 = .ok (.ireturn, 1) := by decide +kernel
theorem dX6_compare_64 : decode prog_8_method_43_code 64 = .ok (.aload_n 0, 1) := by decide +kernel
theorem dX6_compare_65 : decode prog_8_method_43_code 65 = .ok (.getfield 14, 3) := by decide +kernel
theorem dX6_compare_68 : decode prog_8_method_43_code 68 = .ok (.iload_n 1, 1) := by decide +kernel
theorem dX6_compare_69 : decode prog_8_method_43_code 69 = .ok (.iaload, 1) := by decide +kernel
theorem dX6_compare_70 : decode prog_8_method_43_code 70 = .ok (.i2l, 1) := by decide +kernel
theorem dX6_compare_71 : decode prog_8_method_43_code 71 = .ok (.aload_n 0, 1) := by decide +kernel
theorem dX6_compare_72 : decode prog_8_method_43_code 72 = .ok (.getfield 20, 3) := by decide +kernel
theorem dX6_compare_75 : decode prog_8_method_43_code 75 = .ok (.iload_n 1, 1) := by decide +kernel
theorem dX6_compare_76 : decode prog_8_method_43_code 76 = .ok (.iaload, 1) := by decide +kernel
theorem dX6_compare_77 : decode prog_8_method_43_code 77 = .ok (.i2l, 1) := by decide +kernel
theorem dX6_compare_78 : decode prog_8_method_43_code 78 = .ok (.lsub, 1) := by decide +kernel
theorem dX6_compare_79 : decode prog_8_method_43_code 79 = .ok (.lstore_n 3, 1) := by decide +kernel
theorem dX6_compare_80 : decode prog_8_method_43_code 80 = .ok (.aload_n 0, 1) := by decide +kernel
theorem dX6_compare_81 : decode prog_8_method_43_code 81 = .ok (.getfield 14, 3) := by decide +kernel
theorem dX6_compare_84 : decode prog_8_method_43_code 84 = .ok (.iload_n 2, 1) := by decide +kernel
theorem dX6_compare_85 : decode prog_8_method_43_code 85 = .ok (.iaload, 1) := by decide +kernel
theorem dX6_compare_86 : decode prog_8_method_43_code 86 = .ok (.i2l, 1) := by decide +kernel
theorem dX6_compare_87 : decode prog_8_method_43_code 87 = .ok (.aload_n 0, 1) := by decide +kernel
theorem dX6_compare_88 : decode prog_8_method_43_code 88 = .ok (.getfield 20, 3) := by decide +kernel
theorem dX6_compare_91 : decode prog_8_method_43_code 91 = .ok (.iload_n 2, 1) := by decide +kernel
theorem dX6_compare_92 : decode prog_8_method_43_code 92 = .ok (.iaload, 1) := by decide +kernel
theorem dX6_compare_93 : decode prog_8_method_43_code 93 = .ok (.i2l, 1) := by decide +kernel
theorem dX6_compare_94 : decode prog_8_method_43_code 94 = .ok (.lsub, 1) := by decide +kernel
theorem dX6_compare_95 : decode prog_8_method_43_code 95 = .ok (.lstore 5, 2) := by decide +kernel
theorem dX6_compare_97 : decode prog_8_method_43_code 97 = .ok (.lload_n 3, 1) := by decide +kernel
theorem dX6_compare_98 : decode prog_8_method_43_code 98 = .ok (.lload 5, 2) := by decide +kernel
theorem dX6_compare_100 : decode prog_8_method_43_code 100 = .ok (.lcmp, 1) := by decide +kernel
theorem dX6_compare_101 : decode prog_8_method_43_code 101 = .ok (.ifCond .ge 7, 3) := by decide +kernel
theorem dX6_compare_104 : decode prog_8_method_43_code 104 = .ok (.iconst (-1), 1) := by decide +kernel
theorem dX6_compare_105 : decode prog_8_method_43_code 105 = .ok (.goto 15, 3) := by decide +kernel
theorem dX6_compare_108 : decode prog_8_method_43_code 108 = .ok (.lload_n 3, 1) := by decide +kernel
theorem dX6_compare_109 : decode prog_8_method_43_code 109 = .ok (.lload 5, 2) := by decide +kernel
theorem dX6_compare_111 : decode prog_8_method_43_code 111 = .ok (.lcmp, 1) := by decide +kernel
theorem dX6_compare_112 : decode prog_8_method_43_code 112 = .ok (.ifCond .le 7, 3) := by decide +kernel
theorem dX6_compare_115 : decode prog_8_method_43_code 115 = .ok (.iconst 1, 1) := by decide +kernel
theorem dX6_compare_116 : decode prog_8_method_43_code 116 = .ok (.goto 4, 3) := by decide +kernel
theorem dX6_compare_119 : decode prog_8_method_43_code 119 = .ok (.iconst 0, 1) := by decide +kernel
theorem dX6_compare_120 : decode prog_8_method_43_code 120 = .ok (.istore 7, 2) := by decide +kernel
theorem dX6_compare_122 : decode prog_8_method_43_code 122 = .ok (.iconst 1, 1) := by decide +kernel
theorem dX6_compare_123 : decode prog_8_method_43_code 123 = .ok (.istore 8, 2) := by decide +kernel
theorem dX6_compare_125 : decode prog_8_method_43_code 125 = .ok (.iload 7, 2) := by decide +kernel
theorem dX6_compare_127 : decode prog_8_method_43_code 127 = .ok (.ifCond .ne 130, 3) := by decide +kernel
theorem dX6_compare_130 : decode prog_8_method_43_code 130 = .ok (.iload 8, 2) := by decide +kernel
theorem dX6_compare_132 : decode prog_8_method_43_code 132 = .ok (.aload_n 0, 1) := by decide +kernel
theorem dX6_compare_133 : decode prog_8_method_43_code 133 = .ok (.getfield 14, 3) := by decide +kernel
theorem dX6_compare_136 : decode prog_8_method_43_code 136 = .ok (.iload_n 1, 1) := by decide +kernel
theorem dX6_compare_137 : decode prog_8_method_43_code 137 = .ok (.iaload, 1) := by decide +kernel
theorem dX6_compare_138 : decode prog_8_method_43_code 138 = .ok (.if_icmp .le 14, 3) := by decide +kernel
theorem dX6_compare_141 : decode prog_8_method_43_code 141 = .ok (.iload 8, 2) := by decide +kernel
theorem dX6_compare_143 : decode prog_8_method_43_code 143 = .ok (.aload_n 0, 1) := by decide +kernel
theorem dX6_compare_144 : decode prog_8_method_43_code 144 = .ok (.getfield 14, 3) := by decide +kernel
theorem dX6_compare_147 : decode prog_8_method_43_code 147 = .ok (.iload_n 2, 1) := by decide +kernel
theorem dX6_compare_148 : decode prog_8_method_43_code 148 = .ok (.iaload, 1) := by decide +kernel
theorem dX6_compare_149 : decode prog_8_method_43_code 149 = .ok (.if_icmp .gt 108, 3) := by decide +kernel
theorem dX6_compare_152 : decode prog_8_method_43_code 152 = .ok (.iload 8, 2) := by decide +kernel
theorem dX6_compare_154 : decode prog_8_method_43_code 154 = .ok (.aload_n 0, 1) := by decide +kernel
theorem dX6_compare_155 : decode prog_8_method_43_code 155 = .ok (.getfield 14, 3) := by decide +kernel
theorem dX6_compare_158 : decode prog_8_method_43_code 158 = .ok (.iload_n 1, 1) := by decide +kernel
theorem dX6_compare_159 : decode prog_8_method_43_code 159 = .ok (.iaload, 1) := by decide +kernel
theorem dX6_compare_160 : decode prog_8_method_43_code 160 = .ok (.if_icmp .gt 26, 3) := by decide +kernel
theorem dX6_compare_163 : decode prog_8_method_43_code 163 = .ok (.aload_n 0, 1) := by decide +kernel
theorem dX6_compare_164 : decode prog_8_method_43_code 164 = .ok (.getfield 8, 3) := by decide +kernel
theorem dX6_compare_167 : decode prog_8_method_43_code 167 = .ok (.sipush 4096, 3) := by decide +kernel
theorem dX6_compare_170 : decode prog_8_method_43_code 170 = .ok (.iload_n 1, 1) := by decide +kernel
theorem dX6_compare_171 : decode prog_8_method_43_code 171 = .ok (.imul, 1) := by decide +kernel
theorem dX6_compare_172 : decode prog_8_method_43_code 172 = .ok (.aload_n 0, 1) := by decide +kernel
theorem dX6_compare_173 : decode prog_8_method_43_code 173 = .ok (.getfield 14, 3) := by decide +kernel
theorem dX6_compare_176 : decode prog_8_method_43_code 176 = .ok (.iload_n 1, 1) := by decide +kernel
theorem dX6_compare_177 : decode prog_8_method_43_code 177 = .ok (.iaload, 1) := by decide +kernel
theorem dX6_compare_178 : decode prog_8_method_43_code 178 = .ok (.iadd, 1) := by decide +kernel
theorem dX6_compare_179 : decode prog_8_method_43_code 179 = .ok (.iload 8, 2) := by decide +kernel
theorem dX6_compare_181 : decode prog_8_method_43_code 181 = .ok (.isub, 1) := by decide +kernel
theorem dX6_compare_182 : decode prog_8_method_43_code 182 = .ok (.iaload, 1) := by decide +kernel
theorem dX6_compare_183 : decode prog_8_method_43_code 183 = .ok (.goto 4, 3) := by decide +kernel
theorem dX6_compare_186 : decode prog_8_method_43_code 186 = .ok (.iconst 0, 1) := by decide +kernel
theorem dX6_compare_187 : decode prog_8_method_43_code 187 = .ok (.istore 9, 2) := by decide +kernel
theorem dX6_compare_189 : decode prog_8_method_43_code 189 = .ok (.iload 8, 2) := by decide +kernel
theorem dX6_compare_191 : decode prog_8_method_43_code 191 = .ok (.aload_n 0, 1) := by decide +kernel
theorem dX6_compare_192 : decode prog_8_method_43_code 192 = .ok (.getfield 14, 3) := by decide +kernel
theorem dX6_compare_195 : decode prog_8_method_43_code 195 = .ok (.iload_n 2, 1) := by decide +kernel
theorem dX6_compare_196 : decode prog_8_method_43_code 196 = .ok (.iaload, 1) := by decide +kernel
theorem dX6_compare_197 : decode prog_8_method_43_code 197 = .ok (.if_icmp .gt 26, 3) := by decide +kernel
theorem dX6_compare_200 : decode prog_8_method_43_code 200 = .ok (.aload_n 0, 1) := by decide +kernel
theorem dX6_compare_201 : decode prog_8_method_43_code 201 = .ok (.getfield 8, 3) := by decide +kernel
theorem dX6_compare_204 : decode prog_8_method_43_code 204 = .ok (.sipush 4096, 3) := by decide +kernel
theorem dX6_compare_207 : decode prog_8_method_43_code 207 = .ok (.iload_n 2, 1) := by decide +kernel
theorem dX6_compare_208 : decode prog_8_method_43_code 208 = .ok (.imul, 1) := by decide +kernel
theorem dX6_compare_209 : decode prog_8_method_43_code 209 = .ok (.aload_n 0, 1) := by decide +kernel
theorem dX6_compare_210 : decode prog_8_method_43_code 210 = .ok (.getfield 14, 3) := by decide +kernel
theorem dX6_compare_213 : decode prog_8_method_43_code 213 = .ok (.iload_n 2, 1) := by decide +kernel
theorem dX6_compare_214 : decode prog_8_method_43_code 214 = .ok (.iaload, 1) := by decide +kernel
theorem dX6_compare_215 : decode prog_8_method_43_code 215 = .ok (.iadd, 1) := by decide +kernel
theorem dX6_compare_216 : decode prog_8_method_43_code 216 = .ok (.iload 8, 2) := by decide +kernel
theorem dX6_compare_218 : decode prog_8_method_43_code 218 = .ok (.isub, 1) := by decide +kernel
theorem dX6_compare_219 : decode prog_8_method_43_code 219 = .ok (.iaload, 1) := by decide +kernel
theorem dX6_compare_220 : decode prog_8_method_43_code 220 = .ok (.goto 4, 3) := by decide +kernel
theorem dX6_compare_223 : decode prog_8_method_43_code 223 = .ok (.iconst 0, 1) := by decide +kernel
theorem dX6_compare_224 : decode prog_8_method_43_code 224 = .ok (.istore 10, 2) := by decide +kernel
theorem dX6_compare_226 : decode prog_8_method_43_code 226 = .ok (.iload 9, 2) := by decide +kernel
theorem dX6_compare_228 : decode prog_8_method_43_code 228 = .ok (.iload 10, 2) := by decide +kernel
theorem dX6_compare_230 : decode prog_8_method_43_code 230 = .ok (.if_icmp .ge 7, 3) := by decide +kernel
theorem dX6_compare_233 : decode prog_8_method_43_code 233 = .ok (.iconst (-1), 1) := by decide +kernel
theorem dX6_compare_234 : decode prog_8_method_43_code 234 = .ok (.goto 15, 3) := by decide +kernel
theorem dX6_compare_237 : decode prog_8_method_43_code 237 = .ok (.iload 9, 2) := by decide +kernel
theorem dX6_compare_239 : decode prog_8_method_43_code 239 = .ok (.iload 10, 2) := by decide +kernel
theorem dX6_compare_241 : decode prog_8_method_43_code 241 = .ok (.if_icmp .le 7, 3) := by decide +kernel
theorem dX6_compare_244 : decode prog_8_method_43_code 244 = .ok (.iconst 1, 1) := by decide +kernel
theorem dX6_compare_245 : decode prog_8_method_43_code 245 = .ok (.goto 4, 3) := by decide +kernel
theorem dX6_compare_248 : decode prog_8_method_43_code 248 = .ok (.iconst 0, 1) := by decide +kernel
theorem dX6_compare_249 : decode prog_8_method_43_code 249 = .ok (.istore 7, 2) := by decide +kernel
theorem dX6_compare_251 : decode prog_8_method_43_code 251 = .ok (.iinc 8 1, 3) := by decide +kernel
theorem dX6_compare_254 : decode prog_8_method_43_code 254 = .ok (.goto (-129), 3) := by decide +kernel
theorem dX6_compare_257 : decode prog_8_method_43_code 257 = .ok (.aload_n 0, 1) := by decide +kernel
theorem dX6_compare_258 : decode prog_8_method_43_code 258 = .ok (.getfield 17, 3) := by decide +kernel
theorem dX6_compare_261 : decode prog_8_method_43_code 261 = .ok (.iload_n 1, 1) := by decide +kernel
theorem dX6_compare_262 : decode prog_8_method_43_code 262 = .ok (.iaload, 1) := by decide +kernel
theorem dX6_compare_263 : decode prog_8_method_43_code 263 = .ok (.iload 7, 2) := by decide +kernel
theorem dX6_compare_265 : decode prog_8_method_43_code 265 = .ok (.imul, 1) := by decide +kernel
theorem dX6_compare_266 : decode prog_8_method_43_code 266 = .ok (.ireturn, 1) := by decide +kernel
theorem dX6_sign_0 : decode prog_8_method_44_code 0 = .ok (.iload_n 1, 1) := by decide +kernel
theorem dX6_sign_1 : decode prog_8_method_44_code 1 = .ok (.invokestatic 83, 3) := by decide +kernel
theorem dX6_sign_4 : decode prog_8_method_44_code 4 = .ok (.ifCond .eq 12, 3) := by decide +kernel
theorem dX6_sign_7 : decode prog_8_method_44_code 7 = .ok (.aload_n 0, 1) := by decide +kernel
theorem dX6_sign_8 : decode prog_8_method_44_code 8 = .ok (.getfield 17, 3) := by decide +kernel
theorem dX6_sign_11 : decode prog_8_method_44_code 11 = .ok (.iload_n 1, 1) := by decide +kernel
theorem dX6_sign_12 : decode prog_8_method_44_code 12 = .ok (.iaload, 1) := by decide +kernel
theorem dX6_sign_13 : decode prog_8_method_44_code 13 = .ok (.goto 5, 3) := by decide +kernel
theorem dX6_sign_16 : decode prog_8_method_44_code 16 = .ok (.bipush (-2), 2) := by decide +kernel
theorem dX6_sign_18 : decode prog_8_method_44_code 18 = .ok (.ireturn, 1) := by decide +kernel
theorem dX6_digitsOf_0 : decode prog_8_method_45_code 0 = .ok (.aload_n 0, 1) := by decide +kernel
theorem dX6_digitsOf_1 : decode prog_8_method_45_code 1 = .ok (.getfield 14, 3) := by decide +kernel
theorem dX6_digitsOf_4 : decode prog_8_method_45_code 4 = .ok (.iload_n 1, 1) := by decide +kernel
theorem dX6_digitsOf_5 : decode prog_8_method_45_code 5 = .ok (.iaload, 1) := by decide +kernel
theorem dX6_digitsOf_6 : decode prog_8_method_45_code 6 = .ok (.ifCond .ne 7, 3) := by decide +kernel
theorem dX6_digitsOf_9 : decode prog_8_method_45_code 9 = .ok (.iconst 1, 1) := by decide +kernel
theorem dX6_digitsOf_10 : decode prog_8_method_45_code 10 = .ok (.goto 9, 3) := by decide +kernel
theorem dX6_digitsOf_13 : decode prog_8_method_45_code 13 = .ok (.aload_n 0, 1) := by decide +kernel
theorem dX6_digitsOf_14 : decode prog_8_method_45_code 14 = .ok (.getfield 14, 3) := by decide +kernel
theorem dX6_digitsOf_17 : decode prog_8_method_45_code 17 = .ok (.iload_n 1, 1) := by decide +kernel
theorem dX6_digitsOf_18 : decode prog_8_method_45_code 18 = .ok (.iaload, 1) := by decide +kernel
theorem dX6_digitsOf_19 : decode prog_8_method_45_code 19 = .ok (.ireturn, 1) := by decide +kernel
theorem dX6_precision_0 : decode prog_8_method_46_code 0 = .ok (.iload_n 1, 1) := by decide +kernel
theorem dX6_precision_1 : decode prog_8_method_46_code 1 = .ok (.invokestatic 83, 3) := by decide +kernel
theorem dX6_precision_4 : decode prog_8_method_46_code 4 = .ok (.ifCond .eq 11, 3) := by decide +kernel
theorem dX6_precision_7 : decode prog_8_method_46_code 7 = .ok (.aload_n 0, 1) := by decide +kernel
theorem dX6_precision_8 : decode prog_8_method_46_code 8 = .ok (.iload_n 1, 1) := by decide +kernel
theorem dX6_precision_9 : decode prog_8_method_46_code 9 = .ok (.invokevirtual 152, 3) := by decide +kernel
theorem dX6_precision_12 : decode prog_8_method_46_code 12 = .ok (.goto 4, 3) := by decide +kernel
theorem dX6_precision_15 : decode prog_8_method_46_code 15 = .ok (.iconst (-1), 1) := by decide +kernel
theorem dX6_precision_16 : decode prog_8_method_46_code 16 = .ok (.ireturn, 1) := by decide +kernel
theorem dX6_scale_0 : decode prog_8_method_47_code 0 = .ok (.iload_n 1, 1) := by decide +kernel
theorem dX6_scale_1 : decode prog_8_method_47_code 1 = .ok (.invokestatic 83, 3) := by decide +kernel
theorem dX6_scale_4 : decode prog_8_method_47_code 4 = .ok (.ifCond .eq 12, 3) := by decide +kernel
theorem dX6_scale_7 : decode prog_8_method_47_code 7 = .ok (.aload_n 0, 1) := by decide +kernel
theorem dX6_scale_8 : decode prog_8_method_47_code 8 = .ok (.getfield 20, 3) := by decide +kernel
theorem dX6_scale_11 : decode prog_8_method_47_code 11 = .ok (.iload_n 1, 1) := by decide +kernel
theorem dX6_scale_12 : decode prog_8_method_47_code 12 = .ok (.iaload, 1) := by decide +kernel
theorem dX6_scale_13 : decode prog_8_method_47_code 13 = .ok (.goto 4, 3) := by decide +kernel
theorem dX6_scale_16 : decode prog_8_method_47_code 16 = .ok (.iconst 0, 1) := by decide +kernel
theorem dX6_scale_17 : decode prog_8_method_47_code 17 = .ok (.ireturn, 1) := by decide +kernel
theorem dX6_digit_0 : decode prog_8_method_48_code 0 = .ok (.iload_n 1, 1) := by decide +kernel
theorem dX6_digit_1 : decode prog_8_method_48_code 1 = .ok (.invokestatic 83, 3) := by decide +kernel
theorem dX6_digit_4 : decode prog_8_method_48_code 4 = .ok (.ifCond .eq 16, 3) := by decide +kernel
theorem dX6_digit_7 : decode prog_8_method_48_code 7 = .ok (.iload_n 2, 1) := by decide +kernel
theorem dX6_digit_8 : decode prog_8_method_48_code 8 = .ok (.ifCond .lt 12, 3) := by decide +kernel
theorem dX6_digit_11 : decode prog_8_method_48_code 11 = .ok (.iload_n 2, 1) := by decide +kernel
theorem dX6_digit_12 : decode prog_8_method_48_code 12 = .ok (.aload_n 0, 1) := by decide +kernel
theorem dX6_digit_13 : decode prog_8_method_48_code 13 = .ok (.iload_n 1, 1) := by decide +kernel
theorem dX6_digit_14 : decode prog_8_method_48_code 14 = .ok (.invokevirtual 152, 3) := by decide +kernel
theorem dX6_digit_17 : decode prog_8_method_48_code 17 = .ok (.if_icmp .lt 5, 3) := by decide +kernel
theorem dX6_digit_20 : decode prog_8_method_48_code 20 = .ok (.iconst (-1), 1) := by decide +kernel
theorem dX6_digit_21 : decode prog_8_method_48_code 21 = .ok (.ireturn, 1) := by decide +kernel
theorem dX6_digit_22 : decode prog_8_method_48_code 22 = .ok (.aload_n 0, 1) := by decide +kernel
theorem dX6_digit_23 : decode prog_8_method_48_code 23 = .ok (.getfield 14, 3) := by decide +kernel
theorem dX6_digit_26 : decode prog_8_method_48_code 26 = .ok (.iload_n 1, 1) := by decide +kernel
theorem dX6_digit_27 : decode prog_8_method_48_code 27 = .ok (.iaload, 1) := by decide +kernel
theorem dX6_digit_28 : decode prog_8_method_48_code 28 = .ok (.ifCond .ne 7, 3) := by decide +kernel
theorem dX6_digit_31 : decode prog_8_method_48_code 31 = .ok (.iconst 0, 1) := by decide +kernel
theorem dX6_digit_32 : decode prog_8_method_48_code 32 = .ok (.goto 15, 3) := by decide +kernel
theorem dX6_digit_35 : decode prog_8_method_48_code 35 = .ok (.aload_n 0, 1) := by decide +kernel
theorem dX6_digit_36 : decode prog_8_method_48_code 36 = .ok (.getfield 8, 3) := by decide +kernel
theorem dX6_digit_39 : decode prog_8_method_48_code 39 = .ok (.sipush 4096, 3) := by decide +kernel
theorem dX6_digit_42 : decode prog_8_method_48_code 42 = .ok (.iload_n 1, 1) := by decide +kernel
theorem dX6_digit_43 : decode prog_8_method_48_code 43 = .ok (.imul, 1) := by decide +kernel
theorem dX6_digit_44 : decode prog_8_method_48_code 44 = .ok (.iload_n 2, 1) := by decide +kernel
theorem dX6_digit_45 : decode prog_8_method_48_code 45 = .ok (.iadd, 1) := by decide +kernel
theorem dX6_digit_46 : decode prog_8_method_48_code 46 = .ok (.iaload, 1) := by decide +kernel
theorem dX6_digit_47 : decode prog_8_method_48_code 47 = .ok (.ireturn, 1) := by decide +kernel
theorem dX6_type_0 : decode prog_8_method_49_code 0 = .ok (.iconst 0, 1) := by decide +kernel
theorem dX6_type_1 : decode prog_8_method_49_code 1 = .ok (.istore_n 3, 1) := by decide +kernel
theorem dX6_type_2 : decode prog_8_method_49_code 2 = .ok (.iconst 1, 1) := by decide +kernel
theorem dX6_type_3 : decode prog_8_method_49_code 3 = .ok (.istore 4, 2) := by decide +kernel
theorem dX6_type_5 : decode prog_8_method_49_code 5 = .ok (.iconst 0, 1) := by decide +kernel
theorem dX6_type_6 : decode prog_8_method_49_code 6 = .ok (.istore 5, 2) := by decide +kernel
theorem dX6_type_8 : decode prog_8_method_49_code 8 = .ok (.iload 5, 2) := by decide +kernel
theorem dX6_type_10 : decode prog_8_method_49_code 10 = .ok (.bipush 8, 2) := by decide +kernel
theorem dX6_type_12 : decode prog_8_method_49_code 12 = .ok (.if_icmp .ge 58, 3) := by decide +kernel
theorem dX6_type_15 : decode prog_8_method_49_code 15 = .ok (.lload_n 1, 1) := by decide +kernel
theorem dX6_type_16 : decode prog_8_method_49_code 16 = .ok (.bipush 8, 2) := by decide +kernel
theorem dX6_type_18 : decode prog_8_method_49_code 18 = .ok (.iload 5, 2) := by decide +kernel
theorem dX6_type_20 : decode prog_8_method_49_code 20 = .ok (.imul, 1) := by decide +kernel
theorem dX6_type_21 : decode prog_8_method_49_code 21 = .ok (.lshr, 1) := by decide +kernel
theorem dX6_type_22 : decode prog_8_method_49_code 22 = .ok (.ldc2_w 155, 3) := by decide +kernel
theorem dX6_type_25 : decode prog_8_method_49_code 25 = .ok (.land, 1) := by decide +kernel
theorem dX6_type_26 : decode prog_8_method_49_code 26 = .ok (.lstore 6, 2) := by decide +kernel
theorem dX6_type_28 : decode prog_8_method_49_code 28 = .ok (.iload_n 3, 1) := by decide +kernel
theorem dX6_type_29 : decode prog_8_method_49_code 29 = .ok (.lload 6, 2) := by decide +kernel
theorem dX6_type_31 : decode prog_8_method_49_code 31 = .ok (.lconst 0, 1) := by decide +kernel
theorem dX6_type_32 : decode prog_8_method_49_code 32 = .ok (.lcmp, 1) := by decide +kernel
theorem dX6_type_33 : decode prog_8_method_49_code 33 = .ok (.ifCond .eq 7, 3) := by decide +kernel
theorem dX6_type_36 : decode prog_8_method_49_code 36 = .ok (.iconst 1, 1) := by decide +kernel
theorem dX6_type_37 : decode prog_8_method_49_code 37 = .ok (.goto 4, 3) := by decide +kernel
theorem dX6_type_40 : decode prog_8_method_49_code 40 = .ok (.iconst 0, 1) := by decide +kernel
theorem dX6_type_41 : decode prog_8_method_49_code 41 = .ok (.iadd, 1) := by decide +kernel
theorem dX6_type_42 : decode prog_8_method_49_code 42 = .ok (.istore_n 3, 1) := by decide +kernel
theorem dX6_type_43 : decode prog_8_method_49_code 43 = .ok (.iload 4, 2) := by decide +kernel
theorem dX6_type_45 : decode prog_8_method_49_code 45 = .ok (.ifCond .eq 16, 3) := by decide +kernel
theorem dX6_type_48 : decode prog_8_method_49_code 48 = .ok (.lload 6, 2) := by decide +kernel
theorem dX6_type_50 : decode prog_8_method_49_code 50 = .ok (.ldc2_w 157, 3) := by decide +kernel
theorem dX6_type_53 : decode prog_8_method_49_code 53 = .ok (.lcmp, 1) := by decide +kernel
theorem dX6_type_54 : decode prog_8_method_49_code 54 = .ok (.ifCond .ge 7, 3) := by decide +kernel
theorem dX6_type_57 : decode prog_8_method_49_code 57 = .ok (.iconst 1, 1) := by decide +kernel
theorem dX6_type_58 : decode prog_8_method_49_code 58 = .ok (.goto 4, 3) := by decide +kernel
theorem dX6_type_61 : decode prog_8_method_49_code 61 = .ok (.iconst 0, 1) := by decide +kernel
theorem dX6_type_62 : decode prog_8_method_49_code 62 = .ok (.istore 4, 2) := by decide +kernel
theorem dX6_type_64 : decode prog_8_method_49_code 64 = .ok (.iinc 5 1, 3) := by decide +kernel
theorem dX6_type_67 : decode prog_8_method_49_code 67 = .ok (.goto (-59), 3) := by decide +kernel
theorem dX6_type_70 : decode prog_8_method_49_code 70 = .ok (.iload 4, 2) := by decide +kernel
theorem dX6_type_72 : decode prog_8_method_49_code 72 = .ok (.ifCond .eq 15, 3) := by decide +kernel
theorem dX6_type_75 : decode prog_8_method_49_code 75 = .ok (.aload_n 0, 1) := by decide +kernel
theorem dX6_type_76 : decode prog_8_method_49_code 76 = .ok (.getfield 159, 3) := by decide +kernel
theorem dX6_type_79 : decode prog_8_method_49_code 79 = .ok (.iload_n 3, 1) := by decide +kernel
theorem dX6_type_80 : decode prog_8_method_49_code 80 = .ok (.iadd, 1) := by decide +kernel
theorem dX6_type_81 : decode prog_8_method_49_code 81 = .ok (.sipush 6000, 3) := by decide +kernel
theorem dX6_type_84 : decode prog_8_method_49_code 84 = .ok (.if_icmp .le 5, 3) := by decide +kernel
theorem dX6_type_87 : decode prog_8_method_49_code 87 = .ok (.iconst 0, 1) := by decide +kernel
theorem dX6_type_88 : decode prog_8_method_49_code 88 = .ok (.ireturn, 1) := by decide +kernel
theorem dX6_type_89 : decode prog_8_method_49_code 89 = .ok (.bipush 7, 2) := by decide +kernel
theorem dX6_type_91 : decode prog_8_method_49_code 91 = .ok (.istore 5, 2) := by decide +kernel
theorem dX6_type_93 : decode prog_8_method_49_code 93 = .ok (.iload 5, 2) := by decide +kernel
theorem dX6_type_95 : decode prog_8_method_49_code 95 = .ok (.ifCond .lt 52, 3) := by decide +kernel
theorem dX6_type_98 : decode prog_8_method_49_code 98 = .ok (.lload_n 1, 1) := by decide +kernel
theorem dX6_type_99 : decode prog_8_method_49_code 99 = .ok (.bipush 8, 2) := by decide +kernel
theorem dX6_type_101 : decode prog_8_method_49_code 101 = .ok (.iload 5, 2) := by decide +kernel
theorem dX6_type_103 : decode prog_8_method_49_code 103 = .ok (.imul, 1) := by decide +kernel
theorem dX6_type_104 : decode prog_8_method_49_code 104 = .ok (.lshr, 1) := by decide +kernel
theorem dX6_type_105 : decode prog_8_method_49_code 105 = .ok (.ldc2_w 155, 3) := by decide +kernel
theorem dX6_type_108 : decode prog_8_method_49_code 108 = .ok (.land, 1) := by decide +kernel
theorem dX6_type_109 : decode prog_8_method_49_code 109 = .ok (.l2i, 1) := by decide +kernel
theorem dX6_type_110 : decode prog_8_method_49_code 110 = .ok (.istore 6, 2) := by decide +kernel
theorem dX6_type_112 : decode prog_8_method_49_code 112 = .ok (.iload 6, 2) := by decide +kernel
theorem dX6_type_114 : decode prog_8_method_49_code 114 = .ok (.ifCond .ne 6, 3) := by decide +kernel
theorem dX6_type_117 : decode prog_8_method_49_code 117 = .ok (.goto 24, 3) := by decide +kernel
theorem dX6_type_120 : decode prog_8_method_49_code 120 = .ok (.aload_n 0, 1) := by decide +kernel
theorem dX6_type_121 : decode prog_8_method_49_code 121 = .ok (.getfield 30, 3) := by decide +kernel
theorem dX6_type_124 : decode prog_8_method_49_code 124 = .ok (.aload_n 0, 1) := by decide +kernel
theorem dX6_type_125 : decode prog_8_method_49_code 125 = .ok (.getfield 159, 3) := by decide +kernel
theorem dX6_type_128 : decode prog_8_method_49_code 128 = .ok (.iload 6, 2) := by decide +kernel
theorem dX6_type_130 : decode prog_8_method_49_code 130 = .ok (.iastore, 1) := by decide +kernel
theorem dX6_type_131 : decode prog_8_method_49_code 131 = .ok (.aload_n 0, 1) := by decide +kernel
theorem dX6_type_132 : decode prog_8_method_49_code 132 = .ok (.dup, 1) := by decide +kernel
theorem dX6_type_133 : decode prog_8_method_49_code 133 = .ok (.getfield 159, 3) := by decide +kernel
theorem dX6_type_136 : decode prog_8_method_49_code 136 = .ok (.iconst 1, 1) := by decide +kernel
theorem dX6_type_137 : decode prog_8_method_49_code 137 = .ok (.iadd, 1) := by decide +kernel
theorem dX6_type_138 : decode prog_8_method_49_code 138 = .ok (.putfield 159, 3) := by decide +kernel
theorem dX6_type_141 : decode prog_8_method_49_code 141 = .ok (.iinc 5 (-1), 3) := by decide +kernel
theorem dX6_type_144 : decode prog_8_method_49_code 144 = .ok (.goto (-51), 3) := by decide +kernel
theorem dX6_type_147 : decode prog_8_method_49_code 147 = .ok (.iconst 1, 1) := by decide +kernel
theorem dX6_type_148 : decode prog_8_method_49_code 148 = .ok (.ireturn, 1) := by decide +kernel
theorem dX6_isDigit_0 : decode prog_8_method_50_code 0 = .ok (.iload_n 0, 1) := by decide +kernel
theorem dX6_isDigit_1 : decode prog_8_method_50_code 1 = .ok (.bipush 48, 2) := by decide +kernel
theorem dX6_isDigit_3 : decode prog_8_method_50_code 3 = .ok (.if_icmp .lt 13, 3) := by decide +kernel
theorem dX6_isDigit_6 : decode prog_8_method_50_code 6 = .ok (.iload_n 0, 1) := by decide +kernel
theorem dX6_isDigit_7 : decode prog_8_method_50_code 7 = .ok (.bipush 57, 2) := by decide +kernel
theorem dX6_isDigit_9 : decode prog_8_method_50_code 9 = .ok (.if_icmp .gt 7, 3) := by decide +kernel
theorem dX6_isDigit_12 : decode prog_8_method_50_code 12 = .ok (.iconst 1, 1) := by decide +kernel
theorem dX6_isDigit_13 : decode prog_8_method_50_code 13 = .ok (.goto 4, 3) := by decide +kernel
theorem dX6_isDigit_16 : decode prog_8_method_50_code 16 = .ok (.iconst 0, 1) := by decide +kernel
theorem dX6_isDigit_17 : decode prog_8_method_50_code 17 = .ok (.ireturn, 1) := by decide +kernel
theorem dX6_read_0 : decode prog_8_method_51_code 0 = .ok (.aload_n 0, 1) := by decide +kernel
theorem dX6_read_1 : decode prog_8_method_51_code 1 = .ok (.getfield 159, 3) := by decide +kernel
theorem dX6_read_4 : decode prog_8_method_51_code 4 = .ok (.istore_n 2, 1) := by decide +kernel
theorem dX6_read_5 : decode prog_8_method_51_code 5 = .ok (.aload_n 0, 1) := by decide +kernel
theorem dX6_read_6 : decode prog_8_method_51_code 6 = .ok (.iconst 0, 1) := by decide +kernel
theorem dX6_read_7 : decode prog_8_method_51_code 7 = .ok (.putfield 159, 3) := by decide +kernel
theorem dX6_read_10 : decode prog_8_method_51_code 10 = .ok (.iconst 0, 1) := by decide +kernel
theorem dX6_read_11 : decode prog_8_method_51_code 11 = .ok (.istore_n 3, 1) := by decide +kernel
theorem dX6_read_12 : decode prog_8_method_51_code 12 = .ok (.iload_n 2, 1) := by decide +kernel
theorem dX6_read_13 : decode prog_8_method_51_code 13 = .ok (.ifCond .le 18, 3) := by decide +kernel
theorem dX6_read_16 : decode prog_8_method_51_code 16 = .ok (.aload_n 0, 1) := by decide +kernel
theorem dX6_read_17 : decode prog_8_method_51_code 17 = .ok (.getfield 30, 3) := by decide +kernel
theorem dX6_read_20 : decode prog_8_method_51_code 20 = .ok (.iconst 0, 1) := by decide +kernel
theorem dX6_read_21 : decode prog_8_method_51_code 21 = .ok (.iaload, 1) := by decide +kernel
theorem dX6_read_22 : decode prog_8_method_51_code 22 = .ok (.bipush 45, 2) := by decide +kernel
theorem dX6_read_24 : decode prog_8_method_51_code 24 = .ok (.if_icmp .ne 7, 3) := by decide +kernel
theorem dX6_read_27 : decode prog_8_method_51_code 27 = .ok (.iconst 1, 1) := by decide +kernel
theorem dX6_read_28 : decode prog_8_method_51_code 28 = .ok (.goto 4, 3) := by decide +kernel
theorem dX6_read_31 : decode prog_8_method_51_code 31 = .ok (.iconst 0, 1) := by decide +kernel
theorem dX6_read_32 : decode prog_8_method_51_code 32 = .ok (.istore 4, 2) := by decide +kernel
theorem dX6_read_34 : decode prog_8_method_51_code 34 = .ok (.iload 4, 2) := by decide +kernel
theorem dX6_read_36 : decode prog_8_method_51_code 36 = .ok (.ifCond .ne 18, 3) := by decide +kernel
theorem dX6_read_39 : decode prog_8_method_51_code 39 = .ok (.iload_n 2, 1) := by decide +kernel
theorem dX6_read_40 : decode prog_8_method_51_code 40 = .ok (.ifCond .le 17, 3) := by decide +kernel
theorem dX6_read_43 : decode prog_8_method_51_code 43 = .ok (.aload_n 0, 1) := by decide +kernel
theorem dX6_read_44 : decode prog_8_method_51_code 44 = .ok (.getfield 30, 3) := by decide +kernel
theorem dX6_read_47 : decode prog_8_method_51_code 47 = .ok (.iconst 0, 1) := by decide +kernel
theorem dX6_read_48 : decode prog_8_method_51_code 48 = .ok (.iaload, 1) := by decide +kernel
theorem dX6_read_49 : decode prog_8_method_51_code 49 = .ok (.bipush 43, 2) := by decide +kernel
theorem dX6_read_51 : decode prog_8_method_51_code 51 = .ok (.if_icmp .ne 6, 3) := by decide +kernel
theorem dX6_read_54 : decode prog_8_method_51_code 54 = .ok (.iinc 3 1, 3) := by decide +kernel
theorem dX6_read_57 : decode prog_8_method_51_code 57 = .ok (.iload_n 3, 1) := by decide +kernel
theorem dX6_read_58 : decode prog_8_method_51_code 58 = .ok (.istore 5, 2) := by decide +kernel
theorem dX6_read_60 : decode prog_8_method_51_code 60 = .ok (.iconst (-1), 1) := by decide +kernel
theorem dX6_read_61 : decode prog_8_method_51_code 61 = .ok (.istore 6, 2) := by decide +kernel
theorem dX6_read_63 : decode prog_8_method_51_code 63 = .ok (.iload_n 3, 1) := by decide +kernel
theorem dX6_read_64 : decode prog_8_method_51_code 64 = .ok (.iload_n 2, 1) := by decide +kernel
theorem dX6_read_65 : decode prog_8_method_51_code 65 = .ok (.if_icmp .ge 56, 3) := by decide +kernel
theorem dX6_read_68 : decode prog_8_method_51_code 68 = .ok (.aload_n 0, 1) := by decide +kernel
theorem dX6_read_69 : decode prog_8_method_51_code 69 = .ok (.getfield 30, 3) := by decide +kernel
theorem dX6_read_72 : decode prog_8_method_51_code 72 = .ok (.iload_n 3, 1) := by decide +kernel
theorem dX6_read_73 : decode prog_8_method_51_code 73 = .ok (.iaload, 1) := by decide +kernel
theorem dX6_read_74 : decode prog_8_method_51_code 74 = .ok (.invokestatic 162, 3) := by decide +kernel
theorem dX6_read_77 : decode prog_8_method_51_code 77 = .ok (.ifCond .ne 19, 3) := by decide +kernel
theorem dX6_read_80 : decode prog_8_method_51_code 80 = .ok (.aload_n 0, 1) := by decide +kernel
theorem dX6_read_81 : decode prog_8_method_51_code 81 = .ok (.getfield 30, 3) := by decide +kernel
theorem dX6_read_84 : decode prog_8_method_51_code 84 = .ok (.iload_n 3, 1) := by decide +kernel
theorem dX6_read_85 : decode prog_8_method_51_code 85 = .ok (.iaload, 1) := by decide +kernel
theorem dX6_read_86 : decode prog_8_method_51_code 86 = .ok (.bipush 46, 2) := by decide +kernel
theorem dX6_read_88 : decode prog_8_method_51_code 88 = .ok (.if_icmp .ne 33, 3) := by decide +kernel
theorem dX6_read_91 : decode prog_8_method_51_code 91 = .ok (.iload 6, 2) := by decide +kernel
theorem dX6_read_93 : decode prog_8_method_51_code 93 = .ok (.ifCond .ge 28, 3) := by decide +kernel
theorem dX6_read_96 : decode prog_8_method_51_code 96 = .ok (.aload_n 0, 1) := by decide +kernel
theorem dX6_read_97 : decode prog_8_method_51_code 97 = .ok (.getfield 30, 3) := by decide +kernel
theorem dX6_read_100 : decode prog_8_method_51_code 100 = .ok (.iload_n 3, 1) := by decide +kernel
theorem dX6_read_101 : decode prog_8_method_51_code 101 = .ok (.iaload, 1) := by decide +kernel
theorem dX6_read_102 : decode prog_8_method_51_code 102 = .ok (.bipush 46, 2) := by decide +kernel
theorem dX6_read_104 : decode prog_8_method_51_code 104 = .ok (.if_icmp .ne 7, 3) := by decide +kernel
theorem dX6_read_107 : decode prog_8_method_51_code 107 = .ok (.iload_n 3, 1) := by decide +kernel
theorem dX6_read_108 : decode prog_8_method_51_code 108 = .ok (.goto 5, 3) := by decide +kernel
theorem dX6_read_111 : decode prog_8_method_51_code 111 = .ok (.iload 6, 2) := by decide +kernel
theorem dX6_read_113 : decode prog_8_method_51_code 113 = .ok (.istore 6, 2) := by decide +kernel
theorem dX6_read_115 : decode prog_8_method_51_code 115 = .ok (.iinc 3 1, 3) := by decide +kernel
theorem dX6_read_118 : decode prog_8_method_51_code 118 = .ok (.goto (-55), 3) := by decide +kernel
theorem dX6_read_121 : decode prog_8_method_51_code 121 = .ok (.iload_n 3, 1) := by decide +kernel
theorem dX6_read_122 : decode prog_8_method_51_code 122 = .ok (.istore 7, 2) := by decide +kernel
theorem dX6_read_124 : decode prog_8_method_51_code 124 = .ok (.iload 7, 2) := by decide +kernel
theorem dX6_read_126 : decode prog_8_method_51_code 126 = .ok (.iload 5, 2) := by decide +kernel
theorem dX6_read_128 : decode prog_8_method_51_code 128 = .ok (.isub, 1) := by decide +kernel
theorem dX6_read_129 : decode prog_8_method_51_code 129 = .ok (.iload 6, 2) := by decide +kernel
theorem dX6_read_131 : decode prog_8_method_51_code 131 = .ok (.ifCond .ge 7, 3) := by decide +kernel
theorem dX6_read_134 : decode prog_8_method_51_code 134 = .ok (.iconst 0, 1) := by decide +kernel
theorem dX6_read_135 : decode prog_8_method_51_code 135 = .ok (.goto 4, 3) := by decide +kernel
theorem dX6_read_138 : decode prog_8_method_51_code 138 = .ok (.iconst 1, 1) := by decide +kernel
theorem dX6_read_139 : decode prog_8_method_51_code 139 = .ok (.isub, 1) := by decide +kernel
theorem dX6_read_140 : decode prog_8_method_51_code 140 = .ok (.istore 8, 2) := by decide +kernel
theorem dX6_read_142 : decode prog_8_method_51_code 142 = .ok (.iload 6, 2) := by decide +kernel
theorem dX6_read_144 : decode prog_8_method_51_code 144 = .ok (.ifCond .ge 7, 3) := by decide +kernel
theorem dX6_read_147 : decode prog_8_method_51_code 147 = .ok (.lconst 0, 1) := by decide +kernel
theorem dX6_read_148 : decode prog_8_method_51_code 148 = .ok (.goto 11, 3) := by decide +kernel
theorem dX6_read_151 : decode prog_8_method_51_code 151 = .ok (.iload 7, 2) := by decide +kernel
theorem dX6_read_153 : decode prog_8_method_51_code 153 = .ok (.iload 6, 2) := by decide +kernel
theorem dX6_read_155 : decode prog_8_method_51_code 155 = .ok (.isub, 1) := by decide +kernel
theorem dX6_read_156 : decode prog_8_method_51_code 156 = .ok (.iconst 1, 1) := by decide +kernel
theorem dX6_read_157 : decode prog_8_method_51_code 157 = .ok (.isub, 1) := by decide +kernel
theorem dX6_read_158 : decode prog_8_method_51_code 158 = .ok (.i2l, 1) := by decide +kernel
theorem dX6_read_159 : decode prog_8_method_51_code 159 = .ok (.lstore 9, 2) := by decide +kernel
theorem dX6_read_161 : decode prog_8_method_51_code 161 = .ok (.iload 8, 2) := by decide +kernel
theorem dX6_read_163 : decode prog_8_method_51_code 163 = .ok (.ifCond .ne 5, 3) := by decide +kernel
theorem dX6_read_166 : decode prog_8_method_51_code 166 = .ok (.iconst 0, 1) := by decide +kernel
theorem dX6_read_167 : decode prog_8_method_51_code 167 = .ok (.ireturn, 1) := by decide +kernel
theorem dX6_read_168 : decode prog_8_method_51_code 168 = .ok (.iload_n 3, 1) := by decide +kernel
theorem dX6_read_169 : decode prog_8_method_51_code 169 = .ok (.iload_n 2, 1) := by decide +kernel
theorem dX6_read_170 : decode prog_8_method_51_code 170 = .ok (.if_icmp .ge 162, 3) := by decide +kernel
theorem dX6_read_173 : decode prog_8_method_51_code 173 = .ok (.aload_n 0, 1) := by decide +kernel
theorem dX6_read_174 : decode prog_8_method_51_code 174 = .ok (.getfield 30, 3) := by decide +kernel
theorem dX6_read_177 : decode prog_8_method_51_code 177 = .ok (.iload_n 3, 1) := by decide +kernel
theorem dX6_read_178 : decode prog_8_method_51_code 178 = .ok (.iaload, 1) := by decide +kernel
theorem dX6_read_179 : decode prog_8_method_51_code 179 = .ok (.bipush 101, 2) := by decide +kernel
theorem dX6_read_181 : decode prog_8_method_51_code 181 = .ok (.if_icmp .eq 14, 3) := by decide +kernel
theorem dX6_read_184 : decode prog_8_method_51_code 184 = .ok (.aload_n 0, 1) := by decide +kernel
theorem dX6_read_185 : decode prog_8_method_51_code 185 = .ok (.getfield 30, 3) := by decide +kernel
theorem dX6_read_188 : decode prog_8_method_51_code 188 = .ok (.iload_n 3, 1) := by decide +kernel
theorem dX6_read_189 : decode prog_8_method_51_code 189 = .ok (.iaload, 1) := by decide +kernel
theorem dX6_read_190 : decode prog_8_method_51_code 190 = .ok (.bipush 69, 2) := by decide +kernel
theorem dX6_read_192 : decode prog_8_method_51_code 192 = .ok (.if_icmp .ne 140, 3) := by decide +kernel
theorem dX6_read_195 : decode prog_8_method_51_code 195 = .ok (.iinc 3 1, 3) := by decide +kernel
theorem dX6_read_198 : decode prog_8_method_51_code 198 = .ok (.iload_n 3, 1) := by decide +kernel
theorem dX6_read_199 : decode prog_8_method_51_code 199 = .ok (.iload_n 2, 1) := by decide +kernel
theorem dX6_read_200 : decode prog_8_method_51_code 200 = .ok (.if_icmp .ge 18, 3) := by decide +kernel
theorem dX6_read_203 : decode prog_8_method_51_code 203 = .ok (.aload_n 0, 1) := by decide +kernel
theorem dX6_read_204 : decode prog_8_method_51_code 204 = .ok (.getfield 30, 3) := by decide +kernel
theorem dX6_read_207 : decode prog_8_method_51_code 207 = .ok (.iload_n 3, 1) := by decide +kernel
theorem dX6_read_208 : decode prog_8_method_51_code 208 = .ok (.iaload, 1) := by decide +kernel
theorem dX6_read_209 : decode prog_8_method_51_code 209 = .ok (.bipush 45, 2) := by decide +kernel
theorem dX6_read_211 : decode prog_8_method_51_code 211 = .ok (.if_icmp .ne 7, 3) := by decide +kernel
theorem dX6_read_214 : decode prog_8_method_51_code 214 = .ok (.iconst 1, 1) := by decide +kernel
theorem dX6_read_215 : decode prog_8_method_51_code 215 = .ok (.goto 4, 3) := by decide +kernel
theorem dX6_read_218 : decode prog_8_method_51_code 218 = .ok (.iconst 0, 1) := by decide +kernel
theorem dX6_read_219 : decode prog_8_method_51_code 219 = .ok (.istore 11, 2) := by decide +kernel
theorem dX6_read_221 : decode prog_8_method_51_code 221 = .ok (.iload 11, 2) := by decide +kernel
theorem dX6_read_223 : decode prog_8_method_51_code 223 = .ok (.ifCond .ne 19, 3) := by decide +kernel
theorem dX6_read_226 : decode prog_8_method_51_code 226 = .ok (.iload_n 3, 1) := by decide +kernel
theorem dX6_read_227 : decode prog_8_method_51_code 227 = .ok (.iload_n 2, 1) := by decide +kernel
theorem dX6_read_228 : decode prog_8_method_51_code 228 = .ok (.if_icmp .ge 17, 3) := by decide +kernel
theorem dX6_read_231 : decode prog_8_method_51_code 231 = .ok (.aload_n 0, 1) := by decide +kernel
theorem dX6_read_232 : decode prog_8_method_51_code 232 = .ok (.getfield 30, 3) := by decide +kernel
theorem dX6_read_235 : decode prog_8_method_51_code 235 = .ok (.iload_n 3, 1) := by decide +kernel
theorem dX6_read_236 : decode prog_8_method_51_code 236 = .ok (.iaload, 1) := by decide +kernel
theorem dX6_read_237 : decode prog_8_method_51_code 237 = .ok (.bipush 43, 2) := by decide +kernel
theorem dX6_read_239 : decode prog_8_method_51_code 239 = .ok (.if_icmp .ne 6, 3) := by decide +kernel
theorem dX6_read_242 : decode prog_8_method_51_code 242 = .ok (.iinc 3 1, 3) := by decide +kernel
theorem dX6_read_245 : decode prog_8_method_51_code 245 = .ok (.iload_n 3, 1) := by decide +kernel
theorem dX6_read_246 : decode prog_8_method_51_code 246 = .ok (.iload_n 2, 1) := by decide +kernel
theorem dX6_read_247 : decode prog_8_method_51_code 247 = .ok (.if_icmp .ne 5, 3) := by decide +kernel
theorem dX6_read_250 : decode prog_8_method_51_code 250 = .ok (.iconst 0, 1) := by decide +kernel
theorem dX6_read_251 : decode prog_8_method_51_code 251 = .ok (.ireturn, 1) := by decide +kernel
theorem dX6_read_252 : decode prog_8_method_51_code 252 = .ok (.lconst 0, 1) := by decide +kernel
theorem dX6_read_253 : decode prog_8_method_51_code 253 = .ok (.lstore 12, 2) := by decide +kernel
theorem dX6_read_255 : decode prog_8_method_51_code 255 = .ok (.iload_n 3, 1) := by decide +kernel
theorem dX6_read_256 : decode prog_8_method_51_code 256 = .ok (.iload_n 2, 1) := by decide +kernel
theorem dX6_read_257 : decode prog_8_method_51_code 257 = .ok (.if_icmp .ge 55, 3) := by decide +kernel
theorem dX6_read_260 : decode prog_8_method_51_code 260 = .ok (.aload_n 0, 1) := by decide +kernel
theorem dX6_read_261 : decode prog_8_method_51_code 261 = .ok (.getfield 30, 3) := by decide +kernel
theorem dX6_read_264 : decode prog_8_method_51_code 264 = .ok (.iload_n 3, 1) := by decide +kernel
theorem dX6_read_265 : decode prog_8_method_51_code 265 = .ok (.iaload, 1) := by decide +kernel
theorem dX6_read_266 : decode prog_8_method_51_code 266 = .ok (.invokestatic 162, 3) := by decide +kernel
theorem dX6_read_269 : decode prog_8_method_51_code 269 = .ok (.ifCond .eq 43, 3) := by decide +kernel
theorem dX6_read_272 : decode prog_8_method_51_code 272 = .ok (.lload 12, 2) := by decide +kernel
theorem dX6_read_274 : decode prog_8_method_51_code 274 = .ok (.ldc2_w 165, 3) := by decide +kernel
theorem dX6_read_277 : decode prog_8_method_51_code 277 = .ok (.lcmp, 1) := by decide +kernel
theorem dX6_read_278 : decode prog_8_method_51_code 278 = .ok (.ifCond .le 8, 3) := by decide +kernel
theorem dX6_read_281 : decode prog_8_method_51_code 281 = .ok (.lload 12, 2) := by decide +kernel
theorem dX6_read_283 : decode prog_8_method_51_code 283 = .ok (.goto 21, 3) := by decide +kernel
theorem dX6_read_286 : decode prog_8_method_51_code 286 = .ok (.ldc2_w 87, 3) := by decide +kernel
theorem dX6_read_289 : decode prog_8_method_51_code 289 = .ok (.lload 12, 2) := by decide +kernel
theorem dX6_read_291 : decode prog_8_method_51_code 291 = .ok (.lmul, 1) := by decide +kernel
theorem dX6_read_292 : decode prog_8_method_51_code 292 = .ok (.aload_n 0, 1) := by decide +kernel
theorem dX6_read_293 : decode prog_8_method_51_code 293 = .ok (.getfield 30, 3) := by decide +kernel
theorem dX6_read_296 : decode prog_8_method_51_code 296 = .ok (.iload_n 3, 1) := by decide +kernel
theorem dX6_read_297 : decode prog_8_method_51_code 297 = .ok (.iaload, 1) := by decide +kernel
theorem dX6_read_298 : decode prog_8_method_51_code 298 = .ok (.i2l, 1) := by decide +kernel
theorem dX6_read_299 : decode prog_8_method_51_code 299 = .ok (.ladd, 1) := by decide +kernel
theorem dX6_read_300 : decode prog_8_method_51_code 300 = .ok (.ldc2_w 167, 3) := by decide +kernel
theorem dX6_read_303 : decode prog_8_method_51_code 303 = .ok (.lsub, 1) := by decide +kernel
theorem dX6_read_304 : decode prog_8_method_51_code 304 = .ok (.lstore 12, 2) := by decide +kernel
theorem dX6_read_306 : decode prog_8_method_51_code 306 = .ok (.iinc 3 1, 3) := by decide +kernel
theorem dX6_read_309 : decode prog_8_method_51_code 309 = .ok (.goto (-54), 3) := by decide +kernel
theorem dX6_read_312 : decode prog_8_method_51_code 312 = .ok (.iload 11, 2) := by decide +kernel
theorem dX6_read_314 : decode prog_8_method_51_code 314 = .ok (.ifCond .eq 11, 3) := by decide +kernel
theorem dX6_read_317 : decode prog_8_method_51_code 317 = .ok (.lload 9, 2) := by decide +kernel
theorem dX6_read_319 : decode prog_8_method_51_code 319 = .ok (.lload 12, 2) := by decide +kernel
theorem dX6_read_321 : decode prog_8_method_51_code 321 = .ok (.ladd, 1) := by decide +kernel
theorem dX6_read_322 : decode prog_8_method_51_code 322 = .ok (.goto 8, 3) := by decide +kernel
theorem dX6_read_325 : decode prog_8_method_51_code 325 = .ok (.lload 9, 2) := by decide +kernel
theorem dX6_read_327 : decode prog_8_method_51_code 327 = .ok (.lload 12, 2) := by decide +kernel
theorem dX6_read_329 : decode prog_8_method_51_code 329 = .ok (.lsub, 1) := by decide +kernel
theorem dX6_read_330 : decode prog_8_method_51_code 330 = .ok (.lstore 9, 2) := by decide +kernel
theorem dX6_read_332 : decode prog_8_method_51_code 332 = .ok (.iload_n 3, 1) := by decide +kernel
theorem dX6_read_333 : decode prog_8_method_51_code 333 = .ok (.iload_n 2, 1) := by decide +kernel
theorem dX6_read_334 : decode prog_8_method_51_code 334 = .ok (.if_icmp .lt 10, 3) := by decide +kernel
theorem dX6_read_337 : decode prog_8_method_51_code 337 = .ok (.iload_n 1, 1) := by decide +kernel
theorem dX6_read_338 : decode prog_8_method_51_code 338 = .ok (.invokestatic 83, 3) := by decide +kernel
theorem dX6_read_341 : decode prog_8_method_51_code 341 = .ok (.ifCond .ne 5, 3) := by decide +kernel
theorem dX6_read_344 : decode prog_8_method_51_code 344 = .ok (.iconst 0, 1) := by decide +kernel
theorem dX6_read_345 : decode prog_8_method_51_code 345 = .ok (.ireturn, 1) := by decide +kernel
theorem dX6_read_346 : decode prog_8_method_51_code 346 = .ok (.iconst 0, 1) := by decide +kernel
theorem dX6_read_347 : decode prog_8_method_51_code 347 = .ok (.istore 11, 2) := by decide +kernel
theorem dX6_read_349 : decode prog_8_method_51_code 349 = .ok (.iload 7, 2) := by decide +kernel
theorem dX6_read_351 : decode prog_8_method_51_code 351 = .ok (.iconst 1, 1) := by decide +kernel
theorem dX6_read_352 : decode prog_8_method_51_code 352 = .ok (.isub, 1) := by decide +kernel
theorem dX6_read_353 : decode prog_8_method_51_code 353 = .ok (.istore 12, 2) := by decide +kernel
theorem dX6_read_355 : decode prog_8_method_51_code 355 = .ok (.iload 12, 2) := by decide +kernel
theorem dX6_read_357 : decode prog_8_method_51_code 357 = .ok (.iload 5, 2) := by decide +kernel
theorem dX6_read_359 : decode prog_8_method_51_code 359 = .ok (.if_icmp .lt 39, 3) := by decide +kernel
theorem dX6_read_362 : decode prog_8_method_51_code 362 = .ok (.iload 12, 2) := by decide +kernel
theorem dX6_read_364 : decode prog_8_method_51_code 364 = .ok (.iload 6, 2) := by decide +kernel
theorem dX6_read_366 : decode prog_8_method_51_code 366 = .ok (.if_icmp .ne 6, 3) := by decide +kernel
theorem dX6_read_369 : decode prog_8_method_51_code 369 = .ok (.goto 23, 3) := by decide +kernel
theorem dX6_read_372 : decode prog_8_method_51_code 372 = .ok (.aload_n 0, 1) := by decide +kernel
theorem dX6_read_373 : decode prog_8_method_51_code 373 = .ok (.getfield 24, 3) := by decide +kernel
theorem dX6_read_376 : decode prog_8_method_51_code 376 = .ok (.iload 11, 2) := by decide +kernel
theorem dX6_read_378 : decode prog_8_method_51_code 378 = .ok (.aload_n 0, 1) := by decide +kernel
theorem dX6_read_379 : decode prog_8_method_51_code 379 = .ok (.getfield 30, 3) := by decide +kernel
theorem dX6_read_382 : decode prog_8_method_51_code 382 = .ok (.iload 12, 2) := by decide +kernel
theorem dX6_read_384 : decode prog_8_method_51_code 384 = .ok (.iaload, 1) := by decide +kernel
theorem dX6_read_385 : decode prog_8_method_51_code 385 = .ok (.bipush 48, 2) := by decide +kernel
theorem dX6_read_387 : decode prog_8_method_51_code 387 = .ok (.isub, 1) := by decide +kernel
theorem dX6_read_388 : decode prog_8_method_51_code 388 = .ok (.iastore, 1) := by decide +kernel
theorem dX6_read_389 : decode prog_8_method_51_code 389 = .ok (.iinc 11 1, 3) := by decide +kernel
theorem dX6_read_392 : decode prog_8_method_51_code 392 = .ok (.iinc 12 (-1), 3) := by decide +kernel
theorem dX6_read_395 : decode prog_8_method_51_code 395 = .ok (.goto (-40), 3) := by decide +kernel
theorem dX6_read_398 : decode prog_8_method_51_code 398 = .ok (.aload_n 0, 1) := by decide +kernel
theorem dX6_read_399 : decode prog_8_method_51_code 399 = .ok (.iconst 0, 1) := by decide +kernel
theorem dX6_read_400 : decode prog_8_method_51_code 400 = .ok (.iload 11, 2) := by decide +kernel
theorem dX6_read_402 : decode prog_8_method_51_code 402 = .ok (.invokevirtual 44, 3) := by decide +kernel
theorem dX6_read_405 : decode prog_8_method_51_code 405 = .ok (.aload_n 0, 1) := by decide +kernel
theorem dX6_read_406 : decode prog_8_method_51_code 406 = .ok (.iload_n 1, 1) := by decide +kernel
theorem dX6_read_407 : decode prog_8_method_51_code 407 = .ok (.iconst 0, 1) := by decide +kernel
theorem dX6_read_408 : decode prog_8_method_51_code 408 = .ok (.iload 4, 2) := by decide +kernel
theorem dX6_read_410 : decode prog_8_method_51_code 410 = .ok (.ifCond .eq 7, 3) := by decide +kernel
theorem dX6_read_413 : decode prog_8_method_51_code 413 = .ok (.iconst (-1), 1) := by decide +kernel
theorem dX6_read_414 : decode prog_8_method_51_code 414 = .ok (.goto 4, 3) := by decide +kernel
theorem dX6_read_417 : decode prog_8_method_51_code 417 = .ok (.iconst 1, 1) := by decide +kernel
theorem dX6_read_418 : decode prog_8_method_51_code 418 = .ok (.lload 9, 2) := by decide +kernel
theorem dX6_read_420 : decode prog_8_method_51_code 420 = .ok (.invokevirtual 75, 3) := by decide +kernel
theorem dX6_read_423 : decode prog_8_method_51_code 423 = .ok (.ireturn, 1) := by decide +kernel
theorem dX6_mark_0 : decode prog_8_method_52_code 0 = .ok (.aload_n 0, 1) := by decide +kernel
theorem dX6_mark_1 : decode prog_8_method_52_code 1 = .ok (.getfield 169, 3) := by decide +kernel
theorem dX6_mark_4 : decode prog_8_method_52_code 4 = .ok (.sipush 6000, 3) := by decide +kernel
theorem dX6_mark_7 : decode prog_8_method_52_code 7 = .ok (.if_icmp .ge 13, 3) := by decide +kernel
theorem dX6_mark_10 : decode prog_8_method_52_code 10 = .ok (.aload_n 0, 1) := by decide +kernel
theorem dX6_mark_11 : decode prog_8_method_52_code 11 = .ok (.getfield 33, 3) := by decide +kernel
theorem dX6_mark_14 : decode prog_8_method_52_code 14 = .ok (.aload_n 0, 1) := by decide +kernel
theorem dX6_mark_15 : decode prog_8_method_52_code 15 = .ok (.getfield 169, 3) := by decide +kernel
theorem dX6_mark_18 : decode prog_8_method_52_code 18 = .ok (.iload_n 1, 1) := by decide +kernel
theorem dX6_mark_19 : decode prog_8_method_52_code 19 = .ok (.iastore, 1) := by decide +kernel
theorem dX6_mark_20 : decode prog_8_method_52_code 20 = .ok (.aload_n 0, 1) := by decide +kernel
theorem dX6_mark_21 : decode prog_8_method_52_code 21 = .ok (.dup, 1) := by decide +kernel
theorem dX6_mark_22 : decode prog_8_method_52_code 22 = .ok (.getfield 169, 3) := by decide +kernel
theorem dX6_mark_25 : decode prog_8_method_52_code 25 = .ok (.iconst 1, 1) := by decide +kernel
theorem dX6_mark_26 : decode prog_8_method_52_code 26 = .ok (.iadd, 1) := by decide +kernel
theorem dX6_mark_27 : decode prog_8_method_52_code 27 = .ok (.putfield 169, 3) := by decide +kernel
theorem dX6_mark_30 : decode prog_8_method_52_code 30 = .ok (.aload_n 0, 1) := by decide +kernel
theorem dX6_mark_31 : decode prog_8_method_52_code 31 = .ok (.getfield 169, 3) := by decide +kernel
theorem dX6_mark_34 : decode prog_8_method_52_code 34 = .ok (.sipush 6000, 3) := by decide +kernel
theorem dX6_mark_37 : decode prog_8_method_52_code 37 = .ok (.if_icmp .gt 7, 3) := by decide +kernel
theorem dX6_mark_40 : decode prog_8_method_52_code 40 = .ok (.iconst 1, 1) := by decide +kernel
theorem dX6_mark_41 : decode prog_8_method_52_code 41 = .ok (.goto 4, 3) := by decide +kernel
theorem dX6_mark_44 : decode prog_8_method_52_code 44 = .ok (.iconst 0, 1) := by decide +kernel
theorem dX6_mark_45 : decode prog_8_method_52_code 45 = .ok (.ireturn, 1) := by decide +kernel
theorem dX6_putNumber_0 : decode prog_8_method_53_code 0 = .ok (.lconst 1, 1) := by decide +kernel
theorem dX6_putNumber_1 : decode prog_8_method_53_code 1 = .ok (.lstore_n 3, 1) := by decide +kernel
theorem dX6_putNumber_2 : decode prog_8_method_53_code 2 = .ok (.lload_n 1, 1) := by decide +kernel
theorem dX6_putNumber_3 : decode prog_8_method_53_code 3 = .ok (.lload_n 3, 1) := by decide +kernel
theorem dX6_putNumber_4 : decode prog_8_method_53_code 4 = .ok (.ldiv, 1) := by decide +kernel
theorem dX6_putNumber_5 : decode prog_8_method_53_code 5 = .ok (.ldc2_w 172, 3) := by decide +kernel
theorem dX6_putNumber_8 : decode prog_8_method_53_code 8 = .ok (.lcmp, 1) := by decide +kernel
theorem dX6_putNumber_9 : decode prog_8_method_53_code 9 = .ok (.ifCond .le 12, 3) := by decide +kernel
theorem dX6_putNumber_12 : decode prog_8_method_53_code 12 = .ok (.ldc2_w 87, 3) := by decide +kernel
theorem dX6_putNumber_15 : decode prog_8_method_53_code 15 = .ok (.lload_n 3, 1) := by decide +kernel
theorem dX6_putNumber_16 : decode prog_8_method_53_code 16 = .ok (.lmul, 1) := by decide +kernel
theorem dX6_putNumber_17 : decode prog_8_method_53_code 17 = .ok (.lstore_n 3, 1) := by decide +kernel
theorem dX6_putNumber_18 : decode prog_8_method_53_code 18 = .ok (.goto (-16), 3) := by decide +kernel
theorem dX6_putNumber_21 : decode prog_8_method_53_code 21 = .ok (.lload_n 3, 1) := by decide +kernel
theorem dX6_putNumber_22 : decode prog_8_method_53_code 22 = .ok (.lconst 0, 1) := by decide +kernel
theorem dX6_putNumber_23 : decode prog_8_method_53_code 23 = .ok (.lcmp, 1) := by decide +kernel
theorem dX6_putNumber_24 : decode prog_8_method_53_code 24 = .ok (.ifCond .le 29, 3) := by decide +kernel
theorem dX6_putNumber_27 : decode prog_8_method_53_code 27 = .ok (.aload_n 0, 1) := by decide +kernel
theorem dX6_putNumber_28 : decode prog_8_method_53_code 28 = .ok (.bipush 48, 2) := by decide +kernel
theorem dX6_putNumber_30 : decode prog_8_method_53_code 30 = .ok (.lload_n 1, 1) := by decide +kernel
theorem dX6_putNumber_31 : decode prog_8_method_53_code 31 = .ok (.lload_n 3, 1) := by decide +kernel
theorem dX6_putNumber_32 : decode prog_8_method_53_code 32 = .ok (.ldiv, 1) := by decide +kernel
theorem dX6_putNumber_33 : decode prog_8_method_53_code 33 = .ok (.ldc2_w 87, 3) := by decide +kernel
theorem dX6_putNumber_36 : decode prog_8_method_53_code 36 = .ok (.lrem, 1) := by decide +kernel
theorem dX6_putNumber_37 : decode prog_8_method_53_code 37 = .ok (.l2i, 1) := by decide +kernel
theorem dX6_putNumber_38 : decode prog_8_method_53_code 38 = .ok (.iadd, 1) := by decide +kernel
theorem dX6_putNumber_39 : decode prog_8_method_53_code 39 = .ok (.invokevirtual 174, 3) := by decide +kernel
theorem dX6_putNumber_42 : decode prog_8_method_53_code 42 = .ok (.istore 5, 2) := by decide +kernel
theorem dX6_putNumber_44 : decode prog_8_method_53_code 44 = .ok (.lload_n 3, 1) := by decide +kernel
theorem dX6_putNumber_45 : decode prog_8_method_53_code 45 = .ok (.ldc2_w 87, 3) := by decide +kernel
theorem dX6_putNumber_48 : decode prog_8_method_53_code 48 = .ok (.ldiv, 1) := by decide +kernel
theorem dX6_putNumber_49 : decode prog_8_method_53_code 49 = .ok (.lstore_n 3, 1) := by decide +kernel
theorem dX6_putNumber_50 : decode prog_8_method_53_code 50 = .ok (.goto (-29), 3) := by decide +kernel
theorem dX6_putNumber_53 : decode prog_8_method_53_code 53 = .ok (.return_, 1) := by decide +kernel
theorem dX6_putExponent_0 : decode prog_8_method_54_code 0 = .ok (.lload_n 1, 1) := by decide +kernel
theorem dX6_putExponent_1 : decode prog_8_method_54_code 1 = .ok (.lconst 0, 1) := by decide +kernel
theorem dX6_putExponent_2 : decode prog_8_method_54_code 2 = .ok (.lcmp, 1) := by decide +kernel
theorem dX6_putExponent_3 : decode prog_8_method_54_code 3 = .ok (.ifCond .ne 4, 3) := by decide +kernel
theorem dX6_putExponent_6 : decode prog_8_method_54_code 6 = .ok (.return_, 1) := by decide +kernel
theorem dX6_putExponent_7 : decode prog_8_method_54_code 7 = .ok (.aload_n 0, 1) := by decide +kernel
theorem dX6_putExponent_8 : decode prog_8_method_54_code 8 = .ok (.bipush 69, 2) := by decide +kernel
theorem dX6_putExponent_10 : decode prog_8_method_54_code 10 = .ok (.invokevirtual 174, 3) := by decide +kernel
theorem dX6_putExponent_13 : decode prog_8_method_54_code 13 = .ok (.istore_n 3, 1) := by decide +kernel
theorem dX6_putExponent_14 : decode prog_8_method_54_code 14 = .ok (.aload_n 0, 1) := by decide +kernel
theorem dX6_putExponent_15 : decode prog_8_method_54_code 15 = .ok (.lload_n 1, 1) := by decide +kernel
theorem dX6_putExponent_16 : decode prog_8_method_54_code 16 = .ok (.lconst 0, 1) := by decide +kernel
theorem dX6_putExponent_17 : decode prog_8_method_54_code 17 = .ok (.lcmp, 1) := by decide +kernel
theorem dX6_putExponent_18 : decode prog_8_method_54_code 18 = .ok (.ifCond .ge 8, 3) := by decide +kernel
theorem dX6_putExponent_21 : decode prog_8_method_54_code 21 = .ok (.bipush 45, 2) := by decide +kernel
theorem dX6_putExponent_23 : decode prog_8_method_54_code 23 = .ok (.goto 5, 3) := by decide +kernel
theorem dX6_putExponent_26 : decode prog_8_method_54_code 26 = .ok (.bipush 43, 2) := by decide +kernel
theorem dX6_putExponent_28 : decode prog_8_method_54_code 28 = .ok (.invokevirtual 174, 3) := by decide +kernel
theorem dX6_putExponent_31 : decode prog_8_method_54_code 31 = .ok (.istore_n 3, 1) := by decide +kernel
theorem dX6_putExponent_32 : decode prog_8_method_54_code 32 = .ok (.aload_n 0, 1) := by decide +kernel
theorem dX6_putExponent_33 : decode prog_8_method_54_code 33 = .ok (.lload_n 1, 1) := by decide +kernel
theorem dX6_putExponent_34 : decode prog_8_method_54_code 34 = .ok (.lconst 0, 1) := by decide +kernel
theorem dX6_putExponent_35 : decode prog_8_method_54_code 35 = .ok (.lcmp, 1) := by decide +kernel
theorem dX6_putExponent_36 : decode prog_8_method_54_code 36 = .ok (.ifCond .ge 8, 3) := by decide +kernel
theorem dX6_putExponent_39 : decode prog_8_method_54_code 39 = .ok (.lload_n 1, 1) := by decide +kernel
theorem dX6_putExponent_40 : decode prog_8_method_54_code 40 = .ok (.lneg, 1) := by decide +kernel
theorem dX6_putExponent_41 : decode prog_8_method_54_code 41 = .ok (.goto 4, 3) := by decide +kernel
theorem dX6_putExponent_44 : decode prog_8_method_54_code 44 = .ok (.lload_n 1, 1) := by decide +kernel
theorem dX6_putExponent_45 : decode prog_8_method_54_code 45 = .ok (.invokevirtual 177, 3) := by decide +kernel
theorem dX6_putExponent_48 : decode prog_8_method_54_code 48 = .ok (.return_, 1) := by decide +kernel
theorem dX6_front_0 : decode prog_8_method_55_code 0 = .ok (.bipush 48, 2) := by decide +kernel
theorem dX6_front_2 : decode prog_8_method_55_code 2 = .ok (.iload_n 2, 1) := by decide +kernel
theorem dX6_front_3 : decode prog_8_method_55_code 3 = .ok (.aload_n 0, 1) := by decide +kernel
theorem dX6_front_4 : decode prog_8_method_55_code 4 = .ok (.getfield 14, 3) := by decide +kernel
theorem dX6_front_7 : decode prog_8_method_55_code 7 = .ok (.iload_n 1, 1) := by decide +kernel
theorem dX6_front_8 : decode prog_8_method_55_code 8 = .ok (.iaload, 1) := by decide +kernel
theorem dX6_front_9 : decode prog_8_method_55_code 9 = .ok (.if_icmp .ge 27, 3) := by decide +kernel
theorem dX6_front_12 : decode prog_8_method_55_code 12 = .ok (.aload_n 0, 1) := by decide +kernel
theorem dX6_front_13 : decode prog_8_method_55_code 13 = .ok (.getfield 8, 3) := by decide +kernel
theorem dX6_front_16 : decode prog_8_method_55_code 16 = .ok (.sipush 4096, 3) := by decide +kernel
theorem dX6_front_19 : decode prog_8_method_55_code 19 = .ok (.iload_n 1, 1) := by decide +kernel
theorem dX6_front_20 : decode prog_8_method_55_code 20 = .ok (.imul, 1) := by decide +kernel
theorem dX6_front_21 : decode prog_8_method_55_code 21 = .ok (.aload_n 0, 1) := by decide +kernel
theorem dX6_front_22 : decode prog_8_method_55_code 22 = .ok (.getfield 14, 3) := by decide +kernel
theorem dX6_front_25 : decode prog_8_method_55_code 25 = .ok (.iload_n 1, 1) := by decide +kernel
theorem dX6_front_26 : decode prog_8_method_55_code 26 = .ok (.iaload, 1) := by decide +kernel
theorem dX6_front_27 : decode prog_8_method_55_code 27 = .ok (.iadd, 1) := by decide +kernel
theorem dX6_front_28 : decode prog_8_method_55_code 28 = .ok (.iconst 1, 1) := by decide +kernel
theorem dX6_front_29 : decode prog_8_method_55_code 29 = .ok (.isub, 1) := by decide +kernel
theorem dX6_front_30 : decode prog_8_method_55_code 30 = .ok (.iload_n 2, 1) := by decide +kernel
theorem dX6_front_31 : decode prog_8_method_55_code 31 = .ok (.isub, 1) := by decide +kernel
theorem dX6_front_32 : decode prog_8_method_55_code 32 = .ok (.iaload, 1) := by decide +kernel
theorem dX6_front_33 : decode prog_8_method_55_code 33 = .ok (.goto 4, 3) := by decide +kernel
theorem dX6_front_36 : decode prog_8_method_55_code 36 = .ok (.iconst 0, 1) := by decide +kernel
theorem dX6_front_37 : decode prog_8_method_55_code 37 = .ok (.iadd, 1) := by decide +kernel
theorem dX6_front_38 : decode prog_8_method_55_code 38 = .ok (.ireturn, 1) := by decide +kernel
theorem dX6_plainSize_0 : decode prog_8_method_56_code 0 = .ok (.aload_n 0, 1) := by decide +kernel
theorem dX6_plainSize_1 : decode prog_8_method_56_code 1 = .ok (.iload_n 1, 1) := by decide +kernel
theorem dX6_plainSize_2 : decode prog_8_method_56_code 2 = .ok (.invokevirtual 152, 3) := by decide +kernel
theorem dX6_plainSize_5 : decode prog_8_method_56_code 5 = .ok (.istore_n 2, 1) := by decide +kernel
theorem dX6_plainSize_6 : decode prog_8_method_56_code 6 = .ok (.aload_n 0, 1) := by decide +kernel
theorem dX6_plainSize_7 : decode prog_8_method_56_code 7 = .ok (.getfield 20, 3) := by decide +kernel
theorem dX6_plainSize_10 : decode prog_8_method_56_code 10 = .ok (.iload_n 1, 1) := by decide +kernel
theorem dX6_plainSize_11 : decode prog_8_method_56_code 11 = .ok (.iaload, 1) := by decide +kernel
theorem dX6_plainSize_12 : decode prog_8_method_56_code 12 = .ok (.istore_n 3, 1) := by decide +kernel
theorem dX6_plainSize_13 : decode prog_8_method_56_code 13 = .ok (.iload_n 3, 1) := by decide +kernel
theorem dX6_plainSize_14 : decode prog_8_method_56_code 14 = .ok (.ifCond .le 24, 3) := by decide +kernel
theorem dX6_plainSize_17 : decode prog_8_method_56_code 17 = .ok (.iload_n 2, 1) := by decide +kernel
theorem dX6_plainSize_18 : decode prog_8_method_56_code 18 = .ok (.iload_n 3, 1) := by decide +kernel
theorem dX6_plainSize_19 : decode prog_8_method_56_code 19 = .ok (.if_icmp .le 10, 3) := by decide +kernel
theorem dX6_plainSize_22 : decode prog_8_method_56_code 22 = .ok (.iload_n 2, 1) := by decide +kernel
theorem dX6_plainSize_23 : decode prog_8_method_56_code 23 = .ok (.i2l, 1) := by decide +kernel
theorem dX6_plainSize_24 : decode prog_8_method_56_code 24 = .ok (.lconst 1, 1) := by decide +kernel
theorem dX6_plainSize_25 : decode prog_8_method_56_code 25 = .ok (.ladd, 1) := by decide +kernel
theorem dX6_plainSize_26 : decode prog_8_method_56_code 26 = .ok (.goto 35, 3) := by decide +kernel
theorem dX6_plainSize_29 : decode prog_8_method_56_code 29 = .ok (.iload_n 3, 1) := by decide +kernel
theorem dX6_plainSize_30 : decode prog_8_method_56_code 30 = .ok (.i2l, 1) := by decide +kernel
theorem dX6_plainSize_31 : decode prog_8_method_56_code 31 = .ok (.ldc2_w 140, 3) := by decide +kernel
theorem dX6_plainSize_34 : decode prog_8_method_56_code 34 = .ok (.ladd, 1) := by decide +kernel
theorem dX6_plainSize_35 : decode prog_8_method_56_code 35 = .ok (.goto 26, 3) := by decide +kernel
theorem dX6_plainSize_38 : decode prog_8_method_56_code 38 = .ok (.iload_n 3, 1) := by decide +kernel
theorem dX6_plainSize_39 : decode prog_8_method_56_code 39 = .ok (.ifCond .ge 20, 3) := by decide +kernel
theorem dX6_plainSize_42 : decode prog_8_method_56_code 42 = .ok (.aload_n 0, 1) := by decide +kernel
theorem dX6_plainSize_43 : decode prog_8_method_56_code 43 = .ok (.getfield 14, 3) := by decide +kernel
theorem dX6_plainSize_46 : decode prog_8_method_56_code 46 = .ok (.iload_n 1, 1) := by decide +kernel
theorem dX6_plainSize_47 : decode prog_8_method_56_code 47 = .ok (.iaload, 1) := by decide +kernel
theorem dX6_plainSize_48 : decode prog_8_method_56_code 48 = .ok (.ifCond .le 11, 3) := by decide +kernel
theorem dX6_plainSize_51 : decode prog_8_method_56_code 51 = .ok (.iload_n 2, 1) := by decide +kernel
theorem dX6_plainSize_52 : decode prog_8_method_56_code 52 = .ok (.i2l, 1) := by decide +kernel
theorem dX6_plainSize_53 : decode prog_8_method_56_code 53 = .ok (.iload_n 3, 1) := by decide +kernel
theorem dX6_plainSize_54 : decode prog_8_method_56_code 54 = .ok (.i2l, 1) := by decide +kernel
theorem dX6_plainSize_55 : decode prog_8_method_56_code 55 = .ok (.lsub, 1) := by decide +kernel
theorem dX6_plainSize_56 : decode prog_8_method_56_code 56 = .ok (.goto 5, 3) := by decide +kernel
theorem dX6_plainSize_59 : decode prog_8_method_56_code 59 = .ok (.iload_n 2, 1) := by decide +kernel
theorem dX6_plainSize_60 : decode prog_8_method_56_code 60 = .ok (.i2l, 1) := by decide +kernel
theorem dX6_plainSize_61 : decode prog_8_method_56_code 61 = .ok (.lstore 4, 2) := by decide +kernel
theorem dX6_plainSize_63 : decode prog_8_method_56_code 63 = .ok (.aload_n 0, 1) := by decide +kernel
theorem dX6_plainSize_64 : decode prog_8_method_56_code 64 = .ok (.getfield 17, 3) := by decide +kernel
theorem dX6_plainSize_67 : decode prog_8_method_56_code 67 = .ok (.iload_n 1, 1) := by decide +kernel
theorem dX6_plainSize_68 : decode prog_8_method_56_code 68 = .ok (.iaload, 1) := by decide +kernel
theorem dX6_plainSize_69 : decode prog_8_method_56_code 69 = .ok (.ifCond .ge 10, 3) := by decide +kernel
theorem dX6_plainSize_72 : decode prog_8_method_56_code 72 = .ok (.lload 4, 2) := by decide +kernel
theorem dX6_plainSize_74 : decode prog_8_method_56_code 74 = .ok (.lconst 1, 1) := by decide +kernel
theorem dX6_plainSize_75 : decode prog_8_method_56_code 75 = .ok (.ladd, 1) := by decide +kernel
theorem dX6_plainSize_76 : decode prog_8_method_56_code 76 = .ok (.goto 5, 3) := by decide +kernel
theorem dX6_plainSize_79 : decode prog_8_method_56_code 79 = .ok (.lload 4, 2) := by decide +kernel
theorem dX6_plainSize_81 : decode prog_8_method_56_code 81 = .ok (.lreturn, 1) := by decide +kernel
theorem dX6_plain_0 : decode prog_8_method_57_code 0 = .ok (.aload_n 0, 1) := by decide +kernel
theorem dX6_plain_1 : decode prog_8_method_57_code 1 = .ok (.iload_n 1, 1) := by decide +kernel
theorem dX6_plain_2 : decode prog_8_method_57_code 2 = .ok (.invokevirtual 152, 3) := by decide +kernel
theorem dX6_plain_5 : decode prog_8_method_57_code 5 = .ok (.istore_n 2, 1) := by decide +kernel
theorem dX6_plain_6 : decode prog_8_method_57_code 6 = .ok (.aload_n 0, 1) := by decide +kernel
theorem dX6_plain_7 : decode prog_8_method_57_code 7 = .ok (.getfield 20, 3) := by decide +kernel
theorem dX6_plain_10 : decode prog_8_method_57_code 10 = .ok (.iload_n 1, 1) := by decide +kernel
theorem dX6_plain_11 : decode prog_8_method_57_code 11 = .ok (.iaload, 1) := by decide +kernel
theorem dX6_plain_12 : decode prog_8_method_57_code 12 = .ok (.istore_n 3, 1) := by decide +kernel
theorem dX6_plain_13 : decode prog_8_method_57_code 13 = .ok (.iconst 1, 1) := by decide +kernel
theorem dX6_plain_14 : decode prog_8_method_57_code 14 = .ok (.istore 4, 2) := by decide +kernel
theorem dX6_plain_16 : decode prog_8_method_57_code 16 = .ok (.iload_n 3, 1) := by decide +kernel
theorem dX6_plain_17 : decode prog_8_method_57_code 17 = .ok (.ifCond .le 81, 3) := by decide +kernel
theorem dX6_plain_20 : decode prog_8_method_57_code 20 = .ok (.iload_n 2, 1) := by decide +kernel
theorem dX6_plain_21 : decode prog_8_method_57_code 21 = .ok (.iload_n 3, 1) := by decide +kernel
theorem dX6_plain_22 : decode prog_8_method_57_code 22 = .ok (.if_icmp .le 9, 3) := by decide +kernel
theorem dX6_plain_25 : decode prog_8_method_57_code 25 = .ok (.iload_n 2, 1) := by decide +kernel
theorem dX6_plain_26 : decode prog_8_method_57_code 26 = .ok (.iconst 1, 1) := by decide +kernel
theorem dX6_plain_27 : decode prog_8_method_57_code 27 = .ok (.isub, 1) := by decide +kernel
theorem dX6_plain_28 : decode prog_8_method_57_code 28 = .ok (.goto 4, 3) := by decide +kernel
theorem dX6_plain_31 : decode prog_8_method_57_code 31 = .ok (.iload_n 3, 1) := by decide +kernel
theorem dX6_plain_32 : decode prog_8_method_57_code 32 = .ok (.istore 5, 2) := by decide +kernel
theorem dX6_plain_34 : decode prog_8_method_57_code 34 = .ok (.iload 5, 2) := by decide +kernel
theorem dX6_plain_36 : decode prog_8_method_57_code 36 = .ok (.ifCond .lt 61, 3) := by decide +kernel
theorem dX6_plain_39 : decode prog_8_method_57_code 39 = .ok (.aload_n 0, 1) := by decide +kernel
theorem dX6_plain_40 : decode prog_8_method_57_code 40 = .ok (.iload 5, 2) := by decide +kernel
theorem dX6_plain_42 : decode prog_8_method_57_code 42 = .ok (.aload_n 0, 1) := by decide +kernel
theorem dX6_plain_43 : decode prog_8_method_57_code 43 = .ok (.getfield 14, 3) := by decide +kernel
theorem dX6_plain_46 : decode prog_8_method_57_code 46 = .ok (.iload_n 1, 1) := by decide +kernel
theorem dX6_plain_47 : decode prog_8_method_57_code 47 = .ok (.iaload, 1) := by decide +kernel
theorem dX6_plain_48 : decode prog_8_method_57_code 48 = .ok (.if_icmp .ge 22, 3) := by decide +kernel
theorem dX6_plain_51 : decode prog_8_method_57_code 51 = .ok (.bipush 48, 2) := by decide +kernel
theorem dX6_plain_53 : decode prog_8_method_57_code 53 = .ok (.aload_n 0, 1) := by decide +kernel
theorem dX6_plain_54 : decode prog_8_method_57_code 54 = .ok (.getfield 8, 3) := by decide +kernel
theorem dX6_plain_57 : decode prog_8_method_57_code 57 = .ok (.sipush 4096, 3) := by decide +kernel
theorem dX6_plain_60 : decode prog_8_method_57_code 60 = .ok (.iload_n 1, 1) := by decide +kernel
theorem dX6_plain_61 : decode prog_8_method_57_code 61 = .ok (.imul, 1) := by decide +kernel
theorem dX6_plain_62 : decode prog_8_method_57_code 62 = .ok (.iload 5, 2) := by decide +kernel
theorem dX6_plain_64 : decode prog_8_method_57_code 64 = .ok (.iadd, 1) := by decide +kernel
theorem dX6_plain_65 : decode prog_8_method_57_code 65 = .ok (.iaload, 1) := by decide +kernel
theorem dX6_plain_66 : decode prog_8_method_57_code 66 = .ok (.iadd, 1) := by decide +kernel
theorem dX6_plain_67 : decode prog_8_method_57_code 67 = .ok (.goto 5, 3) := by decide +kernel
theorem dX6_plain_70 : decode prog_8_method_57_code 70 = .ok (.bipush 48, 2) := by decide +kernel
theorem dX6_plain_72 : decode prog_8_method_57_code 72 = .ok (.invokevirtual 174, 3) := by decide +kernel
theorem dX6_plain_75 : decode prog_8_method_57_code 75 = .ok (.istore 4, 2) := by decide +kernel
theorem dX6_plain_77 : decode prog_8_method_57_code 77 = .ok (.iload 5, 2) := by decide +kernel
theorem dX6_plain_79 : decode prog_8_method_57_code 79 = .ok (.iload_n 3, 1) := by decide +kernel
theorem dX6_plain_80 : decode prog_8_method_57_code 80 = .ok (.if_icmp .ne 11, 3) := by decide +kernel
theorem dX6_plain_83 : decode prog_8_method_57_code 83 = .ok (.aload_n 0, 1) := by decide +kernel
theorem dX6_plain_84 : decode prog_8_method_57_code 84 = .ok (.bipush 46, 2) := by decide +kernel
theorem dX6_plain_86 : decode prog_8_method_57_code 86 = .ok (.invokevirtual 174, 3) := by decide +kernel
theorem dX6_plain_89 : decode prog_8_method_57_code 89 = .ok (.istore 4, 2) := by decide +kernel
theorem dX6_plain_91 : decode prog_8_method_57_code 91 = .ok (.iinc 5 (-1), 3) := by decide +kernel
theorem dX6_plain_94 : decode prog_8_method_57_code 94 = .ok (.goto (-60), 3) := by decide +kernel
theorem dX6_plain_97 : decode prog_8_method_57_code 97 = .ok (.return_, 1) := by decide +kernel
theorem dX6_plain_98 : decode prog_8_method_57_code 98 = .ok (.iconst 0, 1) := by decide +kernel
theorem dX6_plain_99 : decode prog_8_method_57_code 99 = .ok (.istore 5, 2) := by decide +kernel
theorem dX6_plain_101 : decode prog_8_method_57_code 101 = .ok (.iload 5, 2) := by decide +kernel
theorem dX6_plain_103 : decode prog_8_method_57_code 103 = .ok (.iload_n 2, 1) := by decide +kernel
theorem dX6_plain_104 : decode prog_8_method_57_code 104 = .ok (.if_icmp .ge 22, 3) := by decide +kernel
theorem dX6_plain_107 : decode prog_8_method_57_code 107 = .ok (.aload_n 0, 1) := by decide +kernel
theorem dX6_plain_108 : decode prog_8_method_57_code 108 = .ok (.aload_n 0, 1) := by decide +kernel
theorem dX6_plain_109 : decode prog_8_method_57_code 109 = .ok (.iload_n 1, 1) := by decide +kernel
theorem dX6_plain_110 : decode prog_8_method_57_code 110 = .ok (.iload 5, 2) := by decide +kernel
theorem dX6_plain_112 : decode prog_8_method_57_code 112 = .ok (.invokevirtual 181, 3) := by decide +kernel
theorem dX6_plain_115 : decode prog_8_method_57_code 115 = .ok (.invokevirtual 174, 3) := by decide +kernel
theorem dX6_plain_118 : decode prog_8_method_57_code 118 = .ok (.istore 4, 2) := by decide +kernel
theorem dX6_plain_120 : decode prog_8_method_57_code 120 = .ok (.iinc 5 1, 3) := by decide +kernel
theorem dX6_plain_123 : decode prog_8_method_57_code 123 = .ok (.goto (-22), 3) := by decide +kernel
theorem dX6_plain_126 : decode prog_8_method_57_code 126 = .ok (.iconst 0, 1) := by decide +kernel
theorem dX6_plain_127 : decode prog_8_method_57_code 127 = .ok (.istore 5, 2) := by decide +kernel
theorem dX6_plain_129 : decode prog_8_method_57_code 129 = .ok (.iload 5, 2) := by decide +kernel
theorem dX6_plain_131 : decode prog_8_method_57_code 131 = .ok (.iload_n 3, 1) := by decide +kernel
theorem dX6_plain_132 : decode prog_8_method_57_code 132 = .ok (.ineg, 1) := by decide +kernel
theorem dX6_plain_133 : decode prog_8_method_57_code 133 = .ok (.if_icmp .ge 26, 3) := by decide +kernel
theorem dX6_plain_136 : decode prog_8_method_57_code 136 = .ok (.aload_n 0, 1) := by decide +kernel
theorem dX6_plain_137 : decode prog_8_method_57_code 137 = .ok (.getfield 14, 3) := by decide +kernel
theorem dX6_plain_140 : decode prog_8_method_57_code 140 = .ok (.iload_n 1, 1) := by decide +kernel
theorem dX6_plain_141 : decode prog_8_method_57_code 141 = .ok (.iaload, 1) := by decide +kernel
theorem dX6_plain_142 : decode prog_8_method_57_code 142 = .ok (.ifCond .le 17, 3) := by decide +kernel
theorem dX6_plain_145 : decode prog_8_method_57_code 145 = .ok (.aload_n 0, 1) := by decide +kernel
theorem dX6_plain_146 : decode prog_8_method_57_code 146 = .ok (.bipush 48, 2) := by decide +kernel
theorem dX6_plain_148 : decode prog_8_method_57_code 148 = .ok (.invokevirtual 174, 3) := by decide +kernel
theorem dX6_plain_151 : decode prog_8_method_57_code 151 = .ok (.istore 4, 2) := by decide +kernel
theorem dX6_plain_153 : decode prog_8_method_57_code 153 = .ok (.iinc 5 1, 3) := by decide +kernel
theorem dX6_plain_156 : decode prog_8_method_57_code 156 = .ok (.goto (-27), 3) := by decide +kernel
theorem dX6_plain_159 : decode prog_8_method_57_code 159 = .ok (.return_, 1) := by decide +kernel
theorem dX6_write_0 : decode prog_8_method_58_code 0 = .ok (.iload_n 1, 1) := by decide +kernel
theorem dX6_write_1 : decode prog_8_method_58_code 1 = .ok (.invokestatic 83, 3) := by decide +kernel
theorem dX6_write_4 : decode prog_8_method_58_code 4 = .ok (.ifCond .eq 12, 3) := by decide +kernel
theorem dX6_write_7 : decode prog_8_method_58_code 7 = .ok (.iload_n 2, 1) := by decide +kernel
theorem dX6_write_8 : decode prog_8_method_58_code 8 = .ok (.ifCond .lt 8, 3) := by decide +kernel
theorem dX6_write_11 : decode prog_8_method_58_code 11 = .ok (.iload_n 2, 1) := by decide +kernel
theorem dX6_write_12 : decode prog_8_method_58_code 12 = .ok (.iconst 2, 1) := by decide +kernel
theorem dX6_write_13 : decode prog_8_method_58_code 13 = .ok (.if_icmp .le 5, 3) := by decide +kernel
theorem dX6_write_16 : decode prog_8_method_58_code 16 = .ok (.iconst (-1), 1) := by decide +kernel
theorem dX6_write_17 : decode prog_8_method_58_code 17 = .ok (.ireturn, 1) := by decide +kernel
theorem dX6_write_18 : decode prog_8_method_58_code 18 = .ok (.aload_n 0, 1) := by decide +kernel
theorem dX6_write_19 : decode prog_8_method_58_code 19 = .ok (.iload_n 1, 1) := by decide +kernel
theorem dX6_write_20 : decode prog_8_method_58_code 20 = .ok (.invokevirtual 152, 3) := by decide +kernel
theorem dX6_write_23 : decode prog_8_method_58_code 23 = .ok (.istore_n 3, 1) := by decide +kernel
theorem dX6_write_24 : decode prog_8_method_58_code 24 = .ok (.iload_n 3, 1) := by decide +kernel
theorem dX6_write_25 : decode prog_8_method_58_code 25 = .ok (.i2l, 1) := by decide +kernel
theorem dX6_write_26 : decode prog_8_method_58_code 26 = .ok (.lconst 1, 1) := by decide +kernel
theorem dX6_write_27 : decode prog_8_method_58_code 27 = .ok (.lsub, 1) := by decide +kernel
theorem dX6_write_28 : decode prog_8_method_58_code 28 = .ok (.aload_n 0, 1) := by decide +kernel
theorem dX6_write_29 : decode prog_8_method_58_code 29 = .ok (.getfield 20, 3) := by decide +kernel
theorem dX6_write_32 : decode prog_8_method_58_code 32 = .ok (.iload_n 1, 1) := by decide +kernel
theorem dX6_write_33 : decode prog_8_method_58_code 33 = .ok (.iaload, 1) := by decide +kernel
theorem dX6_write_34 : decode prog_8_method_58_code 34 = .ok (.i2l, 1) := by decide +kernel
theorem dX6_write_35 : decode prog_8_method_58_code 35 = .ok (.lsub, 1) := by decide +kernel
theorem dX6_write_36 : decode prog_8_method_58_code 36 = .ok (.lstore 4, 2) := by decide +kernel
theorem dX6_write_38 : decode prog_8_method_58_code 38 = .ok (.iload_n 2, 1) := by decide +kernel
theorem dX6_write_39 : decode prog_8_method_58_code 39 = .ok (.iconst 2, 1) := by decide +kernel
theorem dX6_write_40 : decode prog_8_method_58_code 40 = .ok (.if_icmp .eq 21, 3) := by decide +kernel
theorem dX6_write_43 : decode prog_8_method_58_code 43 = .ok (.aload_n 0, 1) := by decide +kernel
theorem dX6_write_44 : decode prog_8_method_58_code 44 = .ok (.getfield 20, 3) := by decide +kernel
theorem dX6_write_47 : decode prog_8_method_58_code 47 = .ok (.iload_n 1, 1) := by decide +kernel
theorem dX6_write_48 : decode prog_8_method_58_code 48 = .ok (.iaload, 1) := by decide +kernel
theorem dX6_write_49 : decode prog_8_method_58_code 49 = .ok (.ifCond .lt 16, 3) := by decide +kernel
theorem dX6_write_52 : decode prog_8_method_58_code 52 = .ok (.lload 4, 2) := by decide +kernel
theorem dX6_write_54 : decode prog_8_method_58_code 54 = .ok (.ldc2_w 184, 3) := by decide +kernel
theorem dX6_write_57 : decode prog_8_method_58_code 57 = .ok (.lcmp, 1) := by decide +kernel
theorem dX6_write_58 : decode prog_8_method_58_code 58 = .ok (.ifCond .lt 7, 3) := by decide +kernel
theorem dX6_write_61 : decode prog_8_method_58_code 61 = .ok (.iconst 1, 1) := by decide +kernel
theorem dX6_write_62 : decode prog_8_method_58_code 62 = .ok (.goto 4, 3) := by decide +kernel
