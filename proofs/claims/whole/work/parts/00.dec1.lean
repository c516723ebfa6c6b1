theorem dX2_addBack_33 : decode prog_4_method_28_code 33 = .ok (.lload 6, 2) := by decide +kernel
theorem dX2_addBack_35 : decode prog_4_method_28_code 35 = .ok (.ladd, 1) := by decide +kernel
theorem dX2_addBack_36 : decode prog_4_method_28_code 36 = .ok (.lstore 9, 2) := by decide +kernel
theorem dX2_addBack_38 : decode prog_4_method_28_code 38 = .ok (.lload 9, 2) := by decide +kernel
theorem dX2_addBack_40 : decode prog_4_method_28_code 40 = .ok (.ldc2_w 32, 3) := by decide +kernel
theorem dX2_addBack_43 : decode prog_4_method_28_code 43 = .ok (.ldiv, 1) := by decide +kernel
theorem dX2_addBack_44 : decode prog_4_method_28_code 44 = .ok (.lstore 6, 2) := by decide +kernel
theorem dX2_addBack_46 : decode prog_4_method_28_code 46 = .ok (.aload 5, 2) := by decide +kernel
theorem dX2_addBack_48 : decode prog_4_method_28_code 48 = .ok (.iload 8, 2) := by decide +kernel
theorem dX2_addBack_50 : decode prog_4_method_28_code 50 = .ok (.iload 4, 2) := by decide +kernel
theorem dX2_addBack_52 : decode prog_4_method_28_code 52 = .ok (.iadd, 1) := by decide +kernel
theorem dX2_addBack_53 : decode prog_4_method_28_code 53 = .ok (.lload 9, 2) := by decide +kernel
theorem dX2_addBack_55 : decode prog_4_method_28_code 55 = .ok (.lload 6, 2) := by decide +kernel
theorem dX2_addBack_57 : decode prog_4_method_28_code 57 = .ok (.ldc2_w 32, 3) := by decide +kernel
theorem dX2_addBack_60 : decode prog_4_method_28_code 60 = .ok (.lmul, 1) := by decide +kernel
theorem dX2_addBack_61 : decode prog_4_method_28_code 61 = .ok (.lsub, 1) := by decide +kernel
theorem dX2_addBack_62 : decode prog_4_method_28_code 62 = .ok (.l2i, 1) := by decide +kernel
theorem dX2_addBack_63 : decode prog_4_method_28_code 63 = .ok (.iastore, 1) := by decide +kernel
theorem dX2_addBack_64 : decode prog_4_method_28_code 64 = .ok (.iinc 8 1, 3) := by decide +kernel
theorem dX2_addBack_67 : decode prog_4_method_28_code 67 = .ok (.goto (-55), 3) := by decide +kernel
theorem dX2_addBack_70 : decode prog_4_method_28_code 70 = .ok (.lload 6, 2) := by decide +kernel
theorem dX2_addBack_72 : decode prog_4_method_28_code 72 = .ok (.lreturn, 1) := by decide +kernel
theorem dX2_takeRoot_0 : decode prog_4_method_29_code 0 = .ok (.aload_n 1, 1) := by decide +kernel
theorem dX2_takeRoot_1 : decode prog_4_method_29_code 1 = .ok (.iconst 0, 1) := by decide +kernel
theorem dX2_takeRoot_2 : decode prog_4_method_29_code 2 = .ok (.putfield 15, 3) := by decide +kernel
theorem dX2_takeRoot_5 : decode prog_4_method_29_code 5 = .ok (.aload_n 0, 1) := by decide +kernel
theorem dX2_takeRoot_6 : decode prog_4_method_29_code 6 = .ok (.getfield 15, 3) := by decide +kernel
theorem dX2_takeRoot_9 : decode prog_4_method_29_code 9 = .ok (.iconst 2, 1) := by decide +kernel
theorem dX2_takeRoot_10 : decode prog_4_method_29_code 10 = .ok (.idiv, 1) := by decide +kernel
theorem dX2_takeRoot_11 : decode prog_4_method_29_code 11 = .ok (.istore_n 3, 1) := by decide +kernel
theorem dX2_takeRoot_12 : decode prog_4_method_29_code 12 = .ok (.iload_n 3, 1) := by decide +kernel
theorem dX2_takeRoot_13 : decode prog_4_method_29_code 13 = .ok (.ifCond .eq 13, 3) := by decide +kernel
theorem dX2_takeRoot_16 : decode prog_4_method_29_code 16 = .ok (.aload_n 0, 1) := by decide +kernel
theorem dX2_takeRoot_17 : decode prog_4_method_29_code 17 = .ok (.getfield 15, 3) := by decide +kernel
theorem dX2_takeRoot_20 : decode prog_4_method_29_code 20 = .ok (.iconst 2, 1) := by decide +kernel
theorem dX2_takeRoot_21 : decode prog_4_method_29_code 21 = .ok (.iload_n 3, 1) := by decide +kernel
theorem dX2_takeRoot_22 : decode prog_4_method_29_code 22 = .ok (.imul, 1) := by decide +kernel
theorem dX2_takeRoot_23 : decode prog_4_method_29_code 23 = .ok (.if_icmp .eq 4, 3) := by decide +kernel
theorem dX2_takeRoot_26 : decode prog_4_method_29_code 26 = .ok (.return_, 1) := by decide +kernel
theorem dX2_takeRoot_27 : decode prog_4_method_29_code 27 = .ok (.aload_n 1, 1) := by decide +kernel
theorem dX2_takeRoot_28 : decode prog_4_method_29_code 28 = .ok (.iload_n 3, 1) := by decide +kernel
theorem dX2_takeRoot_29 : decode prog_4_method_29_code 29 = .ok (.invokevirtual 22, 3) := by decide +kernel
theorem dX2_takeRoot_32 : decode prog_4_method_29_code 32 = .ok (.aload_n 2, 1) := by decide +kernel
theorem dX2_takeRoot_33 : decode prog_4_method_29_code 33 = .ok (.iload_n 3, 1) := by decide +kernel
theorem dX2_takeRoot_34 : decode prog_4_method_29_code 34 = .ok (.invokevirtual 22, 3) := by decide +kernel
theorem dX2_takeRoot_37 : decode prog_4_method_29_code 37 = .ok (.aload_n 2, 1) := by decide +kernel
theorem dX2_takeRoot_38 : decode prog_4_method_29_code 38 = .ok (.iconst 0, 1) := by decide +kernel
theorem dX2_takeRoot_39 : decode prog_4_method_29_code 39 = .ok (.putfield 15, 3) := by decide +kernel
theorem dX2_takeRoot_42 : decode prog_4_method_29_code 42 = .ok (.aload_n 0, 1) := by decide +kernel
theorem dX2_takeRoot_43 : decode prog_4_method_29_code 43 = .ok (.getfield 9, 3) := by decide +kernel
theorem dX2_takeRoot_46 : decode prog_4_method_29_code 46 = .ok (.aload_n 0, 1) := by decide +kernel
theorem dX2_takeRoot_47 : decode prog_4_method_29_code 47 = .ok (.getfield 15, 3) := by decide +kernel
theorem dX2_takeRoot_50 : decode prog_4_method_29_code 50 = .ok (.iconst 1, 1) := by decide +kernel
theorem dX2_takeRoot_51 : decode prog_4_method_29_code 51 = .ok (.isub, 1) := by decide +kernel
theorem dX2_takeRoot_52 : decode prog_4_method_29_code 52 = .ok (.iaload, 1) := by decide +kernel
theorem dX2_takeRoot_53 : decode prog_4_method_29_code 53 = .ok (.i2l, 1) := by decide +kernel
theorem dX2_takeRoot_54 : decode prog_4_method_29_code 54 = .ok (.ldc2_w 32, 3) := by decide +kernel
theorem dX2_takeRoot_57 : decode prog_4_method_29_code 57 = .ok (.lmul, 1) := by decide +kernel
theorem dX2_takeRoot_58 : decode prog_4_method_29_code 58 = .ok (.aload_n 0, 1) := by decide +kernel
theorem dX2_takeRoot_59 : decode prog_4_method_29_code 59 = .ok (.getfield 9, 3) := by decide +kernel
theorem dX2_takeRoot_62 : decode prog_4_method_29_code 62 = .ok (.aload_n 0, 1) := by decide +kernel
theorem dX2_takeRoot_63 : decode prog_4_method_29_code 63 = .ok (.getfield 15, 3) := by decide +kernel
theorem dX2_takeRoot_66 : decode prog_4_method_29_code 66 = .ok (.iconst 2, 1) := by decide +kernel
theorem dX2_takeRoot_67 : decode prog_4_method_29_code 67 = .ok (.isub, 1) := by decide +kernel
theorem dX2_takeRoot_68 : decode prog_4_method_29_code 68 = .ok (.iaload, 1) := by decide +kernel
theorem dX2_takeRoot_69 : decode prog_4_method_29_code 69 = .ok (.i2l, 1) := by decide +kernel
theorem dX2_takeRoot_70 : decode prog_4_method_29_code 70 = .ok (.ladd, 1) := by decide +kernel
theorem dX2_takeRoot_71 : decode prog_4_method_29_code 71 = .ok (.lstore 4, 2) := by decide +kernel
theorem dX2_takeRoot_73 : decode prog_4_method_29_code 73 = .ok (.lload 4, 2) := by decide +kernel
theorem dX2_takeRoot_75 : decode prog_4_method_29_code 75 = .ok (.invokestatic 101, 3) := by decide +kernel
theorem dX2_takeRoot_78 : decode prog_4_method_29_code 78 = .ok (.lstore 6, 2) := by decide +kernel
theorem dX2_takeRoot_80 : decode prog_4_method_29_code 80 = .ok (.lload 4, 2) := by decide +kernel
theorem dX2_takeRoot_82 : decode prog_4_method_29_code 82 = .ok (.lload 6, 2) := by decide +kernel
theorem dX2_takeRoot_84 : decode prog_4_method_29_code 84 = .ok (.lload 6, 2) := by decide +kernel
theorem dX2_takeRoot_86 : decode prog_4_method_29_code 86 = .ok (.lmul, 1) := by decide +kernel
theorem dX2_takeRoot_87 : decode prog_4_method_29_code 87 = .ok (.lsub, 1) := by decide +kernel
theorem dX2_takeRoot_88 : decode prog_4_method_29_code 88 = .ok (.lstore 8, 2) := by decide +kernel
theorem dX2_takeRoot_90 : decode prog_4_method_29_code 90 = .ok (.aload_n 0, 1) := by decide +kernel
theorem dX2_takeRoot_91 : decode prog_4_method_29_code 91 = .ok (.getfield 9, 3) := by decide +kernel
theorem dX2_takeRoot_94 : decode prog_4_method_29_code 94 = .ok (.aload_n 0, 1) := by decide +kernel
theorem dX2_takeRoot_95 : decode prog_4_method_29_code 95 = .ok (.getfield 15, 3) := by decide +kernel
theorem dX2_takeRoot_98 : decode prog_4_method_29_code 98 = .ok (.iconst 1, 1) := by decide +kernel
theorem dX2_takeRoot_99 : decode prog_4_method_29_code 99 = .ok (.isub, 1) := by decide +kernel
theorem dX2_takeRoot_100 : decode prog_4_method_29_code 100 = .ok (.lload 8, 2) := by decide +kernel
theorem dX2_takeRoot_102 : decode prog_4_method_29_code 102 = .ok (.ldc2_w 32, 3) := by decide +kernel
theorem dX2_takeRoot_105 : decode prog_4_method_29_code 105 = .ok (.ldiv, 1) := by decide +kernel
theorem dX2_takeRoot_106 : decode prog_4_method_29_code 106 = .ok (.l2i, 1) := by decide +kernel
theorem dX2_takeRoot_107 : decode prog_4_method_29_code 107 = .ok (.iastore, 1) := by decide +kernel
theorem dX2_takeRoot_108 : decode prog_4_method_29_code 108 = .ok (.aload_n 0, 1) := by decide +kernel
theorem dX2_takeRoot_109 : decode prog_4_method_29_code 109 = .ok (.getfield 9, 3) := by decide +kernel
theorem dX2_takeRoot_112 : decode prog_4_method_29_code 112 = .ok (.aload_n 0, 1) := by decide +kernel
theorem dX2_takeRoot_113 : decode prog_4_method_29_code 113 = .ok (.getfield 15, 3) := by decide +kernel
theorem dX2_takeRoot_116 : decode prog_4_method_29_code 116 = .ok (.iconst 2, 1) := by decide +kernel
theorem dX2_takeRoot_117 : decode prog_4_method_29_code 117 = .ok (.isub, 1) := by decide +kernel
theorem dX2_takeRoot_118 : decode prog_4_method_29_code 118 = .ok (.lload 8, 2) := by decide +kernel
theorem dX2_takeRoot_120 : decode prog_4_method_29_code 120 = .ok (.ldc2_w 32, 3) := by decide +kernel
theorem dX2_takeRoot_123 : decode prog_4_method_29_code 123 = .ok (.lrem, 1) := by decide +kernel
theorem dX2_takeRoot_124 : decode prog_4_method_29_code 124 = .ok (.l2i, 1) := by decide +kernel
theorem dX2_takeRoot_125 : decode prog_4_method_29_code 125 = .ok (.iastore, 1) := by decide +kernel
theorem dX2_takeRoot_126 : decode prog_4_method_29_code 126 = .ok (.aload_n 1, 1) := by decide +kernel
theorem dX2_takeRoot_127 : decode prog_4_method_29_code 127 = .ok (.getfield 9, 3) := by decide +kernel
theorem dX2_takeRoot_130 : decode prog_4_method_29_code 130 = .ok (.iload_n 3, 1) := by decide +kernel
theorem dX2_takeRoot_131 : decode prog_4_method_29_code 131 = .ok (.iconst 1, 1) := by decide +kernel
theorem dX2_takeRoot_132 : decode prog_4_method_29_code 132 = .ok (.isub, 1) := by decide +kernel
theorem dX2_takeRoot_133 : decode prog_4_method_29_code 133 = .ok (.lload 6, 2) := by decide +kernel
theorem dX2_takeRoot_135 : decode prog_4_method_29_code 135 = .ok (.l2i, 1) := by decide +kernel
theorem dX2_takeRoot_136 : decode prog_4_method_29_code 136 = .ok (.iastore, 1) := by decide +kernel
theorem dX2_takeRoot_137 : decode prog_4_method_29_code 137 = .ok (.aload_n 2, 1) := by decide +kernel
theorem dX2_takeRoot_138 : decode prog_4_method_29_code 138 = .ok (.getfield 9, 3) := by decide +kernel
theorem dX2_takeRoot_141 : decode prog_4_method_29_code 141 = .ok (.iload_n 3, 1) := by decide +kernel
theorem dX2_takeRoot_142 : decode prog_4_method_29_code 142 = .ok (.iconst 1, 1) := by decide +kernel
theorem dX2_takeRoot_143 : decode prog_4_method_29_code 143 = .ok (.isub, 1) := by decide +kernel
theorem dX2_takeRoot_144 : decode prog_4_method_29_code 144 = .ok (.ldc2_w 105, 3) := by decide +kernel
theorem dX2_takeRoot_147 : decode prog_4_method_29_code 147 = .ok (.lload 6, 2) := by decide +kernel
theorem dX2_takeRoot_149 : decode prog_4_method_29_code 149 = .ok (.lmul, 1) := by decide +kernel
theorem dX2_takeRoot_150 : decode prog_4_method_29_code 150 = .ok (.l2i, 1) := by decide +kernel
theorem dX2_takeRoot_151 : decode prog_4_method_29_code 151 = .ok (.iastore, 1) := by decide +kernel
theorem dX2_takeRoot_152 : decode prog_4_method_29_code 152 = .ok (.iload_n 3, 1) := by decide +kernel
theorem dX2_takeRoot_153 : decode prog_4_method_29_code 153 = .ok (.iconst 2, 1) := by decide +kernel
theorem dX2_takeRoot_154 : decode prog_4_method_29_code 154 = .ok (.isub, 1) := by decide +kernel
theorem dX2_takeRoot_155 : decode prog_4_method_29_code 155 = .ok (.istore 10, 2) := by decide +kernel
theorem dX2_takeRoot_157 : decode prog_4_method_29_code 157 = .ok (.iload 10, 2) := by decide +kernel
theorem dX2_takeRoot_159 : decode prog_4_method_29_code 159 = .ok (.ifCond .lt 87, 3) := by decide +kernel
theorem dX2_takeRoot_162 : decode prog_4_method_29_code 162 = .ok (.aload_n 0, 1) := by decide +kernel
theorem dX2_takeRoot_163 : decode prog_4_method_29_code 163 = .ok (.aload_n 2, 1) := by decide +kernel
theorem dX2_takeRoot_164 : decode prog_4_method_29_code 164 = .ok (.getfield 9, 3) := by decide +kernel
theorem dX2_takeRoot_167 : decode prog_4_method_29_code 167 = .ok (.iload_n 3, 1) := by decide +kernel
theorem dX2_takeRoot_168 : decode prog_4_method_29_code 168 = .ok (.iload 10, 2) := by decide +kernel
theorem dX2_takeRoot_170 : decode prog_4_method_29_code 170 = .ok (.aload_n 0, 1) := by decide +kernel
theorem dX2_takeRoot_171 : decode prog_4_method_29_code 171 = .ok (.aload_n 2, 1) := by decide +kernel
theorem dX2_takeRoot_172 : decode prog_4_method_29_code 172 = .ok (.getfield 9, 3) := by decide +kernel
theorem dX2_takeRoot_175 : decode prog_4_method_29_code 175 = .ok (.iload_n 3, 1) := by decide +kernel
theorem dX2_takeRoot_176 : decode prog_4_method_29_code 176 = .ok (.iload 10, 2) := by decide +kernel
theorem dX2_takeRoot_178 : decode prog_4_method_29_code 178 = .ok (.invokevirtual 107, 3) := by decide +kernel
theorem dX2_takeRoot_181 : decode prog_4_method_29_code 181 = .ok (.invokevirtual 110, 3) := by decide +kernel
theorem dX2_takeRoot_184 : decode prog_4_method_29_code 184 = .ok (.istore 11, 2) := by decide +kernel
theorem dX2_takeRoot_186 : decode prog_4_method_29_code 186 = .ok (.aload_n 1, 1) := by decide +kernel
theorem dX2_takeRoot_187 : decode prog_4_method_29_code 187 = .ok (.getfield 9, 3) := by decide +kernel
theorem dX2_takeRoot_190 : decode prog_4_method_29_code 190 = .ok (.iload 10, 2) := by decide +kernel
theorem dX2_takeRoot_192 : decode prog_4_method_29_code 192 = .ok (.iload 11, 2) := by decide +kernel
theorem dX2_takeRoot_194 : decode prog_4_method_29_code 194 = .ok (.iastore, 1) := by decide +kernel
theorem dX2_takeRoot_195 : decode prog_4_method_29_code 195 = .ok (.aload_n 2, 1) := by decide +kernel
theorem dX2_takeRoot_196 : decode prog_4_method_29_code 196 = .ok (.getfield 9, 3) := by decide +kernel
theorem dX2_takeRoot_199 : decode prog_4_method_29_code 199 = .ok (.iload 10, 2) := by decide +kernel
theorem dX2_takeRoot_201 : decode prog_4_method_29_code 201 = .ok (.iconst 2, 1) := by decide +kernel
theorem dX2_takeRoot_202 : decode prog_4_method_29_code 202 = .ok (.iload 11, 2) := by decide +kernel
theorem dX2_takeRoot_204 : decode prog_4_method_29_code 204 = .ok (.imul, 1) := by decide +kernel
theorem dX2_takeRoot_205 : decode prog_4_method_29_code 205 = .ok (.iastore, 1) := by decide +kernel
theorem dX2_takeRoot_206 : decode prog_4_method_29_code 206 = .ok (.iconst 2, 1) := by decide +kernel
theorem dX2_takeRoot_207 : decode prog_4_method_29_code 207 = .ok (.iload 11, 2) := by decide +kernel
theorem dX2_takeRoot_209 : decode prog_4_method_29_code 209 = .ok (.imul, 1) := by decide +kernel
theorem dX2_takeRoot_210 : decode prog_4_method_29_code 210 = .ok (.ldc 66, 2) := by decide +kernel
theorem dX2_takeRoot_212 : decode prog_4_method_29_code 212 = .ok (.if_icmp .lt 28, 3) := by decide +kernel
theorem dX2_takeRoot_215 : decode prog_4_method_29_code 215 = .ok (.aload_n 2, 1) := by decide +kernel
theorem dX2_takeRoot_216 : decode prog_4_method_29_code 216 = .ok (.getfield 9, 3) := by decide +kernel
theorem dX2_takeRoot_219 : decode prog_4_method_29_code 219 = .ok (.iload 10, 2) := by decide +kernel
theorem dX2_takeRoot_221 : decode prog_4_method_29_code 221 = .ok (.dup2, 1) := by decide +kernel
theorem dX2_takeRoot_222 : decode prog_4_method_29_code 222 = .ok (.iaload, 1) := by decide +kernel
theorem dX2_takeRoot_223 : decode prog_4_method_29_code 223 = .ok (.ldc 66, 2) := by decide +kernel
theorem dX2_takeRoot_225 : decode prog_4_method_29_code 225 = .ok (.isub, 1) := by decide +kernel
theorem dX2_takeRoot_226 : decode prog_4_method_29_code 226 = .ok (.iastore, 1) := by decide +kernel
theorem dX2_takeRoot_227 : decode prog_4_method_29_code 227 = .ok (.aload_n 2, 1) := by decide +kernel
theorem dX2_takeRoot_228 : decode prog_4_method_29_code 228 = .ok (.getfield 9, 3) := by decide +kernel
theorem dX2_takeRoot_231 : decode prog_4_method_29_code 231 = .ok (.iload 10, 2) := by decide +kernel
theorem dX2_takeRoot_233 : decode prog_4_method_29_code 233 = .ok (.iconst 1, 1) := by decide +kernel
theorem dX2_takeRoot_234 : decode prog_4_method_29_code 234 = .ok (.iadd, 1) := by decide +kernel
theorem dX2_takeRoot_235 : decode prog_4_method_29_code 235 = .ok (.dup2, 1) := by decide +kernel
theorem dX2_takeRoot_236 : decode prog_4_method_29_code 236 = .ok (.iaload, 1) := by decide +kernel
theorem dX2_takeRoot_237 : decode prog_4_method_29_code 237 = .ok (.iconst 1, 1) := by decide +kernel
theorem dX2_takeRoot_238 : decode prog_4_method_29_code 238 = .ok (.iadd, 1) := by decide +kernel
theorem dX2_takeRoot_239 : decode prog_4_method_29_code 239 = .ok (.iastore, 1) := by decide +kernel
theorem dX2_takeRoot_240 : decode prog_4_method_29_code 240 = .ok (.iinc 10 (-1), 3) := by decide +kernel
theorem dX2_takeRoot_243 : decode prog_4_method_29_code 243 = .ok (.goto (-86), 3) := by decide +kernel
theorem dX2_takeRoot_246 : decode prog_4_method_29_code 246 = .ok (.aload_n 1, 1) := by decide +kernel
theorem dX2_takeRoot_247 : decode prog_4_method_29_code 247 = .ok (.iload_n 3, 1) := by decide +kernel
theorem dX2_takeRoot_248 : decode prog_4_method_29_code 248 = .ok (.putfield 15, 3) := by decide +kernel
theorem dX2_takeRoot_251 : decode prog_4_method_29_code 251 = .ok (.aload_n 1, 1) := by decide +kernel
theorem dX2_takeRoot_252 : decode prog_4_method_29_code 252 = .ok (.invokevirtual 48, 3) := by decide +kernel
theorem dX2_takeRoot_255 : decode prog_4_method_29_code 255 = .ok (.aload_n 0, 1) := by decide +kernel
theorem dX2_takeRoot_256 : decode prog_4_method_29_code 256 = .ok (.invokevirtual 48, 3) := by decide +kernel
theorem dX2_takeRoot_259 : decode prog_4_method_29_code 259 = .ok (.return_, 1) := by decide +kernel
theorem dX2_rootOf_0 : decode prog_4_method_30_code 0 = .ok (.ldc2_w 32, 3) := by decide +kernel
theorem dX2_rootOf_3 : decode prog_4_method_30_code 3 = .ok (.lstore_n 2, 1) := by decide +kernel
theorem dX2_rootOf_4 : decode prog_4_method_30_code 4 = .ok (.iconst 0, 1) := by decide +kernel
theorem dX2_rootOf_5 : decode prog_4_method_30_code 5 = .ok (.istore 4, 2) := by decide +kernel
theorem dX2_rootOf_7 : decode prog_4_method_30_code 7 = .ok (.iload 4, 2) := by decide +kernel
theorem dX2_rootOf_9 : decode prog_4_method_30_code 9 = .ok (.bipush 64, 2) := by decide +kernel
theorem dX2_rootOf_11 : decode prog_4_method_30_code 11 = .ok (.if_icmp .ge 38, 3) := by decide +kernel
theorem dX2_rootOf_14 : decode prog_4_method_30_code 14 = .ok (.lload_n 2, 1) := by decide +kernel
theorem dX2_rootOf_15 : decode prog_4_method_30_code 15 = .ok (.lconst 0, 1) := by decide +kernel
theorem dX2_rootOf_16 : decode prog_4_method_30_code 16 = .ok (.lcmp, 1) := by decide +kernel
theorem dX2_rootOf_17 : decode prog_4_method_30_code 17 = .ok (.ifCond .le 32, 3) := by decide +kernel
theorem dX2_rootOf_20 : decode prog_4_method_30_code 20 = .ok (.lload_n 2, 1) := by decide +kernel
theorem dX2_rootOf_21 : decode prog_4_method_30_code 21 = .ok (.lload_n 0, 1) := by decide +kernel
theorem dX2_rootOf_22 : decode prog_4_method_30_code 22 = .ok (.lload_n 2, 1) := by decide +kernel
theorem dX2_rootOf_23 : decode prog_4_method_30_code 23 = .ok (.ldiv, 1) := by decide +kernel
theorem dX2_rootOf_24 : decode prog_4_method_30_code 24 = .ok (.ladd, 1) := by decide +kernel
theorem dX2_rootOf_25 : decode prog_4_method_30_code 25 = .ok (.ldc2_w 105, 3) := by decide +kernel
theorem dX2_rootOf_28 : decode prog_4_method_30_code 28 = .ok (.ldiv, 1) := by decide +kernel
theorem dX2_rootOf_29 : decode prog_4_method_30_code 29 = .ok (.lstore 5, 2) := by decide +kernel
theorem dX2_rootOf_31 : decode prog_4_method_30_code 31 = .ok (.lload 5, 2) := by decide +kernel
theorem dX2_rootOf_33 : decode prog_4_method_30_code 33 = .ok (.lload_n 2, 1) := by decide +kernel
theorem dX2_rootOf_34 : decode prog_4_method_30_code 34 = .ok (.lcmp, 1) := by decide +kernel
theorem dX2_rootOf_35 : decode prog_4_method_30_code 35 = .ok (.ifCond .lt 5, 3) := by decide +kernel
theorem dX2_rootOf_38 : decode prog_4_method_30_code 38 = .ok (.lload_n 2, 1) := by decide +kernel
theorem dX2_rootOf_39 : decode prog_4_method_30_code 39 = .ok (.lreturn, 1) := by decide +kernel
theorem dX2_rootOf_40 : decode prog_4_method_30_code 40 = .ok (.lload 5, 2) := by decide +kernel
theorem dX2_rootOf_42 : decode prog_4_method_30_code 42 = .ok (.lstore_n 2, 1) := by decide +kernel
theorem dX2_rootOf_43 : decode prog_4_method_30_code 43 = .ok (.iinc 4 1, 3) := by decide +kernel
theorem dX2_rootOf_46 : decode prog_4_method_30_code 46 = .ok (.goto (-39), 3) := by decide +kernel
theorem dX2_rootOf_49 : decode prog_4_method_30_code 49 = .ok (.lload_n 2, 1) := by decide +kernel
theorem dX2_rootOf_50 : decode prog_4_method_30_code 50 = .ok (.lreturn, 1) := by decide +kernel
theorem dX2_guessRootLimb_0 : decode prog_4_method_31_code 0 = .ok (.iload_n 2, 1) := by decide +kernel
theorem dX2_guessRootLimb_1 : decode prog_4_method_31_code 1 = .ok (.iload_n 3, 1) := by decide +kernel
theorem dX2_guessRootLimb_2 : decode prog_4_method_31_code 2 = .ok (.iadd, 1) := by decide +kernel
theorem dX2_guessRootLimb_3 : decode prog_4_method_31_code 3 = .ok (.istore 4, 2) := by decide +kernel
theorem dX2_guessRootLimb_5 : decode prog_4_method_31_code 5 = .ok (.aload_n 1, 1) := by decide +kernel
theorem dX2_guessRootLimb_6 : decode prog_4_method_31_code 6 = .ok (.iload_n 2, 1) := by decide +kernel
theorem dX2_guessRootLimb_7 : decode prog_4_method_31_code 7 = .ok (.iconst 1, 1) := by decide +kernel
theorem dX2_guessRootLimb_8 : decode prog_4_method_31_code 8 = .ok (.isub, 1) := by decide +kernel
theorem dX2_guessRootLimb_9 : decode prog_4_method_31_code 9 = .ok (.iaload, 1) := by decide +kernel
theorem dX2_guessRootLimb_10 : decode prog_4_method_31_code 10 = .ok (.i2l, 1) := by decide +kernel
theorem dX2_guessRootLimb_11 : decode prog_4_method_31_code 11 = .ok (.lstore 5, 2) := by decide +kernel
theorem dX2_guessRootLimb_13 : decode prog_4_method_31_code 13 = .ok (.lload 5, 2) := by decide +kernel
theorem dX2_guessRootLimb_15 : decode prog_4_method_31_code 15 = .ok (.lconst 0, 1) := by decide +kernel
theorem dX2_guessRootLimb_16 : decode prog_4_method_31_code 16 = .ok (.lcmp, 1) := by decide +kernel
theorem dX2_guessRootLimb_17 : decode prog_4_method_31_code 17 = .ok (.ifCond .gt 5, 3) := by decide +kernel
theorem dX2_guessRootLimb_20 : decode prog_4_method_31_code 20 = .ok (.iconst 0, 1) := by decide +kernel
theorem dX2_guessRootLimb_21 : decode prog_4_method_31_code 21 = .ok (.ireturn, 1) := by decide +kernel
theorem dX2_guessRootLimb_22 : decode prog_4_method_31_code 22 = .ok (.aload_n 0, 1) := by decide +kernel
theorem dX2_guessRootLimb_23 : decode prog_4_method_31_code 23 = .ok (.getfield 9, 3) := by decide +kernel
theorem dX2_guessRootLimb_26 : decode prog_4_method_31_code 26 = .ok (.iload 4, 2) := by decide +kernel
theorem dX2_guessRootLimb_28 : decode prog_4_method_31_code 28 = .ok (.iconst 1, 1) := by decide +kernel
theorem dX2_guessRootLimb_29 : decode prog_4_method_31_code 29 = .ok (.iadd, 1) := by decide +kernel
theorem dX2_guessRootLimb_30 : decode prog_4_method_31_code 30 = .ok (.iaload, 1) := by decide +kernel
theorem dX2_guessRootLimb_31 : decode prog_4_method_31_code 31 = .ok (.i2l, 1) := by decide +kernel
theorem dX2_guessRootLimb_32 : decode prog_4_method_31_code 32 = .ok (.ldc2_w 32, 3) := by decide +kernel
theorem dX2_guessRootLimb_35 : decode prog_4_method_31_code 35 = .ok (.lmul, 1) := by decide +kernel
theorem dX2_guessRootLimb_36 : decode prog_4_method_31_code 36 = .ok (.aload_n 0, 1) := by decide +kernel
theorem dX2_guessRootLimb_37 : decode prog_4_method_31_code 37 = .ok (.getfield 9, 3) := by decide +kernel
theorem dX2_guessRootLimb_40 : decode prog_4_method_31_code 40 = .ok (.iload 4, 2) := by decide +kernel
theorem dX2_guessRootLimb_42 : decode prog_4_method_31_code 42 = .ok (.iaload, 1) := by decide +kernel
theorem dX2_guessRootLimb_43 : decode prog_4_method_31_code 43 = .ok (.i2l, 1) := by decide +kernel
theorem dX2_guessRootLimb_44 : decode prog_4_method_31_code 44 = .ok (.ladd, 1) := by decide +kernel
theorem dX2_guessRootLimb_45 : decode prog_4_method_31_code 45 = .ok (.lstore 7, 2) := by decide +kernel
theorem dX2_guessRootLimb_47 : decode prog_4_method_31_code 47 = .ok (.lload 7, 2) := by decide +kernel
theorem dX2_guessRootLimb_49 : decode prog_4_method_31_code 49 = .ok (.ldc2_w 32, 3) := by decide +kernel
theorem dX2_guessRootLimb_52 : decode prog_4_method_31_code 52 = .ok (.lmul, 1) := by decide +kernel
theorem dX2_guessRootLimb_53 : decode prog_4_method_31_code 53 = .ok (.aload_n 0, 1) := by decide +kernel
theorem dX2_guessRootLimb_54 : decode prog_4_method_31_code 54 = .ok (.getfield 9, 3) := by decide +kernel
theorem dX2_guessRootLimb_57 : decode prog_4_method_31_code 57 = .ok (.iload 4, 2) := by decide +kernel
theorem dX2_guessRootLimb_59 : decode prog_4_method_31_code 59 = .ok (.iconst 1, 1) := by decide +kernel
theorem dX2_guessRootLimb_60 : decode prog_4_method_31_code 60 = .ok (.isub, 1) := by decide +kernel
theorem dX2_guessRootLimb_61 : decode prog_4_method_31_code 61 = .ok (.iaload, 1) := by decide +kernel
theorem dX2_guessRootLimb_62 : decode prog_4_method_31_code 62 = .ok (.i2l, 1) := by decide +kernel
theorem dX2_guessRootLimb_63 : decode prog_4_method_31_code 63 = .ok (.ladd, 1) := by decide +kernel
theorem dX2_guessRootLimb_64 : decode prog_4_method_31_code 64 = .ok (.lstore 9, 2) := by decide +kernel
theorem dX2_guessRootLimb_66 : decode prog_4_method_31_code 66 = .ok (.iload_n 3, 1) := by decide +kernel
theorem dX2_guessRootLimb_67 : decode prog_4_method_31_code 67 = .ok (.iload_n 2, 1) := by decide +kernel
theorem dX2_guessRootLimb_68 : decode prog_4_method_31_code 68 = .ok (.iconst 2, 1) := by decide +kernel
theorem dX2_guessRootLimb_69 : decode prog_4_method_31_code 69 = .ok (.isub, 1) := by decide +kernel
theorem dX2_guessRootLimb_70 : decode prog_4_method_31_code 70 = .ok (.if_icmp .ne 16, 3) := by decide +kernel
theorem dX2_guessRootLimb_73 : decode prog_4_method_31_code 73 = .ok (.lload 9, 2) := by decide +kernel
theorem dX2_guessRootLimb_75 : decode prog_4_method_31_code 75 = .ok (.lload 5, 2) := by decide +kernel
theorem dX2_guessRootLimb_77 : decode prog_4_method_31_code 77 = .ok (.ldiv, 1) := by decide +kernel
theorem dX2_guessRootLimb_78 : decode prog_4_method_31_code 78 = .ok (.ldc2_w 87, 3) := by decide +kernel
theorem dX2_guessRootLimb_81 : decode prog_4_method_31_code 81 = .ok (.invokestatic 89, 3) := by decide +kernel
theorem dX2_guessRootLimb_84 : decode prog_4_method_31_code 84 = .ok (.l2i, 1) := by decide +kernel
theorem dX2_guessRootLimb_85 : decode prog_4_method_31_code 85 = .ok (.ireturn, 1) := by decide +kernel
theorem dX2_guessRootLimb_86 : decode prog_4_method_31_code 86 = .ok (.lload 9, 2) := by decide +kernel
theorem dX2_guessRootLimb_88 : decode prog_4_method_31_code 88 = .ok (.lload 5, 2) := by decide +kernel
theorem dX2_guessRootLimb_90 : decode prog_4_method_31_code 90 = .ok (.ldiv, 1) := by decide +kernel
theorem dX2_guessRootLimb_91 : decode prog_4_method_31_code 91 = .ok (.lload 9, 2) := by decide +kernel
theorem dX2_guessRootLimb_93 : decode prog_4_method_31_code 93 = .ok (.lload 5, 2) := by decide +kernel
theorem dX2_guessRootLimb_95 : decode prog_4_method_31_code 95 = .ok (.lrem, 1) := by decide +kernel
theorem dX2_guessRootLimb_96 : decode prog_4_method_31_code 96 = .ok (.lload 5, 2) := by decide +kernel
theorem dX2_guessRootLimb_98 : decode prog_4_method_31_code 98 = .ok (.aload_n 1, 1) := by decide +kernel
theorem dX2_guessRootLimb_99 : decode prog_4_method_31_code 99 = .ok (.iload_n 2, 1) := by decide +kernel
theorem dX2_guessRootLimb_100 : decode prog_4_method_31_code 100 = .ok (.iconst 2, 1) := by decide +kernel
theorem dX2_guessRootLimb_101 : decode prog_4_method_31_code 101 = .ok (.isub, 1) := by decide +kernel
theorem dX2_guessRootLimb_102 : decode prog_4_method_31_code 102 = .ok (.iaload, 1) := by decide +kernel
theorem dX2_guessRootLimb_103 : decode prog_4_method_31_code 103 = .ok (.i2l, 1) := by decide +kernel
theorem dX2_guessRootLimb_104 : decode prog_4_method_31_code 104 = .ok (.aload_n 0, 1) := by decide +kernel
theorem dX2_guessRootLimb_105 : decode prog_4_method_31_code 105 = .ok (.getfield 9, 3) := by decide +kernel
theorem dX2_guessRootLimb_108 : decode prog_4_method_31_code 108 = .ok (.iload 4, 2) := by decide +kernel
theorem dX2_guessRootLimb_110 : decode prog_4_method_31_code 110 = .ok (.iconst 2, 1) := by decide +kernel
theorem dX2_guessRootLimb_111 : decode prog_4_method_31_code 111 = .ok (.isub, 1) := by decide +kernel
theorem dX2_guessRootLimb_112 : decode prog_4_method_31_code 112 = .ok (.iaload, 1) := by decide +kernel
theorem dX2_guessRootLimb_113 : decode prog_4_method_31_code 113 = .ok (.i2l, 1) := by decide +kernel
theorem dX2_guessRootLimb_114 : decode prog_4_method_31_code 114 = .ok (.invokestatic 83, 3) := by decide +kernel
theorem dX2_guessRootLimb_117 : decode prog_4_method_31_code 117 = .ok (.ireturn, 1) := by decide +kernel
theorem dX2_takeRootLimb_0 : decode prog_4_method_32_code 0 = .ok (.iload 4, 2) := by decide +kernel
theorem dX2_takeRootLimb_2 : decode prog_4_method_32_code 2 = .ok (.istore 5, 2) := by decide +kernel
theorem dX2_takeRootLimb_4 : decode prog_4_method_32_code 4 = .ok (.aload_n 1, 1) := by decide +kernel
theorem dX2_takeRootLimb_5 : decode prog_4_method_32_code 5 = .ok (.iload_n 3, 1) := by decide +kernel
theorem dX2_takeRootLimb_6 : decode prog_4_method_32_code 6 = .ok (.iload 5, 2) := by decide +kernel
theorem dX2_takeRootLimb_8 : decode prog_4_method_32_code 8 = .ok (.iastore, 1) := by decide +kernel
theorem dX2_takeRootLimb_9 : decode prog_4_method_32_code 9 = .ok (.aload_n 0, 1) := by decide +kernel
theorem dX2_takeRootLimb_10 : decode prog_4_method_32_code 10 = .ok (.getfield 9, 3) := by decide +kernel
theorem dX2_takeRootLimb_13 : decode prog_4_method_32_code 13 = .ok (.iload_n 2, 1) := by decide +kernel
theorem dX2_takeRootLimb_14 : decode prog_4_method_32_code 14 = .ok (.iload_n 3, 1) := by decide +kernel
theorem dX2_takeRootLimb_15 : decode prog_4_method_32_code 15 = .ok (.iadd, 1) := by decide +kernel
theorem dX2_takeRootLimb_16 : decode prog_4_method_32_code 16 = .ok (.iconst 1, 1) := by decide +kernel
theorem dX2_takeRootLimb_17 : decode prog_4_method_32_code 17 = .ok (.iadd, 1) := by decide +kernel
theorem dX2_takeRootLimb_18 : decode prog_4_method_32_code 18 = .ok (.iaload, 1) := by decide +kernel
theorem dX2_takeRootLimb_19 : decode prog_4_method_32_code 19 = .ok (.i2l, 1) := by decide +kernel
theorem dX2_takeRootLimb_20 : decode prog_4_method_32_code 20 = .ok (.ldc2_w 32, 3) := by decide +kernel
theorem dX2_takeRootLimb_23 : decode prog_4_method_32_code 23 = .ok (.lmul, 1) := by decide +kernel
theorem dX2_takeRootLimb_24 : decode prog_4_method_32_code 24 = .ok (.aload_n 0, 1) := by decide +kernel
theorem dX2_takeRootLimb_25 : decode prog_4_method_32_code 25 = .ok (.getfield 9, 3) := by decide +kernel
theorem dX2_takeRootLimb_28 : decode prog_4_method_32_code 28 = .ok (.iload_n 2, 1) := by decide +kernel
theorem dX2_takeRootLimb_29 : decode prog_4_method_32_code 29 = .ok (.iload_n 3, 1) := by decide +kernel
theorem dX2_takeRootLimb_30 : decode prog_4_method_32_code 30 = .ok (.iadd, 1) := by decide +kernel
theorem dX2_takeRootLimb_31 : decode prog_4_method_32_code 31 = .ok (.iaload, 1) := by decide +kernel
theorem dX2_takeRootLimb_32 : decode prog_4_method_32_code 32 = .ok (.i2l, 1) := by decide +kernel
theorem dX2_takeRootLimb_33 : decode prog_4_method_32_code 33 = .ok (.ladd, 1) := by decide +kernel
theorem dX2_takeRootLimb_34 : decode prog_4_method_32_code 34 = .ok (.lstore 6, 2) := by decide +kernel
theorem dX2_takeRootLimb_36 : decode prog_4_method_32_code 36 = .ok (.lload 6, 2) := by decide +kernel
theorem dX2_takeRootLimb_38 : decode prog_4_method_32_code 38 = .ok (.aload_n 0, 1) := by decide +kernel
theorem dX2_takeRootLimb_39 : decode prog_4_method_32_code 39 = .ok (.aload_n 1, 1) := by decide +kernel
theorem dX2_takeRootLimb_40 : decode prog_4_method_32_code 40 = .ok (.iload_n 3, 1) := by decide +kernel
theorem dX2_takeRootLimb_41 : decode prog_4_method_32_code 41 = .ok (.iload_n 2, 1) := by decide +kernel
theorem dX2_takeRootLimb_42 : decode prog_4_method_32_code 42 = .ok (.iload 5, 2) := by decide +kernel
theorem dX2_takeRootLimb_44 : decode prog_4_method_32_code 44 = .ok (.i2l, 1) := by decide +kernel
theorem dX2_takeRootLimb_45 : decode prog_4_method_32_code 45 = .ok (.iload_n 3, 1) := by decide +kernel
theorem dX2_takeRootLimb_46 : decode prog_4_method_32_code 46 = .ok (.invokevirtual 93, 3) := by decide +kernel
theorem dX2_takeRootLimb_49 : decode prog_4_method_32_code 49 = .ok (.lsub, 1) := by decide +kernel
theorem dX2_takeRootLimb_50 : decode prog_4_method_32_code 50 = .ok (.lstore 6, 2) := by decide +kernel
theorem dX2_takeRootLimb_52 : decode prog_4_method_32_code 52 = .ok (.iconst 0, 1) := by decide +kernel
theorem dX2_takeRootLimb_53 : decode prog_4_method_32_code 53 = .ok (.istore 8, 2) := by decide +kernel
theorem dX2_takeRootLimb_55 : decode prog_4_method_32_code 55 = .ok (.iload 8, 2) := by decide +kernel
theorem dX2_takeRootLimb_57 : decode prog_4_method_32_code 57 = .ok (.bipush 16, 2) := by decide +kernel
theorem dX2_takeRootLimb_59 : decode prog_4_method_32_code 59 = .ok (.if_icmp .ge 41, 3) := by decide +kernel
theorem dX2_takeRootLimb_62 : decode prog_4_method_32_code 62 = .ok (.lload 6, 2) := by decide +kernel
theorem dX2_takeRootLimb_64 : decode prog_4_method_32_code 64 = .ok (.lconst 0, 1) := by decide +kernel
theorem dX2_takeRootLimb_65 : decode prog_4_method_32_code 65 = .ok (.lcmp, 1) := by decide +kernel
theorem dX2_takeRootLimb_66 : decode prog_4_method_32_code 66 = .ok (.ifCond .ge 34, 3) := by decide +kernel
theorem dX2_takeRootLimb_69 : decode prog_4_method_32_code 69 = .ok (.aload_n 1, 1) := by decide +kernel
theorem dX2_takeRootLimb_70 : decode prog_4_method_32_code 70 = .ok (.iload_n 3, 1) := by decide +kernel
theorem dX2_takeRootLimb_71 : decode prog_4_method_32_code 71 = .ok (.iconst 2, 1) := by decide +kernel
theorem dX2_takeRootLimb_72 : decode prog_4_method_32_code 72 = .ok (.iload 5, 2) := by decide +kernel
theorem dX2_takeRootLimb_74 : decode prog_4_method_32_code 74 = .ok (.imul, 1) := by decide +kernel
theorem dX2_takeRootLimb_75 : decode prog_4_method_32_code 75 = .ok (.iconst 1, 1) := by decide +kernel
theorem dX2_takeRootLimb_76 : decode prog_4_method_32_code 76 = .ok (.isub, 1) := by decide +kernel
theorem dX2_takeRootLimb_77 : decode prog_4_method_32_code 77 = .ok (.iastore, 1) := by decide +kernel
theorem dX2_takeRootLimb_78 : decode prog_4_method_32_code 78 = .ok (.lload 6, 2) := by decide +kernel
theorem dX2_takeRootLimb_80 : decode prog_4_method_32_code 80 = .ok (.aload_n 0, 1) := by decide +kernel
theorem dX2_takeRootLimb_81 : decode prog_4_method_32_code 81 = .ok (.aload_n 1, 1) := by decide +kernel
theorem dX2_takeRootLimb_82 : decode prog_4_method_32_code 82 = .ok (.iload_n 3, 1) := by decide +kernel
theorem dX2_takeRootLimb_83 : decode prog_4_method_32_code 83 = .ok (.iload_n 2, 1) := by decide +kernel
theorem dX2_takeRootLimb_84 : decode prog_4_method_32_code 84 = .ok (.iload_n 3, 1) := by decide +kernel
theorem dX2_takeRootLimb_85 : decode prog_4_method_32_code 85 = .ok (.invokevirtual 97, 3) := by decide +kernel
theorem dX2_takeRootLimb_88 : decode prog_4_method_32_code 88 = .ok (.ladd, 1) := by decide +kernel
theorem dX2_takeRootLimb_89 : decode prog_4_method_32_code 89 = .ok (.lstore 6, 2) := by decide +kernel
theorem dX2_takeRootLimb_91 : decode prog_4_method_32_code 91 = .ok (.iinc 5 (-1), 3) := by decide +kernel
theorem dX2_takeRootLimb_94 : decode prog_4_method_32_code 94 = .ok (.iinc 8 1, 3) := by decide +kernel
theorem dX2_takeRootLimb_97 : decode prog_4_method_32_code 97 = .ok (.goto (-42), 3) := by decide +kernel
theorem dX2_takeRootLimb_100 : decode prog_4_method_32_code 100 = .ok (.aload_n 0, 1) := by decide +kernel
theorem dX2_takeRootLimb_101 : decode prog_4_method_32_code 101 = .ok (.getfield 9, 3) := by decide +kernel
theorem dX2_takeRootLimb_104 : decode prog_4_method_32_code 104 = .ok (.iload_n 2, 1) := by decide +kernel
theorem dX2_takeRootLimb_105 : decode prog_4_method_32_code 105 = .ok (.iload_n 3, 1) := by decide +kernel
theorem dX2_takeRootLimb_106 : decode prog_4_method_32_code 106 = .ok (.iadd, 1) := by decide +kernel
theorem dX2_takeRootLimb_107 : decode prog_4_method_32_code 107 = .ok (.lload 6, 2) := by decide +kernel
theorem dX2_takeRootLimb_109 : decode prog_4_method_32_code 109 = .ok (.ldc2_w 32, 3) := by decide +kernel
theorem dX2_takeRootLimb_112 : decode prog_4_method_32_code 112 = .ok (.lrem, 1) := by decide +kernel
theorem dX2_takeRootLimb_113 : decode prog_4_method_32_code 113 = .ok (.l2i, 1) := by decide +kernel
theorem dX2_takeRootLimb_114 : decode prog_4_method_32_code 114 = .ok (.iastore, 1) := by decide +kernel
theorem dX2_takeRootLimb_115 : decode prog_4_method_32_code 115 = .ok (.aload_n 0, 1) := by decide +kernel
theorem dX2_takeRootLimb_116 : decode prog_4_method_32_code 116 = .ok (.getfield 9, 3) := by decide +kernel
theorem dX2_takeRootLimb_119 : decode prog_4_method_32_code 119 = .ok (.iload_n 2, 1) := by decide +kernel
theorem dX2_takeRootLimb_120 : decode prog_4_method_32_code 120 = .ok (.iload_n 3, 1) := by decide +kernel
theorem dX2_takeRootLimb_121 : decode prog_4_method_32_code 121 = .ok (.iadd, 1) := by decide +kernel
theorem dX2_takeRootLimb_122 : decode prog_4_method_32_code 122 = .ok (.iconst 1, 1) := by decide +kernel
theorem dX2_takeRootLimb_123 : decode prog_4_method_32_code 123 = .ok (.iadd, 1) := by decide +kernel
theorem dX2_takeRootLimb_124 : decode prog_4_method_32_code 124 = .ok (.lload 6, 2) := by decide +kernel
theorem dX2_takeRootLimb_126 : decode prog_4_method_32_code 126 = .ok (.ldc2_w 32, 3) := by decide +kernel
theorem dX2_takeRootLimb_129 : decode prog_4_method_32_code 129 = .ok (.ldiv, 1) := by decide +kernel
theorem dX2_takeRootLimb_130 : decode prog_4_method_32_code 130 = .ok (.l2i, 1) := by decide +kernel
theorem dX2_takeRootLimb_131 : decode prog_4_method_32_code 131 = .ok (.iastore, 1) := by decide +kernel
theorem dX2_takeRootLimb_132 : decode prog_4_method_32_code 132 = .ok (.iload 5, 2) := by decide +kernel
theorem dX2_takeRootLimb_134 : decode prog_4_method_32_code 134 = .ok (.ireturn, 1) := by decide +kernel
theorem dX2_emptyLimbs_0 : decode prog_4_method_33_code 0 = .ok (.iconst 0, 1) := by decide +kernel
theorem dX2_emptyLimbs_1 : decode prog_4_method_33_code 1 = .ok (.istore_n 2, 1) := by decide +kernel
theorem dX2_emptyLimbs_2 : decode prog_4_method_33_code 2 = .ok (.iload_n 2, 1) := by decide +kernel
theorem dX2_emptyLimbs_3 : decode prog_4_method_33_code 3 = .ok (.iload_n 1, 1) := by decide +kernel
theorem dX2_emptyLimbs_4 : decode prog_4_method_33_code 4 = .ok (.if_icmp .ge 25, 3) := by decide +kernel
theorem dX2_emptyLimbs_7 : decode prog_4_method_33_code 7 = .ok (.iload_n 2, 1) := by decide +kernel
theorem dX2_emptyLimbs_8 : decode prog_4_method_33_code 8 = .ok (.aload_n 0, 1) := by decide +kernel
theorem dX2_emptyLimbs_9 : decode prog_4_method_33_code 9 = .ok (.getfield 9, 3) := by decide +kernel
theorem dX2_emptyLimbs_12 : decode prog_4_method_33_code 12 = .ok (.arraylength, 1) := by decide +kernel
theorem dX2_emptyLimbs_13 : decode prog_4_method_33_code 13 = .ok (.if_icmp .ge 16, 3) := by decide +kernel
theorem dX2_emptyLimbs_16 : decode prog_4_method_33_code 16 = .ok (.aload_n 0, 1) := by decide +kernel
theorem dX2_emptyLimbs_17 : decode prog_4_method_33_code 17 = .ok (.getfield 9, 3) := by decide +kernel
theorem dX2_emptyLimbs_20 : decode prog_4_method_33_code 20 = .ok (.iload_n 2, 1) := by decide +kernel
theorem dX2_emptyLimbs_21 : decode prog_4_method_33_code 21 = .ok (.iconst 0, 1) := by decide +kernel
theorem dX2_emptyLimbs_22 : decode prog_4_method_33_code 22 = .ok (.iastore, 1) := by decide +kernel
theorem dX2_emptyLimbs_23 : decode prog_4_method_33_code 23 = .ok (.iinc 2 1, 3) := by decide +kernel
theorem dX2_emptyLimbs_26 : decode prog_4_method_33_code 26 = .ok (.goto (-24), 3) := by decide +kernel
theorem dX2_emptyLimbs_29 : decode prog_4_method_33_code 29 = .ok (.return_, 1) := by decide +kernel
theorem dX2_trim_0 : decode prog_4_method_34_code 0 = .ok (.aload_n 0, 1) := by decide +kernel
theorem dX2_trim_1 : decode prog_4_method_34_code 1 = .ok (.getfield 15, 3) := by decide +kernel
theorem dX2_trim_4 : decode prog_4_method_34_code 4 = .ok (.ifCond .le 30, 3) := by decide +kernel
theorem dX2_trim_7 : decode prog_4_method_34_code 7 = .ok (.aload_n 0, 1) := by decide +kernel
theorem dX2_trim_8 : decode prog_4_method_34_code 8 = .ok (.getfield 9, 3) := by decide +kernel
theorem dX2_trim_11 : decode prog_4_method_34_code 11 = .ok (.aload_n 0, 1) := by decide +kernel
theorem dX2_trim_12 : decode prog_4_method_34_code 12 = .ok (.getfield 15, 3) := by decide +kernel
theorem dX2_trim_15 : decode prog_4_method_34_code 15 = .ok (.iconst 1, 1) := by decide +kernel
theorem dX2_trim_16 : decode prog_4_method_34_code 16 = .ok (.isub, 1) := by decide +kernel
theorem dX2_trim_17 : decode prog_4_method_34_code 17 = .ok (.iaload, 1) := by decide +kernel
theorem dX2_trim_18 : decode prog_4_method_34_code 18 = .ok (.ifCond .ne 16, 3) := by decide +kernel
theorem dX2_trim_21 : decode prog_4_method_34_code 21 = .ok (.aload_n 0, 1) := by decide +kernel
theorem dX2_trim_22 : decode prog_4_method_34_code 22 = .ok (.dup, 1) := by decide +kernel
theorem dX2_trim_23 : decode prog_4_method_34_code 23 = .ok (.getfield 15, 3) := by decide +kernel
theorem dX2_trim_26 : decode prog_4_method_34_code 26 = .ok (.iconst 1, 1) := by decide +kernel
theorem dX2_trim_27 : decode prog_4_method_34_code 27 = .ok (.isub, 1) := by decide +kernel
theorem dX2_trim_28 : decode prog_4_method_34_code 28 = .ok (.putfield 15, 3) := by decide +kernel
theorem dX2_trim_31 : decode prog_4_method_34_code 31 = .ok (.goto (-31), 3) := by decide +kernel
theorem dX2_trim_34 : decode prog_4_method_34_code 34 = .ok (.return_, 1) := by decide +kernel
theorem dX2_makeRoom_0 : decode prog_4_method_35_code 0 = .ok (.iload_n 1, 1) := by decide +kernel
theorem dX2_makeRoom_1 : decode prog_4_method_35_code 1 = .ok (.aload_n 0, 1) := by decide +kernel
theorem dX2_makeRoom_2 : decode prog_4_method_35_code 2 = .ok (.getfield 9, 3) := by decide +kernel
theorem dX2_makeRoom_5 : decode prog_4_method_35_code 5 = .ok (.arraylength, 1) := by decide +kernel
theorem dX2_makeRoom_6 : decode prog_4_method_35_code 6 = .ok (.if_icmp .le 25, 3) := by decide +kernel
theorem dX2_makeRoom_9 : decode prog_4_method_35_code 9 = .ok (.aload_n 0, 1) := by decide +kernel
theorem dX2_makeRoom_10 : decode prog_4_method_35_code 10 = .ok (.aload_n 0, 1) := by decide +kernel
theorem dX2_makeRoom_11 : decode prog_4_method_35_code 11 = .ok (.getfield 9, 3) := by decide +kernel
theorem dX2_makeRoom_14 : decode prog_4_method_35_code 14 = .ok (.iload_n 1, 1) := by decide +kernel
theorem dX2_makeRoom_15 : decode prog_4_method_35_code 15 = .ok (.iconst 2, 1) := by decide +kernel
theorem dX2_makeRoom_16 : decode prog_4_method_35_code 16 = .ok (.aload_n 0, 1) := by decide +kernel
theorem dX2_makeRoom_17 : decode prog_4_method_35_code 17 = .ok (.getfield 9, 3) := by decide +kernel
theorem dX2_makeRoom_20 : decode prog_4_method_35_code 20 = .ok (.arraylength, 1) := by decide +kernel
theorem dX2_makeRoom_21 : decode prog_4_method_35_code 21 = .ok (.imul, 1) := by decide +kernel
theorem dX2_makeRoom_22 : decode prog_4_method_35_code 22 = .ok (.invokestatic 62, 3) := by decide +kernel
theorem dX2_makeRoom_25 : decode prog_4_method_35_code 25 = .ok (.invokestatic 113, 3) := by decide +kernel
theorem dX2_makeRoom_28 : decode prog_4_method_35_code 28 = .ok (.putfield 9, 3) := by decide +kernel
theorem dX2_makeRoom_31 : decode prog_4_method_35_code 31 = .ok (.return_, 1) := by decide +kernel
theorem dX3_init_0 : decode prog_5_method_1_code 0 = .ok (.aload_n 0, 1) := by decide +kernel
theorem dX3_init_1 : decode prog_5_method_1_code 1 = .ok (.invokespecial 3, 3) := by decide +kernel
theorem dX3_init_4 : decode prog_5_method_1_code 4 = .ok (.return_, 1) := by decide +kernel
theorem dX3_parse_0 : decode prog_5_method_2_code 0 = .ok (.aload_n 0, 1) := by decide +kernel
theorem dX3_parse_1 : decode prog_5_method_2_code 1 = .ok (.aload_n 1, 1) := by decide +kernel
theorem dX3_parse_2 : decode prog_5_method_2_code 2 = .ok (.iconst 0, 1) := by decide +kernel
theorem dX3_parse_3 : decode prog_5_method_2_code 3 = .ok (.invokevirtual 9, 3) := by decide +kernel
theorem dX3_parse_6 : decode prog_5_method_2_code 6 = .ok (.bipush 45, 2) := by decide +kernel
theorem dX3_parse_8 : decode prog_5_method_2_code 8 = .ok (.if_icmp .ne 7, 3) := by decide +kernel
theorem dX3_parse_11 : decode prog_5_method_2_code 11 = .ok (.iconst 1, 1) := by decide +kernel
theorem dX3_parse_12 : decode prog_5_method_2_code 12 = .ok (.goto 4, 3) := by decide +kernel
theorem dX3_parse_15 : decode prog_5_method_2_code 15 = .ok (.iconst 0, 1) := by decide +kernel
theorem dX3_parse_16 : decode prog_5_method_2_code 16 = .ok (.putfield 15, 3) := by decide +kernel
theorem dX3_parse_19 : decode prog_5_method_2_code 19 = .ok (.aload_n 0, 1) := by decide +kernel
theorem dX3_parse_20 : decode prog_5_method_2_code 20 = .ok (.aload_n 1, 1) := by decide +kernel
theorem dX3_parse_21 : decode prog_5_method_2_code 21 = .ok (.iconst 0, 1) := by decide +kernel
theorem dX3_parse_22 : decode prog_5_method_2_code 22 = .ok (.invokevirtual 21, 3) := by decide +kernel
theorem dX3_parse_25 : decode prog_5_method_2_code 25 = .ok (.ifCond .eq 7, 3) := by decide +kernel
theorem dX3_parse_28 : decode prog_5_method_2_code 28 = .ok (.iconst 1, 1) := by decide +kernel
theorem dX3_parse_29 : decode prog_5_method_2_code 29 = .ok (.goto 4, 3) := by decide +kernel
theorem dX3_parse_32 : decode prog_5_method_2_code 32 = .ok (.iconst 0, 1) := by decide +kernel
theorem dX3_parse_33 : decode prog_5_method_2_code 33 = .ok (.putfield 25, 3) := by decide +kernel
theorem dX3_parse_36 : decode prog_5_method_2_code 36 = .ok (.aload_n 0, 1) := by decide +kernel
theorem dX3_parse_37 : decode prog_5_method_2_code 37 = .ok (.lconst 0, 1) := by decide +kernel
theorem dX3_parse_38 : decode prog_5_method_2_code 38 = .ok (.putfield 29, 3) := by decide +kernel
theorem dX3_parse_41 : decode prog_5_method_2_code 41 = .ok (.aload_n 0, 1) := by decide +kernel
theorem dX3_parse_42 : decode prog_5_method_2_code 42 = .ok (.aload_n 1, 1) := by decide +kernel
theorem dX3_parse_43 : decode prog_5_method_2_code 43 = .ok (.invokevirtual 33, 3) := by decide +kernel
theorem dX3_parse_46 : decode prog_5_method_2_code 46 = .ok (.ifCond .ne 5, 3) := by decide +kernel
theorem dX3_parse_49 : decode prog_5_method_2_code 49 = .ok (.iconst 0, 1) := by decide +kernel
theorem dX3_parse_50 : decode prog_5_method_2_code 50 = .ok (.ireturn, 1) := by decide +kernel
theorem dX3_parse_51 : decode prog_5_method_2_code 51 = .ok (.aload_n 0, 1) := by decide +kernel
theorem dX3_parse_52 : decode prog_5_method_2_code 52 = .ok (.getfield 37, 3) := by decide +kernel
theorem dX3_parse_55 : decode prog_5_method_2_code 55 = .ok (.aload_n 1, 1) := by decide +kernel
theorem dX3_parse_56 : decode prog_5_method_2_code 56 = .ok (.getfield 40, 3) := by decide +kernel
theorem dX3_parse_59 : decode prog_5_method_2_code 59 = .ok (.if_icmp .ne 5, 3) := by decide +kernel
theorem dX3_parse_62 : decode prog_5_method_2_code 62 = .ok (.iconst 1, 1) := by decide +kernel
theorem dX3_parse_63 : decode prog_5_method_2_code 63 = .ok (.ireturn, 1) := by decide +kernel
theorem dX3_parse_64 : decode prog_5_method_2_code 64 = .ok (.aload_n 1, 1) := by decide +kernel
theorem dX3_parse_65 : decode prog_5_method_2_code 65 = .ok (.aload_n 0, 1) := by decide +kernel
theorem dX3_parse_66 : decode prog_5_method_2_code 66 = .ok (.getfield 37, 3) := by decide +kernel
theorem dX3_parse_69 : decode prog_5_method_2_code 69 = .ok (.invokevirtual 9, 3) := by decide +kernel
theorem dX3_parse_72 : decode prog_5_method_2_code 72 = .ok (.istore_n 2, 1) := by decide +kernel
theorem dX3_parse_73 : decode prog_5_method_2_code 73 = .ok (.iload_n 2, 1) := by decide +kernel
theorem dX3_parse_74 : decode prog_5_method_2_code 74 = .ok (.bipush 101, 2) := by decide +kernel
theorem dX3_parse_76 : decode prog_5_method_2_code 76 = .ok (.if_icmp .eq 9, 3) := by decide +kernel
theorem dX3_parse_79 : decode prog_5_method_2_code 79 = .ok (.iload_n 2, 1) := by decide +kernel
theorem dX3_parse_80 : decode prog_5_method_2_code 80 = .ok (.bipush 69, 2) := by decide +kernel
theorem dX3_parse_82 : decode prog_5_method_2_code 82 = .ok (.if_icmp .ne 21, 3) := by decide +kernel
theorem dX3_parse_85 : decode prog_5_method_2_code 85 = .ok (.aload_n 0, 1) := by decide +kernel
theorem dX3_parse_86 : decode prog_5_method_2_code 86 = .ok (.aload_n 1, 1) := by decide +kernel
theorem dX3_parse_87 : decode prog_5_method_2_code 87 = .ok (.aload_n 0, 1) := by decide +kernel
theorem dX3_parse_88 : decode prog_5_method_2_code 88 = .ok (.getfield 37, 3) := by decide +kernel
theorem dX3_parse_91 : decode prog_5_method_2_code 91 = .ok (.iconst 1, 1) := by decide +kernel
theorem dX3_parse_92 : decode prog_5_method_2_code 92 = .ok (.iadd, 1) := by decide +kernel
theorem dX3_parse_93 : decode prog_5_method_2_code 93 = .ok (.invokevirtual 43, 3) := by decide +kernel
theorem dX3_parse_96 : decode prog_5_method_2_code 96 = .ok (.ifCond .eq 7, 3) := by decide +kernel
theorem dX3_parse_99 : decode prog_5_method_2_code 99 = .ok (.iconst 1, 1) := by decide +kernel
theorem dX3_parse_100 : decode prog_5_method_2_code 100 = .ok (.goto 4, 3) := by decide +kernel
theorem dX3_parse_103 : decode prog_5_method_2_code 103 = .ok (.iconst 0, 1) := by decide +kernel
theorem dX3_parse_104 : decode prog_5_method_2_code 104 = .ok (.ireturn, 1) := by decide +kernel
theorem dX3_findDigits_0 : decode prog_5_method_3_code 0 = .ok (.iconst 0, 1) := by decide +kernel
theorem dX3_findDigits_1 : decode prog_5_method_3_code 1 = .ok (.istore_n 2, 1) := by decide +kernel
theorem dX3_findDigits_2 : decode prog_5_method_3_code 2 = .ok (.iconst 0, 1) := by decide +kernel
theorem dX3_findDigits_3 : decode prog_5_method_3_code 3 = .ok (.istore_n 3, 1) := by decide +kernel
theorem dX3_findDigits_4 : decode prog_5_method_3_code 4 = .ok (.aload_n 0, 1) := by decide +kernel
theorem dX3_findDigits_5 : decode prog_5_method_3_code 5 = .ok (.iconst 0, 1) := by decide +kernel
theorem dX3_findDigits_6 : decode prog_5_method_3_code 6 = .ok (.putfield 47, 3) := by decide +kernel
theorem dX3_findDigits_9 : decode prog_5_method_3_code 9 = .ok (.aload_n 0, 1) := by decide +kernel
theorem dX3_findDigits_10 : decode prog_5_method_3_code 10 = .ok (.aload_n 0, 1) := by decide +kernel
theorem dX3_findDigits_11 : decode prog_5_method_3_code 11 = .ok (.getfield 25, 3) := by decide +kernel
theorem dX3_findDigits_14 : decode prog_5_method_3_code 14 = .ok (.putfield 37, 3) := by decide +kernel
theorem dX3_findDigits_17 : decode prog_5_method_3_code 17 = .ok (.aload_n 0, 1) := by decide +kernel
theorem dX3_findDigits_18 : decode prog_5_method_3_code 18 = .ok (.getfield 25, 3) := by decide +kernel
theorem dX3_findDigits_21 : decode prog_5_method_3_code 21 = .ok (.istore 4, 2) := by decide +kernel
theorem dX3_findDigits_23 : decode prog_5_method_3_code 23 = .ok (.iload 4, 2) := by decide +kernel
theorem dX3_findDigits_25 : decode prog_5_method_3_code 25 = .ok (.aload_n 1, 1) := by decide +kernel
theorem dX3_findDigits_26 : decode prog_5_method_3_code 26 = .ok (.getfield 40, 3) := by decide +kernel
theorem dX3_findDigits_29 : decode prog_5_method_3_code 29 = .ok (.if_icmp .ge 67, 3) := by decide +kernel
theorem dX3_findDigits_32 : decode prog_5_method_3_code 32 = .ok (.aload_n 1, 1) := by decide +kernel
theorem dX3_findDigits_33 : decode prog_5_method_3_code 33 = .ok (.iload 4, 2) := by decide +kernel
theorem dX3_findDigits_35 : decode prog_5_method_3_code 35 = .ok (.invokevirtual 50, 3) := by decide +kernel
theorem dX3_findDigits_38 : decode prog_5_method_3_code 38 = .ok (.ifCond .eq 27, 3) := by decide +kernel
theorem dX3_findDigits_41 : decode prog_5_method_3_code 41 = .ok (.iinc 2 1, 3) := by decide +kernel
theorem dX3_findDigits_44 : decode prog_5_method_3_code 44 = .ok (.aload_n 0, 1) := by decide +kernel
theorem dX3_findDigits_45 : decode prog_5_method_3_code 45 = .ok (.dup, 1) := by decide +kernel
theorem dX3_findDigits_46 : decode prog_5_method_3_code 46 = .ok (.getfield 47, 3) := by decide +kernel
theorem dX3_findDigits_49 : decode prog_5_method_3_code 49 = .ok (.iload_n 3, 1) := by decide +kernel
theorem dX3_findDigits_50 : decode prog_5_method_3_code 50 = .ok (.ifCond .eq 7, 3) := by decide +kernel
theorem dX3_findDigits_53 : decode prog_5_method_3_code 53 = .ok (.iconst 1, 1) := by decide +kernel
theorem dX3_findDigits_54 : decode prog_5_method_3_code 54 = .ok (.goto 4, 3) := by decide +kernel
theorem dX3_findDigits_57 : decode prog_5_method_3_code 57 = .ok (.iconst 0, 1) := by decide +kernel
theorem dX3_findDigits_58 : decode prog_5_method_3_code 58 = .ok (.iadd, 1) := by decide +kernel
theorem dX3_findDigits_59 : decode prog_5_method_3_code 59 = .ok (.putfield 47, 3) := by decide +kernel
theorem dX3_findDigits_62 : decode prog_5_method_3_code 62 = .ok (.goto 20, 3) := by decide +kernel
theorem dX3_findDigits_65 : decode prog_5_method_3_code 65 = .ok (.aload_n 1, 1) := by decide +kernel
theorem dX3_findDigits_66 : decode prog_5_method_3_code 66 = .ok (.iload 4, 2) := by decide +kernel
theorem dX3_findDigits_68 : decode prog_5_method_3_code 68 = .ok (.invokevirtual 9, 3) := by decide +kernel
theorem dX3_findDigits_71 : decode prog_5_method_3_code 71 = .ok (.bipush 46, 2) := by decide +kernel
theorem dX3_findDigits_73 : decode prog_5_method_3_code 73 = .ok (.if_icmp .ne 23, 3) := by decide +kernel
theorem dX3_findDigits_76 : decode prog_5_method_3_code 76 = .ok (.iload_n 3, 1) := by decide +kernel
theorem dX3_findDigits_77 : decode prog_5_method_3_code 77 = .ok (.ifCond .ne 19, 3) := by decide +kernel
theorem dX3_findDigits_80 : decode prog_5_method_3_code 80 = .ok (.iconst 1, 1) := by decide +kernel
theorem dX3_findDigits_81 : decode prog_5_method_3_code 81 = .ok (.istore_n 3, 1) := by decide +kernel
theorem dX3_findDigits_82 : decode prog_5_method_3_code 82 = .ok (.aload_n 0, 1) := by decide +kernel
theorem dX3_findDigits_83 : decode prog_5_method_3_code 83 = .ok (.iload 4, 2) := by decide +kernel
theorem dX3_findDigits_85 : decode prog_5_method_3_code 85 = .ok (.iconst 1, 1) := by decide +kernel
theorem dX3_findDigits_86 : decode prog_5_method_3_code 86 = .ok (.iadd, 1) := by decide +kernel
theorem dX3_findDigits_87 : decode prog_5_method_3_code 87 = .ok (.putfield 37, 3) := by decide +kernel
theorem dX3_findDigits_90 : decode prog_5_method_3_code 90 = .ok (.iinc 4 1, 3) := by decide +kernel
theorem dX3_findDigits_93 : decode prog_5_method_3_code 93 = .ok (.goto (-70), 3) := by decide +kernel
theorem dX3_findDigits_96 : decode prog_5_method_3_code 96 = .ok (.iload_n 2, 1) := by decide +kernel
theorem dX3_findDigits_97 : decode prog_5_method_3_code 97 = .ok (.ifCond .le 7, 3) := by decide +kernel
theorem dX3_findDigits_100 : decode prog_5_method_3_code 100 = .ok (.iconst 1, 1) := by decide +kernel
theorem dX3_findDigits_101 : decode prog_5_method_3_code 101 = .ok (.goto 4, 3) := by decide +kernel
theorem dX3_findDigits_104 : decode prog_5_method_3_code 104 = .ok (.iconst 0, 1) := by decide +kernel
theorem dX3_findDigits_105 : decode prog_5_method_3_code 105 = .ok (.ireturn, 1) := by decide +kernel
theorem dX3_findExponent_0 : decode prog_5_method_4_code 0 = .ok (.aload_n 1, 1) := by decide +kernel
theorem dX3_findExponent_1 : decode prog_5_method_4_code 1 = .ok (.iload_n 2, 1) := by decide +kernel
theorem dX3_findExponent_2 : decode prog_5_method_4_code 2 = .ok (.invokevirtual 21, 3) := by decide +kernel
theorem dX3_findExponent_5 : decode prog_5_method_4_code 5 = .ok (.ifCond .eq 9, 3) := by decide +kernel
theorem dX3_findExponent_8 : decode prog_5_method_4_code 8 = .ok (.iload_n 2, 1) := by decide +kernel
theorem dX3_findExponent_9 : decode prog_5_method_4_code 9 = .ok (.iconst 1, 1) := by decide +kernel
theorem dX3_findExponent_10 : decode prog_5_method_4_code 10 = .ok (.iadd, 1) := by decide +kernel
theorem dX3_findExponent_11 : decode prog_5_method_4_code 11 = .ok (.goto 4, 3) := by decide +kernel
theorem dX3_findExponent_14 : decode prog_5_method_4_code 14 = .ok (.iload_n 2, 1) := by decide +kernel
theorem dX3_findExponent_15 : decode prog_5_method_4_code 15 = .ok (.istore_n 3, 1) := by decide +kernel
theorem dX3_findExponent_16 : decode prog_5_method_4_code 16 = .ok (.iload_n 3, 1) := by decide +kernel
theorem dX3_findExponent_17 : decode prog_5_method_4_code 17 = .ok (.istore 4, 2) := by decide +kernel
theorem dX3_findExponent_19 : decode prog_5_method_4_code 19 = .ok (.iload 4, 2) := by decide +kernel
theorem dX3_findExponent_21 : decode prog_5_method_4_code 21 = .ok (.aload_n 1, 1) := by decide +kernel
theorem dX3_findExponent_22 : decode prog_5_method_4_code 22 = .ok (.getfield 40, 3) := by decide +kernel
theorem dX3_findExponent_25 : decode prog_5_method_4_code 25 = .ok (.if_icmp .ge 50, 3) := by decide +kernel
theorem dX3_findExponent_28 : decode prog_5_method_4_code 28 = .ok (.aload_n 1, 1) := by decide +kernel
theorem dX3_findExponent_29 : decode prog_5_method_4_code 29 = .ok (.iload 4, 2) := by decide +kernel
theorem dX3_findExponent_31 : decode prog_5_method_4_code 31 = .ok (.invokevirtual 50, 3) := by decide +kernel
theorem dX3_findExponent_34 : decode prog_5_method_4_code 34 = .ok (.ifCond .ne 5, 3) := by decide +kernel
theorem dX3_findExponent_37 : decode prog_5_method_4_code 37 = .ok (.iconst 0, 1) := by decide +kernel
theorem dX3_findExponent_38 : decode prog_5_method_4_code 38 = .ok (.ireturn, 1) := by decide +kernel
theorem dX3_findExponent_39 : decode prog_5_method_4_code 39 = .ok (.aload_n 0, 1) := by decide +kernel
theorem dX3_findExponent_40 : decode prog_5_method_4_code 40 = .ok (.aload_n 0, 1) := by decide +kernel
theorem dX3_findExponent_41 : decode prog_5_method_4_code 41 = .ok (.getfield 29, 3) := by decide +kernel
theorem dX3_findExponent_44 : decode prog_5_method_4_code 44 = .ok (.ldc2_w 53, 3) := by decide +kernel
theorem dX3_findExponent_47 : decode prog_5_method_4_code 47 = .ok (.lmul, 1) := by decide +kernel
theorem dX3_findExponent_48 : decode prog_5_method_4_code 48 = .ok (.aload_n 1, 1) := by decide +kernel
theorem dX3_findExponent_49 : decode prog_5_method_4_code 49 = .ok (.iload 4, 2) := by decide +kernel
theorem dX3_findExponent_51 : decode prog_5_method_4_code 51 = .ok (.invokevirtual 9, 3) := by decide +kernel
theorem dX3_findExponent_54 : decode prog_5_method_4_code 54 = .ok (.i2l, 1) := by decide +kernel
theorem dX3_findExponent_55 : decode prog_5_method_4_code 55 = .ok (.ladd, 1) := by decide +kernel
theorem dX3_findExponent_56 : decode prog_5_method_4_code 56 = .ok (.ldc2_w 55, 3) := by decide +kernel
theorem dX3_findExponent_59 : decode prog_5_method_4_code 59 = .ok (.lsub, 1) := by decide +kernel
theorem dX3_findExponent_60 : decode prog_5_method_4_code 60 = .ok (.ldc2_w 57, 3) := by decide +kernel
theorem dX3_findExponent_63 : decode prog_5_method_4_code 63 = .ok (.invokestatic 59, 3) := by decide +kernel
theorem dX3_findExponent_66 : decode prog_5_method_4_code 66 = .ok (.putfield 29, 3) := by decide +kernel
theorem dX3_findExponent_69 : decode prog_5_method_4_code 69 = .ok (.iinc 4 1, 3) := by decide +kernel
theorem dX3_findExponent_72 : decode prog_5_method_4_code 72 = .ok (.goto (-53), 3) := by decide +kernel
theorem dX3_findExponent_75 : decode prog_5_method_4_code 75 = .ok (.aload_n 1, 1) := by decide +kernel
theorem dX3_findExponent_76 : decode prog_5_method_4_code 76 = .ok (.iload_n 2, 1) := by decide +kernel
theorem dX3_findExponent_77 : decode prog_5_method_4_code 77 = .ok (.invokevirtual 9, 3) := by decide +kernel
theorem dX3_findExponent_80 : decode prog_5_method_4_code 80 = .ok (.bipush 45, 2) := by decide +kernel
theorem dX3_findExponent_82 : decode prog_5_method_4_code 82 = .ok (.if_icmp .ne 12, 3) := by decide +kernel
theorem dX3_findExponent_85 : decode prog_5_method_4_code 85 = .ok (.aload_n 0, 1) := by decide +kernel
theorem dX3_findExponent_86 : decode prog_5_method_4_code 86 = .ok (.aload_n 0, 1) := by decide +kernel
theorem dX3_findExponent_87 : decode prog_5_method_4_code 87 = .ok (.getfield 29, 3) := by decide +kernel
theorem dX3_findExponent_90 : decode prog_5_method_4_code 90 = .ok (.lneg, 1) := by decide +kernel
theorem dX3_findExponent_91 : decode prog_5_method_4_code 91 = .ok (.putfield 29, 3) := by decide +kernel
theorem dX3_findExponent_94 : decode prog_5_method_4_code 94 = .ok (.iload_n 3, 1) := by decide +kernel
theorem dX3_findExponent_95 : decode prog_5_method_4_code 95 = .ok (.aload_n 1, 1) := by decide +kernel
theorem dX3_findExponent_96 : decode prog_5_method_4_code 96 = .ok (.getfield 40, 3) := by decide +kernel
theorem dX3_findExponent_99 : decode prog_5_method_4_code 99 = .ok (.if_icmp .ge 7, 3) := by decide +kernel
theorem dX3_findExponent_102 : decode prog_5_method_4_code 102 = .ok (.iconst 1, 1) := by decide +kernel
theorem dX3_findExponent_103 : decode prog_5_method_4_code 103 = .ok (.goto 4, 3) := by decide +kernel
theorem dX3_findExponent_106 : decode prog_5_method_4_code 106 = .ok (.iconst 0, 1) := by decide +kernel
theorem dX3_findExponent_107 : decode prog_5_method_4_code 107 = .ok (.ireturn, 1) := by decide +kernel
theorem dX4_init_0 : decode prog_6_method_1_code 0 = .ok (.aload_n 0, 1) := by decide +kernel
theorem dX4_init_1 : decode prog_6_method_1_code 1 = .ok (.invokespecial 1, 3) := by decide +kernel
theorem dX4_init_4 : decode prog_6_method_1_code 4 = .ok (.aload_n 0, 1) := by decide +kernel
theorem dX4_init_5 : decode prog_6_method_1_code 5 = .ok (.bipush 16, 2) := by decide +kernel
theorem dX4_init_7 : decode prog_6_method_1_code 7 = .ok (.newarray .byte, 2) := by decide +kernel
theorem dX4_init_9 : decode prog_6_method_1_code 9 = .ok (.putfield 7, 3) := by decide +kernel
theorem dX4_init_12 : decode prog_6_method_1_code 12 = .ok (.return_, 1) := by decide +kernel
theorem dX4_codeAt_0 : decode prog_6_method_2_code 0 = .ok (.iload_n 1, 1) := by decide +kernel
theorem dX4_codeAt_1 : decode prog_6_method_2_code 1 = .ok (.ifCond .lt 20, 3) := by decide +kernel
theorem dX4_codeAt_4 : decode prog_6_method_2_code 4 = .ok (.iload_n 1, 1) := by decide +kernel
theorem dX4_codeAt_5 : decode prog_6_method_2_code 5 = .ok (.aload_n 0, 1) := by decide +kernel
theorem dX4_codeAt_6 : decode prog_6_method_2_code 6 = .ok (.getfield 13, 3) := by decide +kernel
theorem dX4_codeAt_9 : decode prog_6_method_2_code 9 = .ok (.if_icmp .ge 12, 3) := by decide +kernel
theorem dX4_codeAt_12 : decode prog_6_method_2_code 12 = .ok (.aload_n 0, 1) := by decide +kernel
theorem dX4_codeAt_13 : decode prog_6_method_2_code 13 = .ok (.getfield 7, 3) := by decide +kernel
theorem dX4_codeAt_16 : decode prog_6_method_2_code 16 = .ok (.iload_n 1, 1) := by decide +kernel
theorem dX4_codeAt_17 : decode prog_6_method_2_code 17 = .ok (.baload, 1) := by decide +kernel
theorem dX4_codeAt_18 : decode prog_6_method_2_code 18 = .ok (.goto 4, 3) := by decide +kernel
theorem dX4_codeAt_21 : decode prog_6_method_2_code 21 = .ok (.iconst (-1), 1) := by decide +kernel
theorem dX4_codeAt_22 : decode prog_6_method_2_code 22 = .ok (.ireturn, 1) := by decide +kernel
theorem dX4_makeRoom_0 : decode prog_6_method_3_code 0 = .ok (.iload_n 1, 1) := by decide +kernel
theorem dX4_makeRoom_1 : decode prog_6_method_3_code 1 = .ok (.aload_n 0, 1) := by decide +kernel
theorem dX4_makeRoom_2 : decode prog_6_method_3_code 2 = .ok (.getfield 7, 3) := by decide +kernel
theorem dX4_makeRoom_5 : decode prog_6_method_3_code 5 = .ok (.arraylength, 1) := by decide +kernel
theorem dX4_makeRoom_6 : decode prog_6_method_3_code 6 = .ok (.if_icmp .le 25, 3) := by decide +kernel
theorem dX4_makeRoom_9 : decode prog_6_method_3_code 9 = .ok (.aload_n 0, 1) := by decide +kernel
theorem dX4_makeRoom_10 : decode prog_6_method_3_code 10 = .ok (.aload_n 0, 1) := by decide +kernel
theorem dX4_makeRoom_11 : decode prog_6_method_3_code 11 = .ok (.getfield 7, 3) := by decide +kernel
theorem dX4_makeRoom_14 : decode prog_6_method_3_code 14 = .ok (.iload_n 1, 1) := by decide +kernel
theorem dX4_makeRoom_15 : decode prog_6_method_3_code 15 = .ok (.iconst 2, 1) := by decide +kernel
theorem dX4_makeRoom_16 : decode prog_6_method_3_code 16 = .ok (.aload_n 0, 1) := by decide +kernel
theorem dX4_makeRoom_17 : decode prog_6_method_3_code 17 = .ok (.getfield 7, 3) := by decide +kernel
theorem dX4_makeRoom_20 : decode prog_6_method_3_code 20 = .ok (.arraylength, 1) := by decide +kernel
theorem dX4_makeRoom_21 : decode prog_6_method_3_code 21 = .ok (.imul, 1) := by decide +kernel
theorem dX4_makeRoom_22 : decode prog_6_method_3_code 22 = .ok (.invokestatic 17, 3) := by decide +kernel
theorem dX4_makeRoom_25 : decode prog_6_method_3_code 25 = .ok (.invokestatic 23, 3) := by decide +kernel
theorem dX4_makeRoom_28 : decode prog_6_method_3_code 28 = .ok (.putfield 7, 3) := by decide +kernel
theorem dX4_makeRoom_31 : decode prog_6_method_3_code 31 = .ok (.return_, 1) := by decide +kernel
theorem dX4_append_0 : decode prog_6_method_4_code 0 = .ok (.aload_n 0, 1) := by decide +kernel
theorem dX4_append_1 : decode prog_6_method_4_code 1 = .ok (.aload_n 0, 1) := by decide +kernel
theorem dX4_append_2 : decode prog_6_method_4_code 2 = .ok (.getfield 13, 3) := by decide +kernel
theorem dX4_append_5 : decode prog_6_method_4_code 5 = .ok (.iconst 1, 1) := by decide +kernel
theorem dX4_append_6 : decode prog_6_method_4_code 6 = .ok (.iadd, 1) := by decide +kernel
theorem dX4_append_7 : decode prog_6_method_4_code 7 = .ok (.invokevirtual 29, 3) := by decide +kernel
theorem dX4_append_10 : decode prog_6_method_4_code 10 = .ok (.aload_n 0, 1) := by decide +kernel
theorem dX4_append_11 : decode prog_6_method_4_code 11 = .ok (.getfield 7, 3) := by decide +kernel
theorem dX4_append_14 : decode prog_6_method_4_code 14 = .ok (.aload_n 0, 1) := by decide +kernel
theorem dX4_append_15 : decode prog_6_method_4_code 15 = .ok (.getfield 13, 3) := by decide +kernel
theorem dX4_append_18 : decode prog_6_method_4_code 18 = .ok (.iload_n 1, 1) := by decide +kernel
theorem dX4_append_19 : decode prog_6_method_4_code 19 = .ok (.i2b, 1) := by decide +kernel
theorem dX4_append_20 : decode prog_6_method_4_code 20 = .ok (.bastore, 1) := by decide +kernel
theorem dX4_append_21 : decode prog_6_method_4_code 21 = .ok (.aload_n 0, 1) := by decide +kernel
theorem dX4_append_22 : decode prog_6_method_4_code 22 = .ok (.dup, 1) := by decide +kernel
theorem dX4_append_23 : decode prog_6_method_4_code 23 = .ok (.getfield 13, 3) := by decide +kernel
theorem dX4_append_26 : decode prog_6_method_4_code 26 = .ok (.iconst 1, 1) := by decide +kernel
theorem dX4_append_27 : decode prog_6_method_4_code 27 = .ok (.iadd, 1) := by decide +kernel
theorem dX4_append_28 : decode prog_6_method_4_code 28 = .ok (.putfield 13, 3) := by decide +kernel
theorem dX4_append_31 : decode prog_6_method_4_code 31 = .ok (.return_, 1) := by decide +kernel
theorem dX4_hasSignAt_0 : decode prog_6_method_5_code 0 = .ok (.aload_n 0, 1) := by decide +kernel
theorem dX4_hasSignAt_1 : decode prog_6_method_5_code 1 = .ok (.iload_n 1, 1) := by decide +kernel
theorem dX4_hasSignAt_2 : decode prog_6_method_5_code 2 = .ok (.invokevirtual 33, 3) := by decide +kernel
theorem dX4_hasSignAt_5 : decode prog_6_method_5_code 5 = .ok (.istore_n 2, 1) := by decide +kernel
theorem dX4_hasSignAt_6 : decode prog_6_method_5_code 6 = .ok (.iload_n 2, 1) := by decide +kernel
theorem dX4_hasSignAt_7 : decode prog_6_method_5_code 7 = .ok (.bipush 43, 2) := by decide +kernel
theorem dX4_hasSignAt_9 : decode prog_6_method_5_code 9 = .ok (.if_icmp .eq 9, 3) := by decide +kernel
theorem dX4_hasSignAt_12 : decode prog_6_method_5_code 12 = .ok (.iload_n 2, 1) := by decide +kernel
theorem dX4_hasSignAt_13 : decode prog_6_method_5_code 13 = .ok (.bipush 45, 2) := by decide +kernel
theorem dX4_hasSignAt_15 : decode prog_6_method_5_code 15 = .ok (.if_icmp .ne 7, 3) := by decide +kernel
theorem dX4_hasSignAt_18 : decode prog_6_method_5_code 18 = .ok (.iconst 1, 1) := by decide +kernel
theorem dX4_hasSignAt_19 : decode prog_6_method_5_code 19 = .ok (.goto 4, 3) := by decide +kernel
theorem dX4_hasSignAt_22 : decode prog_6_method_5_code 22 = .ok (.iconst 0, 1) := by decide +kernel
theorem dX4_hasSignAt_23 : decode prog_6_method_5_code 23 = .ok (.ireturn, 1) := by decide +kernel
theorem dX4_hasDigitAt_0 : decode prog_6_method_6_code 0 = .ok (.aload_n 0, 1) := by decide +kernel
theorem dX4_hasDigitAt_1 : decode prog_6_method_6_code 1 = .ok (.iload_n 1, 1) := by decide +kernel
theorem dX4_hasDigitAt_2 : decode prog_6_method_6_code 2 = .ok (.invokevirtual 33, 3) := by decide +kernel
theorem dX4_hasDigitAt_5 : decode prog_6_method_6_code 5 = .ok (.istore_n 2, 1) := by decide +kernel
theorem dX4_hasDigitAt_6 : decode prog_6_method_6_code 6 = .ok (.iload_n 2, 1) := by decide +kernel
theorem dX4_hasDigitAt_7 : decode prog_6_method_6_code 7 = .ok (.bipush 48, 2) := by decide +kernel
theorem dX4_hasDigitAt_9 : decode prog_6_method_6_code 9 = .ok (.if_icmp .lt 13, 3) := by decide +kernel
theorem dX4_hasDigitAt_12 : decode prog_6_method_6_code 12 = .ok (.iload_n 2, 1) := by decide +kernel
theorem dX4_hasDigitAt_13 : decode prog_6_method_6_code 13 = .ok (.bipush 57, 2) := by decide +kernel
theorem dX4_hasDigitAt_15 : decode prog_6_method_6_code 15 = .ok (.if_icmp .gt 7, 3) := by decide +kernel
theorem dX4_hasDigitAt_18 : decode prog_6_method_6_code 18 = .ok (.iconst 1, 1) := by decide +kernel
theorem dX4_hasDigitAt_19 : decode prog_6_method_6_code 19 = .ok (.goto 4, 3) := by decide +kernel
theorem dX4_hasDigitAt_22 : decode prog_6_method_6_code 22 = .ok (.iconst 0, 1) := by decide +kernel
theorem dX4_hasDigitAt_23 : decode prog_6_method_6_code 23 = .ok (.ireturn, 1) := by decide +kernel
theorem dX5_init_0 : decode prog_1_method_1_code 0 = .ok (.aload_n 0, 1) := by decide +kernel
theorem dX5_init_1 : decode prog_1_method_1_code 1 = .ok (.invokespecial 3, 3) := by decide +kernel
theorem dX5_init_4 : decode prog_1_method_1_code 4 = .ok (.aload_n 0, 1) := by decide +kernel
theorem dX5_init_5 : decode prog_1_method_1_code 5 = .ok (.bipush 8, 2) := by decide +kernel
theorem dX5_init_7 : decode prog_1_method_1_code 7 = .ok (.anewarray 9, 3) := by decide +kernel
theorem dX5_init_10 : decode prog_1_method_1_code 10 = .ok (.putfield 11, 3) := by decide +kernel
theorem dX5_init_13 : decode prog_1_method_1_code 13 = .ok (.aload_n 0, 1) := by decide +kernel
theorem dX5_init_14 : decode prog_1_method_1_code 14 = .ok (.new 15, 3) := by decide +kernel
theorem dX5_init_17 : decode prog_1_method_1_code 17 = .ok (.dup, 1) := by decide +kernel
theorem dX5_init_18 : decode prog_1_method_1_code 18 = .ok (.invokespecial 17, 3) := by decide +kernel
theorem dX5_init_21 : decode prog_1_method_1_code 21 = .ok (.putfield 18, 3) := by decide +kernel
theorem dX5_init_24 : decode prog_1_method_1_code 24 = .ok (.aload_n 0, 1) := by decide +kernel
theorem dX5_init_25 : decode prog_1_method_1_code 25 = .ok (.new 15, 3) := by decide +kernel
theorem dX5_init_28 : decode prog_1_method_1_code 28 = .ok (.dup, 1) := by decide +kernel
theorem dX5_init_29 : decode prog_1_method_1_code 29 = .ok (.invokespecial 17, 3) := by decide +kernel
theorem dX5_init_32 : decode prog_1_method_1_code 32 = .ok (.putfield 22, 3) := by decide +kernel
theorem dX5_init_35 : decode prog_1_method_1_code 35 = .ok (.aload_n 0, 1) := by decide +kernel
theorem dX5_init_36 : decode prog_1_method_1_code 36 = .ok (.new 15, 3) := by decide +kernel
theorem dX5_init_39 : decode prog_1_method_1_code 39 = .ok (.dup, 1) := by decide +kernel
theorem dX5_init_40 : decode prog_1_method_1_code 40 = .ok (.invokespecial 17, 3) := by decide +kernel
theorem dX5_init_43 : decode prog_1_method_1_code 43 = .ok (.putfield 25, 3) := by decide +kernel
theorem dX5_init_46 : decode prog_1_method_1_code 46 = .ok (.aload_n 0, 1) := by decide +kernel
theorem dX5_init_47 : decode prog_1_method_1_code 47 = .ok (.new 28, 3) := by decide +kernel
theorem dX5_init_50 : decode prog_1_method_1_code 50 = .ok (.dup, 1) := by decide +kernel
theorem dX5_init_51 : decode prog_1_method_1_code 51 = .ok (.invokespecial 30, 3) := by decide +kernel
theorem dX5_init_54 : decode prog_1_method_1_code 54 = .ok (.putfield 31, 3) := by decide +kernel
theorem dX5_init_57 : decode prog_1_method_1_code 57 = .ok (.aload_n 0, 1) := by decide +kernel
theorem dX5_init_58 : decode prog_1_method_1_code 58 = .ok (.new 28, 3) := by decide +kernel
theorem dX5_init_61 : decode prog_1_method_1_code 61 = .ok (.dup, 1) := by decide +kernel
theorem dX5_init_62 : decode prog_1_method_1_code 62 = .ok (.invokespecial 30, 3) := by decide +kernel
theorem dX5_init_65 : decode prog_1_method_1_code 65 = .ok (.putfield 35, 3) := by decide +kernel
theorem dX5_init_68 : decode prog_1_method_1_code 68 = .ok (.aload_n 0, 1) := by decide +kernel
theorem dX5_init_69 : decode prog_1_method_1_code 69 = .ok (.new 38, 3) := by decide +kernel
theorem dX5_init_72 : decode prog_1_method_1_code 72 = .ok (.dup, 1) := by decide +kernel
theorem dX5_init_73 : decode prog_1_method_1_code 73 = .ok (.invokespecial 40, 3) := by decide +kernel
theorem dX5_init_76 : decode prog_1_method_1_code 76 = .ok (.putfield 41, 3) := by decide +kernel
theorem dX5_init_79 : decode prog_1_method_1_code 79 = .ok (.aload_n 0, 1) := by decide +kernel
theorem dX5_init_80 : decode prog_1_method_1_code 80 = .ok (.new 45, 3) := by decide +kernel
theorem dX5_init_83 : decode prog_1_method_1_code 83 = .ok (.dup, 1) := by decide +kernel
theorem dX5_init_84 : decode prog_1_method_1_code 84 = .ok (.invokespecial 47, 3) := by decide +kernel
theorem dX5_init_87 : decode prog_1_method_1_code 87 = .ok (.putfield 48, 3) := by decide +kernel
theorem dX5_init_90 : decode prog_1_method_1_code 90 = .ok (.iconst 0, 1) := by decide +kernel
theorem dX5_init_91 : decode prog_1_method_1_code 91 = .ok (.istore_n 1, 1) := by decide +kernel
theorem dX5_init_92 : decode prog_1_method_1_code 92 = .ok (.iload_n 1, 1) := by decide +kernel
theorem dX5_init_93 : decode prog_1_method_1_code 93 = .ok (.aload_n 0, 1) := by decide +kernel
theorem dX5_init_94 : decode prog_1_method_1_code 94 = .ok (.getfield 11, 3) := by decide +kernel
theorem dX5_init_97 : decode prog_1_method_1_code 97 = .ok (.arraylength, 1) := by decide +kernel
theorem dX5_init_98 : decode prog_1_method_1_code 98 = .ok (.if_icmp .ge 22, 3) := by decide +kernel
theorem dX5_init_101 : decode prog_1_method_1_code 101 = .ok (.aload_n 0, 1) := by decide +kernel
theorem dX5_init_102 : decode prog_1_method_1_code 102 = .ok (.getfield 11, 3) := by decide +kernel
theorem dX5_init_105 : decode prog_1_method_1_code 105 = .ok (.iload_n 1, 1) := by decide +kernel
theorem dX5_init_106 : decode prog_1_method_1_code 106 = .ok (.new 9, 3) := by decide +kernel
theorem dX5_init_109 : decode prog_1_method_1_code 109 = .ok (.dup, 1) := by decide +kernel
theorem dX5_init_110 : decode prog_1_method_1_code 110 = .ok (.invokespecial 52, 3) := by decide +kernel
theorem dX5_init_113 : decode prog_1_method_1_code 113 = .ok (.aastore, 1) := by decide +kernel
theorem dX5_init_114 : decode prog_1_method_1_code 114 = .ok (.iinc 1 1, 3) := by decide +kernel
theorem dX5_init_117 : decode prog_1_method_1_code 117 = .ok (.goto (-25), 3) := by decide +kernel
theorem dX5_init_120 : decode prog_1_method_1_code 120 = .ok (.return_, 1) := by decide +kernel
theorem dX5_put_0 : decode prog_1_method_2_code 0 = .ok (.aload_n 0, 1) := by decide +kernel
theorem dX5_put_1 : decode prog_1_method_2_code 1 = .ok (.getfield 18, 3) := by decide +kernel
theorem dX5_put_4 : decode prog_1_method_2_code 4 = .ok (.lload_n 2, 1) := by decide +kernel
theorem dX5_put_5 : decode prog_1_method_2_code 5 = .ok (.invokevirtual 53, 3) := by decide +kernel
theorem dX5_put_8 : decode prog_1_method_2_code 8 = .ok (.aload_n 0, 1) := by decide +kernel
theorem dX5_put_9 : decode prog_1_method_2_code 9 = .ok (.iload_n 1, 1) := by decide +kernel
theorem dX5_put_10 : decode prog_1_method_2_code 10 = .ok (.aload_n 0, 1) := by decide +kernel
theorem dX5_put_11 : decode prog_1_method_2_code 11 = .ok (.getfield 18, 3) := by decide +kernel
theorem dX5_put_14 : decode prog_1_method_2_code 14 = .ok (.lload_n 2, 1) := by decide +kernel
theorem dX5_put_15 : decode prog_1_method_2_code 15 = .ok (.lconst 0, 1) := by decide +kernel
theorem dX5_put_16 : decode prog_1_method_2_code 16 = .ok (.lcmp, 1) := by decide +kernel
theorem dX5_put_17 : decode prog_1_method_2_code 17 = .ok (.ifCond .ge 7, 3) := by decide +kernel
theorem dX5_put_20 : decode prog_1_method_2_code 20 = .ok (.iconst 1, 1) := by decide +kernel
theorem dX5_put_21 : decode prog_1_method_2_code 21 = .ok (.goto 4, 3) := by decide +kernel
theorem dX5_put_24 : decode prog_1_method_2_code 24 = .ok (.iconst 0, 1) := by decide +kernel
theorem dX5_put_25 : decode prog_1_method_2_code 25 = .ok (.iload 4, 2) := by decide +kernel
theorem dX5_put_27 : decode prog_1_method_2_code 27 = .ok (.i2l, 1) := by decide +kernel
theorem dX5_put_28 : decode prog_1_method_2_code 28 = .ok (.invokevirtual 57, 3) := by decide +kernel
theorem dX5_put_31 : decode prog_1_method_2_code 31 = .ok (.ireturn, 1) := by decide +kernel
theorem dX5_copy_0 : decode prog_1_method_3_code 0 = .ok (.iload_n 2, 1) := by decide +kernel
theorem dX5_copy_1 : decode prog_1_method_3_code 1 = .ok (.invokestatic 61, 3) := by decide +kernel
theorem dX5_copy_4 : decode prog_1_method_3_code 4 = .ok (.ifCond .ne 5, 3) := by decide +kernel
theorem dX5_copy_7 : decode prog_1_method_3_code 7 = .ok (.iconst 0, 1) := by decide +kernel
theorem dX5_copy_8 : decode prog_1_method_3_code 8 = .ok (.ireturn, 1) := by decide +kernel
theorem dX5_copy_9 : decode prog_1_method_3_code 9 = .ok (.aload_n 0, 1) := by decide +kernel
theorem dX5_copy_10 : decode prog_1_method_3_code 10 = .ok (.getfield 11, 3) := by decide +kernel
theorem dX5_copy_13 : decode prog_1_method_3_code 13 = .ok (.iload_n 2, 1) := by decide +kernel
theorem dX5_copy_14 : decode prog_1_method_3_code 14 = .ok (.aaload, 1) := by decide +kernel
theorem dX5_copy_15 : decode prog_1_method_3_code 15 = .ok (.astore 4, 2) := by decide +kernel
theorem dX5_copy_17 : decode prog_1_method_3_code 17 = .ok (.aload_n 0, 1) := by decide +kernel
theorem dX5_copy_18 : decode prog_1_method_3_code 18 = .ok (.iload_n 1, 1) := by decide +kernel
theorem dX5_copy_19 : decode prog_1_method_3_code 19 = .ok (.aload 4, 2) := by decide +kernel
theorem dX5_copy_21 : decode prog_1_method_3_code 21 = .ok (.getfield 65, 3) := by decide +kernel
theorem dX5_copy_24 : decode prog_1_method_3_code 24 = .ok (.aload 4, 2) := by decide +kernel
theorem dX5_copy_26 : decode prog_1_method_3_code 26 = .ok (.getfield 68, 3) := by decide +kernel
theorem dX5_copy_29 : decode prog_1_method_3_code 29 = .ok (.iload_n 3, 1) := by decide +kernel
theorem dX5_copy_30 : decode prog_1_method_3_code 30 = .ok (.if_icmp .eq 7, 3) := by decide +kernel
theorem dX5_copy_33 : decode prog_1_method_3_code 33 = .ok (.iconst 1, 1) := by decide +kernel
theorem dX5_copy_34 : decode prog_1_method_3_code 34 = .ok (.goto 4, 3) := by decide +kernel
theorem dX5_copy_37 : decode prog_1_method_3_code 37 = .ok (.iconst 0, 1) := by decide +kernel
theorem dX5_copy_38 : decode prog_1_method_3_code 38 = .ok (.aload 4, 2) := by decide +kernel
theorem dX5_copy_40 : decode prog_1_method_3_code 40 = .ok (.getfield 72, 3) := by decide +kernel
theorem dX5_copy_43 : decode prog_1_method_3_code 43 = .ok (.i2l, 1) := by decide +kernel
theorem dX5_copy_44 : decode prog_1_method_3_code 44 = .ok (.invokevirtual 57, 3) := by decide +kernel
theorem dX5_copy_47 : decode prog_1_method_3_code 47 = .ok (.ireturn, 1) := by decide +kernel
theorem dX5_add_0 : decode prog_1_method_4_code 0 = .ok (.aload_n 0, 1) := by decide +kernel
theorem dX5_add_1 : decode prog_1_method_4_code 1 = .ok (.iload_n 1, 1) := by decide +kernel
theorem dX5_add_2 : decode prog_1_method_4_code 2 = .ok (.iload_n 2, 1) := by decide +kernel
theorem dX5_add_3 : decode prog_1_method_4_code 3 = .ok (.iload_n 3, 1) := by decide +kernel
theorem dX5_add_4 : decode prog_1_method_4_code 4 = .ok (.iconst 0, 1) := by decide +kernel
theorem dX5_add_5 : decode prog_1_method_4_code 5 = .ok (.invokevirtual 76, 3) := by decide +kernel
theorem dX5_add_8 : decode prog_1_method_4_code 8 = .ok (.ireturn, 1) := by decide +kernel
theorem dX5_take_0 : decode prog_1_method_5_code 0 = .ok (.aload_n 0, 1) := by decide +kernel
theorem dX5_take_1 : decode prog_1_method_5_code 1 = .ok (.iload_n 1, 1) := by decide +kernel
theorem dX5_take_2 : decode prog_1_method_5_code 2 = .ok (.iload_n 2, 1) := by decide +kernel
theorem dX5_take_3 : decode prog_1_method_5_code 3 = .ok (.iload_n 3, 1) := by decide +kernel
theorem dX5_take_4 : decode prog_1_method_5_code 4 = .ok (.iconst 1, 1) := by decide +kernel
theorem dX5_take_5 : decode prog_1_method_5_code 5 = .ok (.invokevirtual 76, 3) := by decide +kernel
theorem dX5_take_8 : decode prog_1_method_5_code 8 = .ok (.ireturn, 1) := by decide +kernel
theorem dX5_times_0 : decode prog_1_method_6_code 0 = .ok (.iload_n 2, 1) := by decide +kernel
theorem dX5_times_1 : decode prog_1_method_6_code 1 = .ok (.invokestatic 61, 3) := by decide +kernel
theorem dX5_times_4 : decode prog_1_method_6_code 4 = .ok (.ifCond .eq 10, 3) := by decide +kernel
theorem dX5_times_7 : decode prog_1_method_6_code 7 = .ok (.iload_n 3, 1) := by decide +kernel
theorem dX5_times_8 : decode prog_1_method_6_code 8 = .ok (.invokestatic 61, 3) := by decide +kernel
theorem dX5_times_11 : decode prog_1_method_6_code 11 = .ok (.ifCond .ne 5, 3) := by decide +kernel
theorem dX5_times_14 : decode prog_1_method_6_code 14 = .ok (.iconst 0, 1) := by decide +kernel
theorem dX5_times_15 : decode prog_1_method_6_code 15 = .ok (.ireturn, 1) := by decide +kernel
theorem dX5_times_16 : decode prog_1_method_6_code 16 = .ok (.aload_n 0, 1) := by decide +kernel
theorem dX5_times_17 : decode prog_1_method_6_code 17 = .ok (.getfield 11, 3) := by decide +kernel
theorem dX5_times_20 : decode prog_1_method_6_code 20 = .ok (.iload_n 2, 1) := by decide +kernel
theorem dX5_times_21 : decode prog_1_method_6_code 21 = .ok (.aaload, 1) := by decide +kernel
theorem dX5_times_22 : decode prog_1_method_6_code 22 = .ok (.astore 4, 2) := by decide +kernel
theorem dX5_times_24 : decode prog_1_method_6_code 24 = .ok (.aload_n 0, 1) := by decide +kernel
theorem dX5_times_25 : decode prog_1_method_6_code 25 = .ok (.getfield 11, 3) := by decide +kernel
theorem dX5_times_28 : decode prog_1_method_6_code 28 = .ok (.iload_n 3, 1) := by decide +kernel
theorem dX5_times_29 : decode prog_1_method_6_code 29 = .ok (.aaload, 1) := by decide +kernel
theorem dX5_times_30 : decode prog_1_method_6_code 30 = .ok (.astore 5, 2) := by decide +kernel
theorem dX5_times_32 : decode prog_1_method_6_code 32 = .ok (.aload_n 0, 1) := by decide +kernel
theorem dX5_times_33 : decode prog_1_method_6_code 33 = .ok (.getfield 18, 3) := by decide +kernel
theorem dX5_times_36 : decode prog_1_method_6_code 36 = .ok (.aload 4, 2) := by decide +kernel
theorem dX5_times_38 : decode prog_1_method_6_code 38 = .ok (.getfield 65, 3) := by decide +kernel
theorem dX5_times_41 : decode prog_1_method_6_code 41 = .ok (.aload 5, 2) := by decide +kernel
theorem dX5_times_43 : decode prog_1_method_6_code 43 = .ok (.getfield 65, 3) := by decide +kernel
theorem dX5_times_46 : decode prog_1_method_6_code 46 = .ok (.invokestatic 80, 3) := by decide +kernel
theorem dX5_times_49 : decode prog_1_method_6_code 49 = .ok (.ifCond .ne 5, 3) := by decide +kernel
theorem dX5_times_52 : decode prog_1_method_6_code 52 = .ok (.iconst 0, 1) := by decide +kernel
theorem dX5_times_53 : decode prog_1_method_6_code 53 = .ok (.ireturn, 1) := by decide +kernel
theorem dX5_times_54 : decode prog_1_method_6_code 54 = .ok (.aload_n 0, 1) := by decide +kernel
theorem dX5_times_55 : decode prog_1_method_6_code 55 = .ok (.iload_n 1, 1) := by decide +kernel
theorem dX5_times_56 : decode prog_1_method_6_code 56 = .ok (.aload_n 0, 1) := by decide +kernel
theorem dX5_times_57 : decode prog_1_method_6_code 57 = .ok (.getfield 18, 3) := by decide +kernel
theorem dX5_times_60 : decode prog_1_method_6_code 60 = .ok (.aload 4, 2) := by decide +kernel
theorem dX5_times_62 : decode prog_1_method_6_code 62 = .ok (.getfield 68, 3) := by decide +kernel
theorem dX5_times_65 : decode prog_1_method_6_code 65 = .ok (.aload 5, 2) := by decide +kernel
theorem dX5_times_67 : decode prog_1_method_6_code 67 = .ok (.getfield 68, 3) := by decide +kernel
theorem dX5_times_70 : decode prog_1_method_6_code 70 = .ok (.if_icmp .eq 7, 3) := by decide +kernel
theorem dX5_times_73 : decode prog_1_method_6_code 73 = .ok (.iconst 1, 1) := by decide +kernel
theorem dX5_times_74 : decode prog_1_method_6_code 74 = .ok (.goto 4, 3) := by decide +kernel
theorem dX5_times_77 : decode prog_1_method_6_code 77 = .ok (.iconst 0, 1) := by decide +kernel
theorem dX5_times_78 : decode prog_1_method_6_code 78 = .ok (.aload 4, 2) := by decide +kernel
theorem dX5_times_80 : decode prog_1_method_6_code 80 = .ok (.getfield 72, 3) := by decide +kernel
theorem dX5_times_83 : decode prog_1_method_6_code 83 = .ok (.i2l, 1) := by decide +kernel
theorem dX5_times_84 : decode prog_1_method_6_code 84 = .ok (.aload 5, 2) := by decide +kernel
theorem dX5_times_86 : decode prog_1_method_6_code 86 = .ok (.getfield 72, 3) := by decide +kernel
theorem dX5_times_89 : decode prog_1_method_6_code 89 = .ok (.i2l, 1) := by decide +kernel
theorem dX5_times_90 : decode prog_1_method_6_code 90 = .ok (.ladd, 1) := by decide +kernel
theorem dX5_times_91 : decode prog_1_method_6_code 91 = .ok (.invokevirtual 57, 3) := by decide +kernel
theorem dX5_times_94 : decode prog_1_method_6_code 94 = .ok (.ireturn, 1) := by decide +kernel
theorem dX5_power_0 : decode prog_1_method_7_code 0 = .ok (.iload_n 2, 1) := by decide +kernel
theorem dX5_power_1 : decode prog_1_method_7_code 1 = .ok (.invokestatic 61, 3) := by decide +kernel
theorem dX5_power_4 : decode prog_1_method_7_code 4 = .ok (.ifCond .eq 7, 3) := by decide +kernel
theorem dX5_power_7 : decode prog_1_method_7_code 7 = .ok (.iload_n 3, 1) := by decide +kernel
theorem dX5_power_8 : decode prog_1_method_7_code 8 = .ok (.ifCond .ge 5, 3) := by decide +kernel
theorem dX5_power_11 : decode prog_1_method_7_code 11 = .ok (.iconst 0, 1) := by decide +kernel
theorem dX5_power_12 : decode prog_1_method_7_code 12 = .ok (.ireturn, 1) := by decide +kernel
theorem dX5_power_13 : decode prog_1_method_7_code 13 = .ok (.aload_n 0, 1) := by decide +kernel
theorem dX5_power_14 : decode prog_1_method_7_code 14 = .ok (.getfield 11, 3) := by decide +kernel
theorem dX5_power_17 : decode prog_1_method_7_code 17 = .ok (.iload_n 2, 1) := by decide +kernel
theorem dX5_power_18 : decode prog_1_method_7_code 18 = .ok (.aaload, 1) := by decide +kernel
theorem dX5_power_19 : decode prog_1_method_7_code 19 = .ok (.astore 4, 2) := by decide +kernel
theorem dX5_power_21 : decode prog_1_method_7_code 21 = .ok (.aload 4, 2) := by decide +kernel
theorem dX5_power_23 : decode prog_1_method_7_code 23 = .ok (.getfield 68, 3) := by decide +kernel
theorem dX5_power_26 : decode prog_1_method_7_code 26 = .ok (.ifCond .eq 13, 3) := by decide +kernel
theorem dX5_power_29 : decode prog_1_method_7_code 29 = .ok (.iload_n 3, 1) := by decide +kernel
theorem dX5_power_30 : decode prog_1_method_7_code 30 = .ok (.iconst 1, 1) := by decide +kernel
theorem dX5_power_31 : decode prog_1_method_7_code 31 = .ok (.iand, 1) := by decide +kernel
theorem dX5_power_32 : decode prog_1_method_7_code 32 = .ok (.ifCond .eq 7, 3) := by decide +kernel
theorem dX5_power_35 : decode prog_1_method_7_code 35 = .ok (.iconst 1, 1) := by decide +kernel
theorem dX5_power_36 : decode prog_1_method_7_code 36 = .ok (.goto 4, 3) := by decide +kernel
theorem dX5_power_39 : decode prog_1_method_7_code 39 = .ok (.iconst 0, 1) := by decide +kernel
theorem dX5_power_40 : decode prog_1_method_7_code 40 = .ok (.istore 5, 2) := by decide +kernel
theorem dX5_power_42 : decode prog_1_method_7_code 42 = .ok (.aload 4, 2) := by decide +kernel
theorem dX5_power_44 : decode prog_1_method_7_code 44 = .ok (.getfield 72, 3) := by decide +kernel
theorem dX5_power_47 : decode prog_1_method_7_code 47 = .ok (.i2l, 1) := by decide +kernel
theorem dX5_power_48 : decode prog_1_method_7_code 48 = .ok (.iload_n 3, 1) := by decide +kernel
theorem dX5_power_49 : decode prog_1_method_7_code 49 = .ok (.i2l, 1) := by decide +kernel
theorem dX5_power_50 : decode prog_1_method_7_code 50 = .ok (.lmul, 1) := by decide +kernel
theorem dX5_power_51 : decode prog_1_method_7_code 51 = .ok (.lstore 6, 2) := by decide +kernel
theorem dX5_power_53 : decode prog_1_method_7_code 53 = .ok (.iload_n 3, 1) := by decide +kernel
theorem dX5_power_54 : decode prog_1_method_7_code 54 = .ok (.ifCond .ne 23, 3) := by decide +kernel
theorem dX5_power_57 : decode prog_1_method_7_code 57 = .ok (.aload_n 0, 1) := by decide +kernel
theorem dX5_power_58 : decode prog_1_method_7_code 58 = .ok (.getfield 18, 3) := by decide +kernel
theorem dX5_power_61 : decode prog_1_method_7_code 61 = .ok (.lconst 1, 1) := by decide +kernel
theorem dX5_power_62 : decode prog_1_method_7_code 62 = .ok (.invokevirtual 53, 3) := by decide +kernel
theorem dX5_power_65 : decode prog_1_method_7_code 65 = .ok (.aload_n 0, 1) := by decide +kernel
theorem dX5_power_66 : decode prog_1_method_7_code 66 = .ok (.iload_n 1, 1) := by decide +kernel
theorem dX5_power_67 : decode prog_1_method_7_code 67 = .ok (.aload_n 0, 1) := by decide +kernel
theorem dX5_power_68 : decode prog_1_method_7_code 68 = .ok (.getfield 18, 3) := by decide +kernel
theorem dX5_power_71 : decode prog_1_method_7_code 71 = .ok (.iconst 0, 1) := by decide +kernel
theorem dX5_power_72 : decode prog_1_method_7_code 72 = .ok (.lconst 0, 1) := by decide +kernel
theorem dX5_power_73 : decode prog_1_method_7_code 73 = .ok (.invokevirtual 57, 3) := by decide +kernel
theorem dX5_power_76 : decode prog_1_method_7_code 76 = .ok (.ireturn, 1) := by decide +kernel
theorem dX5_power_77 : decode prog_1_method_7_code 77 = .ok (.aload 4, 2) := by decide +kernel
theorem dX5_power_79 : decode prog_1_method_7_code 79 = .ok (.getfield 65, 3) := by decide +kernel
theorem dX5_power_82 : decode prog_1_method_7_code 82 = .ok (.invokevirtual 84, 3) := by decide +kernel
theorem dX5_power_85 : decode prog_1_method_7_code 85 = .ok (.ifCond .ne 14, 3) := by decide +kernel
theorem dX5_power_88 : decode prog_1_method_7_code 88 = .ok (.aload 4, 2) := by decide +kernel
theorem dX5_power_90 : decode prog_1_method_7_code 90 = .ok (.getfield 65, 3) := by decide +kernel
theorem dX5_power_93 : decode prog_1_method_7_code 93 = .ok (.invokevirtual 88, 3) := by decide +kernel
theorem dX5_power_96 : decode prog_1_method_7_code 96 = .ok (.ifCond .eq 18, 3) := by decide +kernel
theorem dX5_power_99 : decode prog_1_method_7_code 99 = .ok (.aload_n 0, 1) := by decide +kernel
theorem dX5_power_100 : decode prog_1_method_7_code 100 = .ok (.iload_n 1, 1) := by decide +kernel
theorem dX5_power_101 : decode prog_1_method_7_code 101 = .ok (.aload 4, 2) := by decide +kernel
theorem dX5_power_103 : decode prog_1_method_7_code 103 = .ok (.getfield 65, 3) := by decide +kernel
theorem dX5_power_106 : decode prog_1_method_7_code 106 = .ok (.iload 5, 2) := by decide +kernel
theorem dX5_power_108 : decode prog_1_method_7_code 108 = .ok (.lload 6, 2) := by decide +kernel
theorem dX5_power_110 : decode prog_1_method_7_code 110 = .ok (.invokevirtual 57, 3) := by decide +kernel
theorem dX5_power_113 : decode prog_1_method_7_code 113 = .ok (.ireturn, 1) := by decide +kernel
theorem dX5_power_114 : decode prog_1_method_7_code 114 = .ok (.iload_n 3, 1) := by decide +kernel
theorem dX5_power_115 : decode prog_1_method_7_code 115 = .ok (.sipush 13606, 3) := by decide +kernel
theorem dX5_power_118 : decode prog_1_method_7_code 118 = .ok (.if_icmp .le 5, 3) := by decide +kernel
theorem dX5_power_121 : decode prog_1_method_7_code 121 = .ok (.iconst 0, 1) := by decide +kernel
theorem dX5_power_122 : decode prog_1_method_7_code 122 = .ok (.ireturn, 1) := by decide +kernel
theorem dX5_power_123 : decode prog_1_method_7_code 123 = .ok (.aload_n 0, 1) := by decide +kernel
theorem dX5_power_124 : decode prog_1_method_7_code 124 = .ok (.iload_n 1, 1) := by decide +kernel
theorem dX5_power_125 : decode prog_1_method_7_code 125 = .ok (.aload 4, 2) := by decide +kernel
theorem dX5_power_127 : decode prog_1_method_7_code 127 = .ok (.getfield 65, 3) := by decide +kernel
theorem dX5_power_130 : decode prog_1_method_7_code 130 = .ok (.iload_n 3, 1) := by decide +kernel
theorem dX5_power_131 : decode prog_1_method_7_code 131 = .ok (.iload 5, 2) := by decide +kernel
theorem dX5_power_133 : decode prog_1_method_7_code 133 = .ok (.lload 6, 2) := by decide +kernel
theorem dX5_power_135 : decode prog_1_method_7_code 135 = .ok (.invokevirtual 91, 3) := by decide +kernel
theorem dX5_power_138 : decode prog_1_method_7_code 138 = .ok (.ireturn, 1) := by decide +kernel
theorem dX5_divide_0 : decode prog_1_method_8_code 0 = .ok (.iload_n 2, 1) := by decide +kernel
theorem dX5_divide_1 : decode prog_1_method_8_code 1 = .ok (.invokestatic 61, 3) := by decide +kernel
theorem dX5_divide_4 : decode prog_1_method_8_code 4 = .ok (.ifCond .eq 18, 3) := by decide +kernel
theorem dX5_divide_7 : decode prog_1_method_8_code 7 = .ok (.iload_n 3, 1) := by decide +kernel
theorem dX5_divide_8 : decode prog_1_method_8_code 8 = .ok (.invokestatic 61, 3) := by decide +kernel
theorem dX5_divide_11 : decode prog_1_method_8_code 11 = .ok (.ifCond .eq 11, 3) := by decide +kernel
theorem dX5_divide_14 : decode prog_1_method_8_code 14 = .ok (.iload 5, 2) := by decide +kernel
theorem dX5_divide_16 : decode prog_1_method_8_code 16 = .ok (.invokestatic 95, 3) := by decide +kernel
theorem dX5_divide_19 : decode prog_1_method_8_code 19 = .ok (.ifCond .ne 5, 3) := by decide +kernel
theorem dX5_divide_22 : decode prog_1_method_8_code 22 = .ok (.iconst 0, 1) := by decide +kernel
theorem dX5_divide_23 : decode prog_1_method_8_code 23 = .ok (.ireturn, 1) := by decide +kernel
theorem dX5_divide_24 : decode prog_1_method_8_code 24 = .ok (.aload_n 0, 1) := by decide +kernel
theorem dX5_divide_25 : decode prog_1_method_8_code 25 = .ok (.getfield 11, 3) := by decide +kernel
theorem dX5_divide_28 : decode prog_1_method_8_code 28 = .ok (.iload_n 2, 1) := by decide +kernel
theorem dX5_divide_29 : decode prog_1_method_8_code 29 = .ok (.aaload, 1) := by decide +kernel
theorem dX5_divide_30 : decode prog_1_method_8_code 30 = .ok (.astore 6, 2) := by decide +kernel
theorem dX5_divide_32 : decode prog_1_method_8_code 32 = .ok (.aload_n 0, 1) := by decide +kernel
theorem dX5_divide_33 : decode prog_1_method_8_code 33 = .ok (.getfield 11, 3) := by decide +kernel
theorem dX5_divide_36 : decode prog_1_method_8_code 36 = .ok (.iload_n 3, 1) := by decide +kernel
theorem dX5_divide_37 : decode prog_1_method_8_code 37 = .ok (.aaload, 1) := by decide +kernel
theorem dX5_divide_38 : decode prog_1_method_8_code 38 = .ok (.astore 7, 2) := by decide +kernel
theorem dX5_divide_40 : decode prog_1_method_8_code 40 = .ok (.aload 7, 2) := by decide +kernel
theorem dX5_divide_42 : decode prog_1_method_8_code 42 = .ok (.getfield 65, 3) := by decide +kernel
theorem dX5_divide_45 : decode prog_1_method_8_code 45 = .ok (.invokevirtual 84, 3) := by decide +kernel
theorem dX5_divide_48 : decode prog_1_method_8_code 48 = .ok (.ifCond .eq 5, 3) := by decide +kernel
theorem dX5_divide_51 : decode prog_1_method_8_code 51 = .ok (.iconst 0, 1) := by decide +kernel
theorem dX5_divide_52 : decode prog_1_method_8_code 52 = .ok (.ireturn, 1) := by decide +kernel
theorem dX5_divide_53 : decode prog_1_method_8_code 53 = .ok (.aload 6, 2) := by decide +kernel
theorem dX5_divide_55 : decode prog_1_method_8_code 55 = .ok (.getfield 65, 3) := by decide +kernel
theorem dX5_divide_58 : decode prog_1_method_8_code 58 = .ok (.invokevirtual 84, 3) := by decide +kernel
theorem dX5_divide_61 : decode prog_1_method_8_code 61 = .ok (.ifCond .eq 18, 3) := by decide +kernel
theorem dX5_divide_64 : decode prog_1_method_8_code 64 = .ok (.aload_n 0, 1) := by decide +kernel
theorem dX5_divide_65 : decode prog_1_method_8_code 65 = .ok (.iload_n 1, 1) := by decide +kernel
theorem dX5_divide_66 : decode prog_1_method_8_code 66 = .ok (.aload 6, 2) := by decide +kernel
theorem dX5_divide_68 : decode prog_1_method_8_code 68 = .ok (.getfield 65, 3) := by decide +kernel
theorem dX5_divide_71 : decode prog_1_method_8_code 71 = .ok (.iconst 0, 1) := by decide +kernel
theorem dX5_divide_72 : decode prog_1_method_8_code 72 = .ok (.iload 4, 2) := by decide +kernel
theorem dX5_divide_74 : decode prog_1_method_8_code 74 = .ok (.i2l, 1) := by decide +kernel
theorem dX5_divide_75 : decode prog_1_method_8_code 75 = .ok (.invokevirtual 57, 3) := by decide +kernel
theorem dX5_divide_78 : decode prog_1_method_8_code 78 = .ok (.ireturn, 1) := by decide +kernel
theorem dX5_divide_79 : decode prog_1_method_8_code 79 = .ok (.iload 4, 2) := by decide +kernel
theorem dX5_divide_81 : decode prog_1_method_8_code 81 = .ok (.i2l, 1) := by decide +kernel
theorem dX5_divide_82 : decode prog_1_method_8_code 82 = .ok (.aload 6, 2) := by decide +kernel
theorem dX5_divide_84 : decode prog_1_method_8_code 84 = .ok (.getfield 72, 3) := by decide +kernel
theorem dX5_divide_87 : decode prog_1_method_8_code 87 = .ok (.i2l, 1) := by decide +kernel
theorem dX5_divide_88 : decode prog_1_method_8_code 88 = .ok (.lsub, 1) := by decide +kernel
theorem dX5_divide_89 : decode prog_1_method_8_code 89 = .ok (.aload 7, 2) := by decide +kernel
theorem dX5_divide_91 : decode prog_1_method_8_code 91 = .ok (.getfield 72, 3) := by decide +kernel
theorem dX5_divide_94 : decode prog_1_method_8_code 94 = .ok (.i2l, 1) := by decide +kernel
theorem dX5_divide_95 : decode prog_1_method_8_code 95 = .ok (.ladd, 1) := by decide +kernel
theorem dX5_divide_96 : decode prog_1_method_8_code 96 = .ok (.lconst 1, 1) := by decide +kernel
theorem dX5_divide_97 : decode prog_1_method_8_code 97 = .ok (.ladd, 1) := by decide +kernel
theorem dX5_divide_98 : decode prog_1_method_8_code 98 = .ok (.lstore 8, 2) := by decide +kernel
theorem dX5_divide_100 : decode prog_1_method_8_code 100 = .ok (.aload 6, 2) := by decide +kernel
theorem dX5_divide_102 : decode prog_1_method_8_code 102 = .ok (.getfield 65, 3) := by decide +kernel
theorem dX5_divide_105 : decode prog_1_method_8_code 105 = .ok (.invokevirtual 98, 3) := by decide +kernel
theorem dX5_divide_108 : decode prog_1_method_8_code 108 = .ok (.aload 7, 2) := by decide +kernel
theorem dX5_divide_110 : decode prog_1_method_8_code 110 = .ok (.getfield 65, 3) := by decide +kernel
theorem dX5_divide_113 : decode prog_1_method_8_code 113 = .ok (.invokevirtual 98, 3) := by decide +kernel
theorem dX5_divide_116 : decode prog_1_method_8_code 116 = .ok (.isub, 1) := by decide +kernel
theorem dX5_divide_117 : decode prog_1_method_8_code 117 = .ok (.i2l, 1) := by decide +kernel
theorem dX5_divide_118 : decode prog_1_method_8_code 118 = .ok (.lload 8, 2) := by decide +kernel
theorem dX5_divide_120 : decode prog_1_method_8_code 120 = .ok (.ladd, 1) := by decide +kernel
theorem dX5_divide_121 : decode prog_1_method_8_code 121 = .ok (.lconst 1, 1) := by decide +kernel
theorem dX5_divide_122 : decode prog_1_method_8_code 122 = .ok (.lsub, 1) := by decide +kernel
theorem dX5_divide_123 : decode prog_1_method_8_code 123 = .ok (.ldc2_w 102, 3) := by decide +kernel
theorem dX5_divide_126 : decode prog_1_method_8_code 126 = .ok (.lcmp, 1) := by decide +kernel
theorem dX5_divide_127 : decode prog_1_method_8_code 127 = .ok (.ifCond .le 5, 3) := by decide +kernel
theorem dX5_divide_130 : decode prog_1_method_8_code 130 = .ok (.iconst 0, 1) := by decide +kernel
theorem dX5_divide_131 : decode prog_1_method_8_code 131 = .ok (.ireturn, 1) := by decide +kernel
theorem dX5_divide_132 : decode prog_1_method_8_code 132 = .ok (.lload 8, 2) := by decide +kernel
theorem dX5_divide_134 : decode prog_1_method_8_code 134 = .ok (.lconst 0, 1) := by decide +kernel
theorem dX5_divide_135 : decode prog_1_method_8_code 135 = .ok (.invokestatic 104, 3) := by decide +kernel
theorem dX5_divide_138 : decode prog_1_method_8_code 138 = .ok (.l2i, 1) := by decide +kernel
theorem dX5_divide_139 : decode prog_1_method_8_code 139 = .ok (.istore 10, 2) := by decide +kernel
theorem dX5_divide_141 : decode prog_1_method_8_code 141 = .ok (.aload_n 0, 1) := by decide +kernel
theorem dX5_divide_142 : decode prog_1_method_8_code 142 = .ok (.aload 6, 2) := by decide +kernel
theorem dX5_divide_144 : decode prog_1_method_8_code 144 = .ok (.getfield 65, 3) := by decide +kernel
theorem dX5_divide_147 : decode prog_1_method_8_code 147 = .ok (.iload 10, 2) := by decide +kernel
theorem dX5_divide_149 : decode prog_1_method_8_code 149 = .ok (.aload 7, 2) := by decide +kernel
theorem dX5_divide_151 : decode prog_1_method_8_code 151 = .ok (.getfield 65, 3) := by decide +kernel
theorem dX5_divide_154 : decode prog_1_method_8_code 154 = .ok (.invokevirtual 110, 3) := by decide +kernel
theorem dX5_divide_157 : decode prog_1_method_8_code 157 = .ok (.istore 11, 2) := by decide +kernel
theorem dX5_divide_159 : decode prog_1_method_8_code 159 = .ok (.iload 10, 2) := by decide +kernel
theorem dX5_divide_161 : decode prog_1_method_8_code 161 = .ok (.i2l, 1) := by decide +kernel
theorem dX5_divide_162 : decode prog_1_method_8_code 162 = .ok (.lload 8, 2) := by decide +kernel
theorem dX5_divide_164 : decode prog_1_method_8_code 164 = .ok (.lsub, 1) := by decide +kernel
theorem dX5_divide_165 : decode prog_1_method_8_code 165 = .ok (.lconst 1, 1) := by decide +kernel
theorem dX5_divide_166 : decode prog_1_method_8_code 166 = .ok (.ladd, 1) := by decide +kernel
theorem dX5_divide_167 : decode prog_1_method_8_code 167 = .ok (.ldc2_w 114, 3) := by decide +kernel
theorem dX5_divide_170 : decode prog_1_method_8_code 170 = .ok (.invokestatic 116, 3) := by decide +kernel
theorem dX5_divide_173 : decode prog_1_method_8_code 173 = .ok (.l2i, 1) := by decide +kernel
theorem dX5_divide_174 : decode prog_1_method_8_code 174 = .ok (.istore 12, 2) := by decide +kernel
theorem dX5_divide_176 : decode prog_1_method_8_code 176 = .ok (.aload 6, 2) := by decide +kernel
theorem dX5_divide_178 : decode prog_1_method_8_code 178 = .ok (.getfield 68, 3) := by decide +kernel
theorem dX5_divide_181 : decode prog_1_method_8_code 181 = .ok (.aload 7, 2) := by decide +kernel
theorem dX5_divide_183 : decode prog_1_method_8_code 183 = .ok (.getfield 68, 3) := by decide +kernel
theorem dX5_divide_186 : decode prog_1_method_8_code 186 = .ok (.if_icmp .eq 7, 3) := by decide +kernel
theorem dX5_divide_189 : decode prog_1_method_8_code 189 = .ok (.iconst 1, 1) := by decide +kernel
theorem dX5_divide_190 : decode prog_1_method_8_code 190 = .ok (.goto 4, 3) := by decide +kernel
theorem dX5_divide_193 : decode prog_1_method_8_code 193 = .ok (.iconst 0, 1) := by decide +kernel
theorem dX5_divide_194 : decode prog_1_method_8_code 194 = .ok (.istore 13, 2) := by decide +kernel
theorem dX5_divide_196 : decode prog_1_method_8_code 196 = .ok (.aload_n 0, 1) := by decide +kernel
theorem dX5_divide_197 : decode prog_1_method_8_code 197 = .ok (.iload 12, 2) := by decide +kernel
theorem dX5_divide_199 : decode prog_1_method_8_code 199 = .ok (.iload 11, 2) := by decide +kernel
theorem dX5_divide_201 : decode prog_1_method_8_code 201 = .ok (.iload 13, 2) := by decide +kernel
theorem dX5_divide_203 : decode prog_1_method_8_code 203 = .ok (.iload 5, 2) := by decide +kernel
theorem dX5_divide_205 : decode prog_1_method_8_code 205 = .ok (.invokevirtual 119, 3) := by decide +kernel
theorem dX5_divide_208 : decode prog_1_method_8_code 208 = .ok (.ifCond .eq 24, 3) := by decide +kernel
theorem dX5_divide_211 : decode prog_1_method_8_code 211 = .ok (.aload_n 0, 1) := by decide +kernel
theorem dX5_divide_212 : decode prog_1_method_8_code 212 = .ok (.iload_n 1, 1) := by decide +kernel
theorem dX5_divide_213 : decode prog_1_method_8_code 213 = .ok (.aload_n 0, 1) := by decide +kernel
theorem dX5_divide_214 : decode prog_1_method_8_code 214 = .ok (.getfield 22, 3) := by decide +kernel
theorem dX5_divide_217 : decode prog_1_method_8_code 217 = .ok (.iload 13, 2) := by decide +kernel
theorem dX5_divide_219 : decode prog_1_method_8_code 219 = .ok (.iload 4, 2) := by decide +kernel
theorem dX5_divide_221 : decode prog_1_method_8_code 221 = .ok (.i2l, 1) := by decide +kernel
theorem dX5_divide_222 : decode prog_1_method_8_code 222 = .ok (.invokevirtual 57, 3) := by decide +kernel
theorem dX5_divide_225 : decode prog_1_method_8_code 225 = .ok (.ifCond .eq 7, 3) := by decide +kernel
theorem dX5_divide_228 : decode prog_1_method_8_code 228 = .ok (.iconst 1, 1) := by decide +kernel
theorem dX5_divide_229 : decode prog_1_method_8_code 229 = .ok (.goto 4, 3) := by decide +kernel
theorem dX5_divide_232 : decode prog_1_method_8_code 232 = .ok (.iconst 0, 1) := by decide +kernel
theorem dX5_divide_233 : decode prog_1_method_8_code 233 = .ok (.ireturn, 1) := by decide +kernel
theorem dX5_ratio_0 : decode prog_1_method_9_code 0 = .ok (.iload_n 2, 1) := by decide +kernel
theorem dX5_ratio_1 : decode prog_1_method_9_code 1 = .ok (.invokestatic 61, 3) := by decide +kernel
theorem dX5_ratio_4 : decode prog_1_method_9_code 4 = .ok (.ifCond .eq 26, 3) := by decide +kernel
theorem dX5_ratio_7 : decode prog_1_method_9_code 7 = .ok (.iload_n 3, 1) := by decide +kernel
theorem dX5_ratio_8 : decode prog_1_method_9_code 8 = .ok (.invokestatic 61, 3) := by decide +kernel
theorem dX5_ratio_11 : decode prog_1_method_9_code 11 = .ok (.ifCond .eq 19, 3) := by decide +kernel
theorem dX5_ratio_14 : decode prog_1_method_9_code 14 = .ok (.iload 4, 2) := by decide +kernel
theorem dX5_ratio_16 : decode prog_1_method_9_code 16 = .ok (.invokestatic 123, 3) := by decide +kernel
theorem dX5_ratio_19 : decode prog_1_method_9_code 19 = .ok (.ifCond .eq 11, 3) := by decide +kernel
theorem dX5_ratio_22 : decode prog_1_method_9_code 22 = .ok (.iload 5, 2) := by decide +kernel
theorem dX5_ratio_24 : decode prog_1_method_9_code 24 = .ok (.invokestatic 95, 3) := by decide +kernel
theorem dX5_ratio_27 : decode prog_1_method_9_code 27 = .ok (.ifCond .ne 5, 3) := by decide +kernel
theorem dX5_ratio_30 : decode prog_1_method_9_code 30 = .ok (.iconst 0, 1) := by decide +kernel
theorem dX5_ratio_31 : decode prog_1_method_9_code 31 = .ok (.ireturn, 1) := by decide +kernel
theorem dX5_ratio_32 : decode prog_1_method_9_code 32 = .ok (.aload_n 0, 1) := by decide +kernel
theorem dX5_ratio_33 : decode prog_1_method_9_code 33 = .ok (.getfield 11, 3) := by decide +kernel
theorem dX5_ratio_36 : decode prog_1_method_9_code 36 = .ok (.iload_n 2, 1) := by decide +kernel
theorem dX5_ratio_37 : decode prog_1_method_9_code 37 = .ok (.aaload, 1) := by decide +kernel
theorem dX5_ratio_38 : decode prog_1_method_9_code 38 = .ok (.astore 6, 2) := by decide +kernel
theorem dX5_ratio_40 : decode prog_1_method_9_code 40 = .ok (.aload_n 0, 1) := by decide +kernel
theorem dX5_ratio_41 : decode prog_1_method_9_code 41 = .ok (.getfield 11, 3) := by decide +kernel
theorem dX5_ratio_44 : decode prog_1_method_9_code 44 = .ok (.iload_n 3, 1) := by decide +kernel
theorem dX5_ratio_45 : decode prog_1_method_9_code 45 = .ok (.aaload, 1) := by decide +kernel
theorem dX5_ratio_46 : decode prog_1_method_9_code 46 = .ok (.astore 7, 2) := by decide +kernel
theorem dX5_ratio_48 : decode prog_1_method_9_code 48 = .ok (.aload 7, 2) := by decide +kernel
theorem dX5_ratio_50 : decode prog_1_method_9_code 50 = .ok (.getfield 65, 3) := by decide +kernel
theorem dX5_ratio_53 : decode prog_1_method_9_code 53 = .ok (.invokevirtual 84, 3) := by decide +kernel
theorem dX5_ratio_56 : decode prog_1_method_9_code 56 = .ok (.ifCond .eq 5, 3) := by decide +kernel
theorem dX5_ratio_59 : decode prog_1_method_9_code 59 = .ok (.iconst 0, 1) := by decide +kernel
theorem dX5_ratio_60 : decode prog_1_method_9_code 60 = .ok (.ireturn, 1) := by decide +kernel
theorem dX5_ratio_61 : decode prog_1_method_9_code 61 = .ok (.aload 6, 2) := by decide +kernel
theorem dX5_ratio_63 : decode prog_1_method_9_code 63 = .ok (.getfield 72, 3) := by decide +kernel
theorem dX5_ratio_66 : decode prog_1_method_9_code 66 = .ok (.i2l, 1) := by decide +kernel
theorem dX5_ratio_67 : decode prog_1_method_9_code 67 = .ok (.aload 7, 2) := by decide +kernel
theorem dX5_ratio_69 : decode prog_1_method_9_code 69 = .ok (.getfield 72, 3) := by decide +kernel
theorem dX5_ratio_72 : decode prog_1_method_9_code 72 = .ok (.i2l, 1) := by decide +kernel
theorem dX5_ratio_73 : decode prog_1_method_9_code 73 = .ok (.lsub, 1) := by decide +kernel
theorem dX5_ratio_74 : decode prog_1_method_9_code 74 = .ok (.lstore 8, 2) := by decide +kernel
theorem dX5_ratio_76 : decode prog_1_method_9_code 76 = .ok (.aload 6, 2) := by decide +kernel
theorem dX5_ratio_78 : decode prog_1_method_9_code 78 = .ok (.getfield 65, 3) := by decide +kernel
theorem dX5_ratio_81 : decode prog_1_method_9_code 81 = .ok (.invokevirtual 84, 3) := by decide +kernel
theorem dX5_ratio_84 : decode prog_1_method_9_code 84 = .ok (.ifCond .eq 17, 3) := by decide +kernel
theorem dX5_ratio_87 : decode prog_1_method_9_code 87 = .ok (.aload_n 0, 1) := by decide +kernel
theorem dX5_ratio_88 : decode prog_1_method_9_code 88 = .ok (.iload_n 1, 1) := by decide +kernel
theorem dX5_ratio_89 : decode prog_1_method_9_code 89 = .ok (.aload 6, 2) := by decide +kernel
theorem dX5_ratio_91 : decode prog_1_method_9_code 91 = .ok (.getfield 65, 3) := by decide +kernel
theorem dX5_ratio_94 : decode prog_1_method_9_code 94 = .ok (.iconst 0, 1) := by decide +kernel
theorem dX5_ratio_95 : decode prog_1_method_9_code 95 = .ok (.lload 8, 2) := by decide +kernel
theorem dX5_ratio_97 : decode prog_1_method_9_code 97 = .ok (.invokevirtual 57, 3) := by decide +kernel
theorem dX5_ratio_100 : decode prog_1_method_9_code 100 = .ok (.ireturn, 1) := by decide +kernel
theorem dX5_ratio_101 : decode prog_1_method_9_code 101 = .ok (.iload 4, 2) := by decide +kernel
theorem dX5_ratio_103 : decode prog_1_method_9_code 103 = .ok (.ifCond .ne 15, 3) := by decide +kernel
theorem dX5_ratio_106 : decode prog_1_method_9_code 106 = .ok (.aload_n 0, 1) := by decide +kernel
theorem dX5_ratio_107 : decode prog_1_method_9_code 107 = .ok (.iload_n 1, 1) := by decide +kernel
theorem dX5_ratio_108 : decode prog_1_method_9_code 108 = .ok (.aload 6, 2) := by decide +kernel
theorem dX5_ratio_110 : decode prog_1_method_9_code 110 = .ok (.aload 7, 2) := by decide +kernel
theorem dX5_ratio_112 : decode prog_1_method_9_code 112 = .ok (.lload 8, 2) := by decide +kernel
theorem dX5_ratio_114 : decode prog_1_method_9_code 114 = .ok (.invokevirtual 126, 3) := by decide +kernel
theorem dX5_ratio_117 : decode prog_1_method_9_code 117 = .ok (.ireturn, 1) := by decide +kernel
theorem dX5_ratio_118 : decode prog_1_method_9_code 118 = .ok (.iconst 0, 1) := by decide +kernel
theorem dX5_ratio_119 : decode prog_1_method_9_code 119 = .ok (.iload 4, 2) := by decide +kernel
theorem dX5_ratio_121 : decode prog_1_method_9_code 121 = .ok (.iconst 1, 1) := by decide +kernel
theorem dX5_ratio_122 : decode prog_1_method_9_code 122 = .ok (.iadd, 1) := by decide +kernel
theorem dX5_ratio_123 : decode prog_1_method_9_code 123 = .ok (.aload 7, 2) := by decide +kernel
theorem dX5_ratio_125 : decode prog_1_method_9_code 125 = .ok (.getfield 65, 3) := by decide +kernel
theorem dX5_ratio_128 : decode prog_1_method_9_code 128 = .ok (.invokevirtual 98, 3) := by decide +kernel
theorem dX5_ratio_131 : decode prog_1_method_9_code 131 = .ok (.iadd, 1) := by decide +kernel
theorem dX5_ratio_132 : decode prog_1_method_9_code 132 = .ok (.aload 6, 2) := by decide +kernel
theorem dX5_ratio_134 : decode prog_1_method_9_code 134 = .ok (.getfield 65, 3) := by decide +kernel
theorem dX5_ratio_137 : decode prog_1_method_9_code 137 = .ok (.invokevirtual 98, 3) := by decide +kernel
theorem dX5_ratio_140 : decode prog_1_method_9_code 140 = .ok (.isub, 1) := by decide +kernel
theorem dX5_ratio_141 : decode prog_1_method_9_code 141 = .ok (.invokestatic 130, 3) := by decide +kernel
theorem dX5_ratio_144 : decode prog_1_method_9_code 144 = .ok (.istore 10, 2) := by decide +kernel
theorem dX5_ratio_146 : decode prog_1_method_9_code 146 = .ok (.aload_n 0, 1) := by decide +kernel
theorem dX5_ratio_147 : decode prog_1_method_9_code 147 = .ok (.aload 6, 2) := by decide +kernel
theorem dX5_ratio_149 : decode prog_1_method_9_code 149 = .ok (.getfield 65, 3) := by decide +kernel
theorem dX5_ratio_152 : decode prog_1_method_9_code 152 = .ok (.iload 10, 2) := by decide +kernel
theorem dX5_ratio_154 : decode prog_1_method_9_code 154 = .ok (.aload 7, 2) := by decide +kernel
theorem dX5_ratio_156 : decode prog_1_method_9_code 156 = .ok (.getfield 65, 3) := by decide +kernel
theorem dX5_ratio_159 : decode prog_1_method_9_code 159 = .ok (.invokevirtual 110, 3) := by decide +kernel
theorem dX5_ratio_162 : decode prog_1_method_9_code 162 = .ok (.istore 11, 2) := by decide +kernel
theorem dX5_ratio_164 : decode prog_1_method_9_code 164 = .ok (.aload 6, 2) := by decide +kernel
theorem dX5_ratio_166 : decode prog_1_method_9_code 166 = .ok (.getfield 68, 3) := by decide +kernel
theorem dX5_ratio_169 : decode prog_1_method_9_code 169 = .ok (.aload 7, 2) := by decide +kernel
theorem dX5_ratio_171 : decode prog_1_method_9_code 171 = .ok (.getfield 68, 3) := by decide +kernel
theorem dX5_ratio_174 : decode prog_1_method_9_code 174 = .ok (.if_icmp .eq 7, 3) := by decide +kernel
theorem dX5_ratio_177 : decode prog_1_method_9_code 177 = .ok (.iconst 1, 1) := by decide +kernel
theorem dX5_ratio_178 : decode prog_1_method_9_code 178 = .ok (.goto 4, 3) := by decide +kernel
theorem dX5_ratio_181 : decode prog_1_method_9_code 181 = .ok (.iconst 0, 1) := by decide +kernel
theorem dX5_ratio_182 : decode prog_1_method_9_code 182 = .ok (.istore 12, 2) := by decide +kernel
theorem dX5_ratio_184 : decode prog_1_method_9_code 184 = .ok (.aload_n 0, 1) := by decide +kernel
theorem dX5_ratio_185 : decode prog_1_method_9_code 185 = .ok (.iload_n 1, 1) := by decide +kernel
theorem dX5_ratio_186 : decode prog_1_method_9_code 186 = .ok (.iload 12, 2) := by decide +kernel
theorem dX5_ratio_188 : decode prog_1_method_9_code 188 = .ok (.lload 8, 2) := by decide +kernel
theorem dX5_ratio_190 : decode prog_1_method_9_code 190 = .ok (.iload 10, 2) := by decide +kernel
theorem dX5_ratio_192 : decode prog_1_method_9_code 192 = .ok (.i2l, 1) := by decide +kernel
theorem dX5_ratio_193 : decode prog_1_method_9_code 193 = .ok (.ladd, 1) := by decide +kernel
theorem dX5_ratio_194 : decode prog_1_method_9_code 194 = .ok (.iload 11, 2) := by decide +kernel
theorem dX5_ratio_196 : decode prog_1_method_9_code 196 = .ok (.lload 8, 2) := by decide +kernel
theorem dX5_ratio_198 : decode prog_1_method_9_code 198 = .ok (.iload 4, 2) := by decide +kernel
theorem dX5_ratio_200 : decode prog_1_method_9_code 200 = .ok (.iload 5, 2) := by decide +kernel
theorem dX5_ratio_202 : decode prog_1_method_9_code 202 = .ok (.invokevirtual 133, 3) := by decide +kernel
theorem dX5_ratio_205 : decode prog_1_method_9_code 205 = .ok (.ireturn, 1) := by decide +kernel
theorem dX5_whole_0 : decode prog_1_method_10_code 0 = .ok (.iload_n 1, 1) := by decide +kernel
theorem dX5_whole_1 : decode prog_1_method_10_code 1 = .ok (.invokestatic 61, 3) := by decide +kernel
theorem dX5_whole_4 : decode prog_1_method_10_code 4 = .ok (.ifCond .eq 30, 3) := by decide +kernel
theorem dX5_whole_7 : decode prog_1_method_10_code 7 = .ok (.iload_n 2, 1) := by decide +kernel
theorem dX5_whole_8 : decode prog_1_method_10_code 8 = .ok (.invokestatic 61, 3) := by decide +kernel
theorem dX5_whole_11 : decode prog_1_method_10_code 11 = .ok (.ifCond .eq 23, 3) := by decide +kernel
theorem dX5_whole_14 : decode prog_1_method_10_code 14 = .ok (.iload_n 3, 1) := by decide +kernel
theorem dX5_whole_15 : decode prog_1_method_10_code 15 = .ok (.invokestatic 61, 3) := by decide +kernel
theorem dX5_whole_18 : decode prog_1_method_10_code 18 = .ok (.ifCond .eq 16, 3) := by decide +kernel
theorem dX5_whole_21 : decode prog_1_method_10_code 21 = .ok (.iload 4, 2) := by decide +kernel
theorem dX5_whole_23 : decode prog_1_method_10_code 23 = .ok (.invokestatic 61, 3) := by decide +kernel
theorem dX5_whole_26 : decode prog_1_method_10_code 26 = .ok (.ifCond .eq 8, 3) := by decide +kernel
theorem dX5_whole_29 : decode prog_1_method_10_code 29 = .ok (.iload_n 1, 1) := by decide +kernel
theorem dX5_whole_30 : decode prog_1_method_10_code 30 = .ok (.iload_n 2, 1) := by decide +kernel
theorem dX5_whole_31 : decode prog_1_method_10_code 31 = .ok (.if_icmp .ne 5, 3) := by decide +kernel
theorem dX5_whole_34 : decode prog_1_method_10_code 34 = .ok (.iconst 0, 1) := by decide +kernel
theorem dX5_whole_35 : decode prog_1_method_10_code 35 = .ok (.ireturn, 1) := by decide +kernel
theorem dX5_whole_36 : decode prog_1_method_10_code 36 = .ok (.aload_n 0, 1) := by decide +kernel
theorem dX5_whole_37 : decode prog_1_method_10_code 37 = .ok (.getfield 11, 3) := by decide +kernel
theorem dX5_whole_40 : decode prog_1_method_10_code 40 = .ok (.iload_n 3, 1) := by decide +kernel
theorem dX5_whole_41 : decode prog_1_method_10_code 41 = .ok (.aaload, 1) := by decide +kernel
theorem dX5_whole_42 : decode prog_1_method_10_code 42 = .ok (.astore 5, 2) := by decide +kernel
theorem dX5_whole_44 : decode prog_1_method_10_code 44 = .ok (.aload_n 0, 1) := by decide +kernel
theorem dX5_whole_45 : decode prog_1_method_10_code 45 = .ok (.getfield 11, 3) := by decide +kernel
theorem dX5_whole_48 : decode prog_1_method_10_code 48 = .ok (.iload 4, 2) := by decide +kernel
theorem dX5_whole_50 : decode prog_1_method_10_code 50 = .ok (.aaload, 1) := by decide +kernel
theorem dX5_whole_51 : decode prog_1_method_10_code 51 = .ok (.astore 6, 2) := by decide +kernel
theorem dX5_whole_53 : decode prog_1_method_10_code 53 = .ok (.aload 6, 2) := by decide +kernel
theorem dX5_whole_55 : decode prog_1_method_10_code 55 = .ok (.getfield 65, 3) := by decide +kernel
theorem dX5_whole_58 : decode prog_1_method_10_code 58 = .ok (.invokevirtual 84, 3) := by decide +kernel
theorem dX5_whole_61 : decode prog_1_method_10_code 61 = .ok (.ifCond .eq 5, 3) := by decide +kernel
theorem dX5_whole_64 : decode prog_1_method_10_code 64 = .ok (.iconst 0, 1) := by decide +kernel
theorem dX5_whole_65 : decode prog_1_method_10_code 65 = .ok (.ireturn, 1) := by decide +kernel
theorem dX5_whole_66 : decode prog_1_method_10_code 66 = .ok (.aload 5, 2) := by decide +kernel
theorem dX5_whole_68 : decode prog_1_method_10_code 68 = .ok (.getfield 72, 3) := by decide +kernel
theorem dX5_whole_71 : decode prog_1_method_10_code 71 = .ok (.i2l, 1) := by decide +kernel
theorem dX5_whole_72 : decode prog_1_method_10_code 72 = .ok (.aload 6, 2) := by decide +kernel
theorem dX5_whole_74 : decode prog_1_method_10_code 74 = .ok (.getfield 72, 3) := by decide +kernel
theorem dX5_whole_77 : decode prog_1_method_10_code 77 = .ok (.i2l, 1) := by decide +kernel
theorem dX5_whole_78 : decode prog_1_method_10_code 78 = .ok (.lsub, 1) := by decide +kernel
theorem dX5_whole_79 : decode prog_1_method_10_code 79 = .ok (.lstore 7, 2) := by decide +kernel
theorem dX5_whole_81 : decode prog_1_method_10_code 81 = .ok (.aload 5, 2) := by decide +kernel
theorem dX5_whole_83 : decode prog_1_method_10_code 83 = .ok (.getfield 65, 3) := by decide +kernel
theorem dX5_whole_86 : decode prog_1_method_10_code 86 = .ok (.invokevirtual 98, 3) := by decide +kernel
theorem dX5_whole_89 : decode prog_1_method_10_code 89 = .ok (.i2l, 1) := by decide +kernel
theorem dX5_whole_90 : decode prog_1_method_10_code 90 = .ok (.lload 7, 2) := by decide +kernel
theorem dX5_whole_92 : decode prog_1_method_10_code 92 = .ok (.lsub, 1) := by decide +kernel
theorem dX5_whole_93 : decode prog_1_method_10_code 93 = .ok (.aload 6, 2) := by decide +kernel
theorem dX5_whole_95 : decode prog_1_method_10_code 95 = .ok (.getfield 65, 3) := by decide +kernel
theorem dX5_whole_98 : decode prog_1_method_10_code 98 = .ok (.invokevirtual 98, 3) := by decide +kernel
theorem dX5_whole_101 : decode prog_1_method_10_code 101 = .ok (.i2l, 1) := by decide +kernel
theorem dX5_whole_102 : decode prog_1_method_10_code 102 = .ok (.lcmp, 1) := by decide +kernel
theorem dX5_whole_103 : decode prog_1_method_10_code 103 = .ok (.ifCond .ge 44, 3) := by decide +kernel
theorem dX5_whole_106 : decode prog_1_method_10_code 106 = .ok (.aload_n 0, 1) := by decide +kernel
theorem dX5_whole_107 : decode prog_1_method_10_code 107 = .ok (.getfield 22, 3) := by decide +kernel
theorem dX5_whole_110 : decode prog_1_method_10_code 110 = .ok (.invokevirtual 137, 3) := by decide +kernel
theorem dX5_whole_113 : decode prog_1_method_10_code 113 = .ok (.aload_n 0, 1) := by decide +kernel
theorem dX5_whole_114 : decode prog_1_method_10_code 114 = .ok (.getfield 18, 3) := by decide +kernel
theorem dX5_whole_117 : decode prog_1_method_10_code 117 = .ok (.aload 5, 2) := by decide +kernel
theorem dX5_whole_119 : decode prog_1_method_10_code 119 = .ok (.getfield 65, 3) := by decide +kernel
theorem dX5_whole_122 : decode prog_1_method_10_code 122 = .ok (.invokevirtual 140, 3) := by decide +kernel
theorem dX5_whole_125 : decode prog_1_method_10_code 125 = .ok (.aload_n 0, 1) := by decide +kernel
theorem dX5_whole_126 : decode prog_1_method_10_code 126 = .ok (.iload_n 1, 1) := by decide +kernel
theorem dX5_whole_127 : decode prog_1_method_10_code 127 = .ok (.iload_n 2, 1) := by decide +kernel
theorem dX5_whole_128 : decode prog_1_method_10_code 128 = .ok (.aload 5, 2) := by decide +kernel
theorem dX5_whole_130 : decode prog_1_method_10_code 130 = .ok (.aload 6, 2) := by decide +kernel
theorem dX5_whole_132 : decode prog_1_method_10_code 132 = .ok (.getfield 68, 3) := by decide +kernel
theorem dX5_whole_135 : decode prog_1_method_10_code 135 = .ok (.lload 7, 2) := by decide +kernel
theorem dX5_whole_137 : decode prog_1_method_10_code 137 = .ok (.aload 5, 2) := by decide +kernel
theorem dX5_whole_139 : decode prog_1_method_10_code 139 = .ok (.getfield 72, 3) := by decide +kernel
theorem dX5_whole_142 : decode prog_1_method_10_code 142 = .ok (.i2l, 1) := by decide +kernel
theorem dX5_whole_143 : decode prog_1_method_10_code 143 = .ok (.invokevirtual 144, 3) := by decide +kernel
theorem dX5_whole_146 : decode prog_1_method_10_code 146 = .ok (.ireturn, 1) := by decide +kernel
theorem dX5_whole_147 : decode prog_1_method_10_code 147 = .ok (.lload 7, 2) := by decide +kernel
theorem dX5_whole_149 : decode prog_1_method_10_code 149 = .ok (.lconst 0, 1) := by decide +kernel
theorem dX5_whole_150 : decode prog_1_method_10_code 150 = .ok (.lcmp, 1) := by decide +kernel
theorem dX5_whole_151 : decode prog_1_method_10_code 151 = .ok (.ifCond .le 72, 3) := by decide +kernel
theorem dX5_whole_154 : decode prog_1_method_10_code 154 = .ok (.lload 7, 2) := by decide +kernel
theorem dX5_whole_156 : decode prog_1_method_10_code 156 = .ok (.l2i, 1) := by decide +kernel
theorem dX5_whole_157 : decode prog_1_method_10_code 157 = .ok (.istore 9, 2) := by decide +kernel
theorem dX5_whole_159 : decode prog_1_method_10_code 159 = .ok (.aload_n 0, 1) := by decide +kernel
theorem dX5_whole_160 : decode prog_1_method_10_code 160 = .ok (.getfield 25, 3) := by decide +kernel
theorem dX5_whole_163 : decode prog_1_method_10_code 163 = .ok (.aload 6, 2) := by decide +kernel
theorem dX5_whole_165 : decode prog_1_method_10_code 165 = .ok (.getfield 65, 3) := by decide +kernel
theorem dX5_whole_168 : decode prog_1_method_10_code 168 = .ok (.iload 9, 2) := by decide +kernel
theorem dX5_whole_170 : decode prog_1_method_10_code 170 = .ok (.invokevirtual 148, 3) := by decide +kernel
theorem dX5_whole_173 : decode prog_1_method_10_code 173 = .ok (.aload_n 0, 1) := by decide +kernel
theorem dX5_whole_174 : decode prog_1_method_10_code 174 = .ok (.aload 5, 2) := by decide +kernel
theorem dX5_whole_176 : decode prog_1_method_10_code 176 = .ok (.getfield 65, 3) := by decide +kernel
theorem dX5_whole_179 : decode prog_1_method_10_code 179 = .ok (.iconst 0, 1) := by decide +kernel
theorem dX5_whole_180 : decode prog_1_method_10_code 180 = .ok (.aload_n 0, 1) := by decide +kernel
theorem dX5_whole_181 : decode prog_1_method_10_code 181 = .ok (.getfield 25, 3) := by decide +kernel
theorem dX5_whole_184 : decode prog_1_method_10_code 184 = .ok (.invokevirtual 110, 3) := by decide +kernel
theorem dX5_whole_187 : decode prog_1_method_10_code 187 = .ok (.pop, 1) := by decide +kernel
theorem dX5_whole_188 : decode prog_1_method_10_code 188 = .ok (.aload_n 0, 1) := by decide +kernel
theorem dX5_whole_189 : decode prog_1_method_10_code 189 = .ok (.getfield 22, 3) := by decide +kernel
theorem dX5_whole_192 : decode prog_1_method_10_code 192 = .ok (.aload_n 0, 1) := by decide +kernel
theorem dX5_whole_193 : decode prog_1_method_10_code 193 = .ok (.getfield 22, 3) := by decide +kernel
theorem dX5_whole_196 : decode prog_1_method_10_code 196 = .ok (.iload 9, 2) := by decide +kernel
theorem dX5_whole_198 : decode prog_1_method_10_code 198 = .ok (.invokevirtual 148, 3) := by decide +kernel
theorem dX5_whole_201 : decode prog_1_method_10_code 201 = .ok (.aload_n 0, 1) := by decide +kernel
theorem dX5_whole_202 : decode prog_1_method_10_code 202 = .ok (.iload_n 1, 1) := by decide +kernel
theorem dX5_whole_203 : decode prog_1_method_10_code 203 = .ok (.iload_n 2, 1) := by decide +kernel
theorem dX5_whole_204 : decode prog_1_method_10_code 204 = .ok (.aload 5, 2) := by decide +kernel
theorem dX5_whole_206 : decode prog_1_method_10_code 206 = .ok (.aload 6, 2) := by decide +kernel
theorem dX5_whole_208 : decode prog_1_method_10_code 208 = .ok (.getfield 68, 3) := by decide +kernel
theorem dX5_whole_211 : decode prog_1_method_10_code 211 = .ok (.lload 7, 2) := by decide +kernel
theorem dX5_whole_213 : decode prog_1_method_10_code 213 = .ok (.aload 5, 2) := by decide +kernel
theorem dX5_whole_215 : decode prog_1_method_10_code 215 = .ok (.getfield 72, 3) := by decide +kernel
theorem dX5_whole_218 : decode prog_1_method_10_code 218 = .ok (.i2l, 1) := by decide +kernel
theorem dX5_whole_219 : decode prog_1_method_10_code 219 = .ok (.invokevirtual 144, 3) := by decide +kernel
theorem dX5_whole_222 : decode prog_1_method_10_code 222 = .ok (.ireturn, 1) := by decide +kernel
theorem dX5_whole_223 : decode prog_1_method_10_code 223 = .ok (.aload_n 0, 1) := by decide +kernel
theorem dX5_whole_224 : decode prog_1_method_10_code 224 = .ok (.iload_n 1, 1) := by decide +kernel
theorem dX5_whole_225 : decode prog_1_method_10_code 225 = .ok (.iload_n 2, 1) := by decide +kernel
theorem dX5_whole_226 : decode prog_1_method_10_code 226 = .ok (.aload 5, 2) := by decide +kernel
theorem dX5_whole_228 : decode prog_1_method_10_code 228 = .ok (.aload 6, 2) := by decide +kernel
theorem dX5_whole_230 : decode prog_1_method_10_code 230 = .ok (.lload 7, 2) := by decide +kernel
theorem dX5_whole_232 : decode prog_1_method_10_code 232 = .ok (.lneg, 1) := by decide +kernel
theorem dX5_whole_233 : decode prog_1_method_10_code 233 = .ok (.invokevirtual 152, 3) := by decide +kernel
theorem dX5_whole_236 : decode prog_1_method_10_code 236 = .ok (.ireturn, 1) := by decide +kernel
theorem dX5_root_0 : decode prog_1_method_11_code 0 = .ok (.iload_n 2, 1) := by decide +kernel
theorem dX5_root_1 : decode prog_1_method_11_code 1 = .ok (.invokestatic 61, 3) := by decide +kernel
theorem dX5_root_4 : decode prog_1_method_11_code 4 = .ok (.ifCond .eq 22, 3) := by decide +kernel
theorem dX5_root_7 : decode prog_1_method_11_code 7 = .ok (.iload_n 3, 1) := by decide +kernel
theorem dX5_root_8 : decode prog_1_method_11_code 8 = .ok (.invokestatic 123, 3) := by decide +kernel
theorem dX5_root_11 : decode prog_1_method_11_code 11 = .ok (.ifCond .eq 15, 3) := by decide +kernel
theorem dX5_root_14 : decode prog_1_method_11_code 14 = .ok (.iload_n 3, 1) := by decide +kernel
theorem dX5_root_15 : decode prog_1_method_11_code 15 = .ok (.ifCond .eq 11, 3) := by decide +kernel
theorem dX5_root_18 : decode prog_1_method_11_code 18 = .ok (.iload 4, 2) := by decide +kernel
theorem dX5_root_20 : decode prog_1_method_11_code 20 = .ok (.invokestatic 95, 3) := by decide +kernel
theorem dX5_root_23 : decode prog_1_method_11_code 23 = .ok (.ifCond .ne 5, 3) := by decide +kernel
theorem dX5_root_26 : decode prog_1_method_11_code 26 = .ok (.iconst 0, 1) := by decide +kernel
theorem dX5_root_27 : decode prog_1_method_11_code 27 = .ok (.ireturn, 1) := by decide +kernel
theorem dX5_root_28 : decode prog_1_method_11_code 28 = .ok (.aload_n 0, 1) := by decide +kernel
theorem dX5_root_29 : decode prog_1_method_11_code 29 = .ok (.getfield 11, 3) := by decide +kernel
theorem dX5_root_32 : decode prog_1_method_11_code 32 = .ok (.iload_n 2, 1) := by decide +kernel
theorem dX5_root_33 : decode prog_1_method_11_code 33 = .ok (.aaload, 1) := by decide +kernel
theorem dX5_root_34 : decode prog_1_method_11_code 34 = .ok (.astore 5, 2) := by decide +kernel
theorem dX5_root_36 : decode prog_1_method_11_code 36 = .ok (.aload 5, 2) := by decide +kernel
theorem dX5_root_38 : decode prog_1_method_11_code 38 = .ok (.getfield 68, 3) := by decide +kernel
theorem dX5_root_41 : decode prog_1_method_11_code 41 = .ok (.ifCond .eq 5, 3) := by decide +kernel
theorem dX5_root_44 : decode prog_1_method_11_code 44 = .ok (.iconst 0, 1) := by decide +kernel
theorem dX5_root_45 : decode prog_1_method_11_code 45 = .ok (.ireturn, 1) := by decide +kernel
theorem dX5_root_46 : decode prog_1_method_11_code 46 = .ok (.aload 5, 2) := by decide +kernel
theorem dX5_root_48 : decode prog_1_method_11_code 48 = .ok (.getfield 72, 3) := by decide +kernel
theorem dX5_root_51 : decode prog_1_method_11_code 51 = .ok (.iconst 2, 1) := by decide +kernel
theorem dX5_root_52 : decode prog_1_method_11_code 52 = .ok (.idiv, 1) := by decide +kernel
theorem dX5_root_53 : decode prog_1_method_11_code 53 = .ok (.istore 6, 2) := by decide +kernel
theorem dX5_root_55 : decode prog_1_method_11_code 55 = .ok (.aload 5, 2) := by decide +kernel
theorem dX5_root_57 : decode prog_1_method_11_code 57 = .ok (.getfield 65, 3) := by decide +kernel
theorem dX5_root_60 : decode prog_1_method_11_code 60 = .ok (.invokevirtual 84, 3) := by decide +kernel
theorem dX5_root_63 : decode prog_1_method_11_code 63 = .ok (.ifCond .eq 18, 3) := by decide +kernel
theorem dX5_root_66 : decode prog_1_method_11_code 66 = .ok (.aload_n 0, 1) := by decide +kernel
theorem dX5_root_67 : decode prog_1_method_11_code 67 = .ok (.iload_n 1, 1) := by decide +kernel
theorem dX5_root_68 : decode prog_1_method_11_code 68 = .ok (.aload 5, 2) := by decide +kernel
theorem dX5_root_70 : decode prog_1_method_11_code 70 = .ok (.getfield 65, 3) := by decide +kernel
theorem dX5_root_73 : decode prog_1_method_11_code 73 = .ok (.iconst 0, 1) := by decide +kernel
theorem dX5_root_74 : decode prog_1_method_11_code 74 = .ok (.iload 6, 2) := by decide +kernel
theorem dX5_root_76 : decode prog_1_method_11_code 76 = .ok (.i2l, 1) := by decide +kernel
theorem dX5_root_77 : decode prog_1_method_11_code 77 = .ok (.invokevirtual 57, 3) := by decide +kernel
theorem dX5_root_80 : decode prog_1_method_11_code 80 = .ok (.ireturn, 1) := by decide +kernel
theorem dX5_root_81 : decode prog_1_method_11_code 81 = .ok (.iload_n 3, 1) := by decide +kernel
theorem dX5_root_82 : decode prog_1_method_11_code 82 = .ok (.bipush 9, 2) := by decide +kernel
theorem dX5_root_84 : decode prog_1_method_11_code 84 = .ok (.idiv, 1) := by decide +kernel
theorem dX5_root_85 : decode prog_1_method_11_code 85 = .ok (.iconst 1, 1) := by decide +kernel
theorem dX5_root_86 : decode prog_1_method_11_code 86 = .ok (.iadd, 1) := by decide +kernel
theorem dX5_root_87 : decode prog_1_method_11_code 87 = .ok (.istore 7, 2) := by decide +kernel
theorem dX5_root_89 : decode prog_1_method_11_code 89 = .ok (.bipush 18, 2) := by decide +kernel
theorem dX5_root_91 : decode prog_1_method_11_code 91 = .ok (.iload 7, 2) := by decide +kernel
theorem dX5_root_93 : decode prog_1_method_11_code 93 = .ok (.imul, 1) := by decide +kernel
theorem dX5_root_94 : decode prog_1_method_11_code 94 = .ok (.aload 5, 2) := by decide +kernel
theorem dX5_root_96 : decode prog_1_method_11_code 96 = .ok (.getfield 65, 3) := by decide +kernel
theorem dX5_root_99 : decode prog_1_method_11_code 99 = .ok (.invokevirtual 98, 3) := by decide +kernel
theorem dX5_root_102 : decode prog_1_method_11_code 102 = .ok (.isub, 1) := by decide +kernel
theorem dX5_root_103 : decode prog_1_method_11_code 103 = .ok (.istore 8, 2) := by decide +kernel
theorem dX5_root_105 : decode prog_1_method_11_code 105 = .ok (.aload 5, 2) := by decide +kernel
theorem dX5_root_107 : decode prog_1_method_11_code 107 = .ok (.getfield 72, 3) := by decide +kernel
theorem dX5_root_110 : decode prog_1_method_11_code 110 = .ok (.iload 8, 2) := by decide +kernel
theorem dX5_root_112 : decode prog_1_method_11_code 112 = .ok (.ixor, 1) := by decide +kernel
theorem dX5_root_113 : decode prog_1_method_11_code 113 = .ok (.iconst 1, 1) := by decide +kernel
theorem dX5_root_114 : decode prog_1_method_11_code 114 = .ok (.iand, 1) := by decide +kernel
theorem dX5_root_115 : decode prog_1_method_11_code 115 = .ok (.ifCond .eq 6, 3) := by decide +kernel
theorem dX5_root_118 : decode prog_1_method_11_code 118 = .ok (.iinc 8 (-1), 3) := by decide +kernel
theorem dX5_root_121 : decode prog_1_method_11_code 121 = .ok (.iconst 0, 1) := by decide +kernel
theorem dX5_root_122 : decode prog_1_method_11_code 122 = .ok (.istore 9, 2) := by decide +kernel
theorem dX5_root_124 : decode prog_1_method_11_code 124 = .ok (.iload 8, 2) := by decide +kernel
theorem dX5_root_126 : decode prog_1_method_11_code 126 = .ok (.ifCond .lt 20, 3) := by decide +kernel
theorem dX5_root_129 : decode prog_1_method_11_code 129 = .ok (.aload_n 0, 1) := by decide +kernel
theorem dX5_root_130 : decode prog_1_method_11_code 130 = .ok (.getfield 18, 3) := by decide +kernel
theorem dX5_root_133 : decode prog_1_method_11_code 133 = .ok (.aload 5, 2) := by decide +kernel
theorem dX5_root_135 : decode prog_1_method_11_code 135 = .ok (.getfield 65, 3) := by decide +kernel
theorem dX5_root_138 : decode prog_1_method_11_code 138 = .ok (.iload 8, 2) := by decide +kernel
theorem dX5_root_140 : decode prog_1_method_11_code 140 = .ok (.invokevirtual 148, 3) := by decide +kernel
theorem dX5_root_143 : decode prog_1_method_11_code 143 = .ok (.goto 36, 3) := by decide +kernel
theorem dX5_root_146 : decode prog_1_method_11_code 146 = .ok (.aload_n 0, 1) := by decide +kernel
theorem dX5_root_147 : decode prog_1_method_11_code 147 = .ok (.getfield 18, 3) := by decide +kernel
theorem dX5_root_150 : decode prog_1_method_11_code 150 = .ok (.aload 5, 2) := by decide +kernel
theorem dX5_root_152 : decode prog_1_method_11_code 152 = .ok (.getfield 65, 3) := by decide +kernel
theorem dX5_root_155 : decode prog_1_method_11_code 155 = .ok (.invokevirtual 140, 3) := by decide +kernel
theorem dX5_root_158 : decode prog_1_method_11_code 158 = .ok (.aload_n 0, 1) := by decide +kernel
theorem dX5_root_159 : decode prog_1_method_11_code 159 = .ok (.getfield 18, 3) := by decide +kernel
theorem dX5_root_162 : decode prog_1_method_11_code 162 = .ok (.iload 8, 2) := by decide +kernel
theorem dX5_root_164 : decode prog_1_method_11_code 164 = .ok (.ineg, 1) := by decide +kernel
theorem dX5_root_165 : decode prog_1_method_11_code 165 = .ok (.iconst 0, 1) := by decide +kernel
theorem dX5_root_166 : decode prog_1_method_11_code 166 = .ok (.invokevirtual 156, 3) := by decide +kernel
theorem dX5_root_169 : decode prog_1_method_11_code 169 = .ok (.ifCond .eq 7, 3) := by decide +kernel
theorem dX5_root_172 : decode prog_1_method_11_code 172 = .ok (.iconst 1, 1) := by decide +kernel
theorem dX5_root_173 : decode prog_1_method_11_code 173 = .ok (.goto 4, 3) := by decide +kernel
theorem dX5_root_176 : decode prog_1_method_11_code 176 = .ok (.iconst 0, 1) := by decide +kernel
theorem dX5_root_177 : decode prog_1_method_11_code 177 = .ok (.istore 9, 2) := by decide +kernel
theorem dX5_root_179 : decode prog_1_method_11_code 179 = .ok (.aload_n 0, 1) := by decide +kernel
theorem dX5_root_180 : decode prog_1_method_11_code 180 = .ok (.getfield 18, 3) := by decide +kernel
theorem dX5_root_183 : decode prog_1_method_11_code 183 = .ok (.aload_n 0, 1) := by decide +kernel
theorem dX5_root_184 : decode prog_1_method_11_code 184 = .ok (.getfield 22, 3) := by decide +kernel
theorem dX5_root_187 : decode prog_1_method_11_code 187 = .ok (.aload_n 0, 1) := by decide +kernel
theorem dX5_root_188 : decode prog_1_method_11_code 188 = .ok (.getfield 25, 3) := by decide +kernel
theorem dX5_root_191 : decode prog_1_method_11_code 191 = .ok (.invokevirtual 160, 3) := by decide +kernel
theorem dX5_root_194 : decode prog_1_method_11_code 194 = .ok (.iload 9, 2) := by decide +kernel
theorem dX5_root_196 : decode prog_1_method_11_code 196 = .ok (.ifCond .ne 13, 3) := by decide +kernel
theorem dX5_root_199 : decode prog_1_method_11_code 199 = .ok (.aload_n 0, 1) := by decide +kernel
theorem dX5_root_200 : decode prog_1_method_11_code 200 = .ok (.getfield 18, 3) := by decide +kernel
theorem dX5_root_203 : decode prog_1_method_11_code 203 = .ok (.invokevirtual 84, 3) := by decide +kernel
theorem dX5_root_206 : decode prog_1_method_11_code 206 = .ok (.ifCond .ne 7, 3) := by decide +kernel
theorem dX5_root_209 : decode prog_1_method_11_code 209 = .ok (.iconst 1, 1) := by decide +kernel
theorem dX5_root_210 : decode prog_1_method_11_code 210 = .ok (.goto 4, 3) := by decide +kernel
theorem dX5_root_213 : decode prog_1_method_11_code 213 = .ok (.iconst 0, 1) := by decide +kernel
theorem dX5_root_214 : decode prog_1_method_11_code 214 = .ok (.istore 9, 2) := by decide +kernel
theorem dX5_root_216 : decode prog_1_method_11_code 216 = .ok (.aload_n 0, 1) := by decide +kernel
theorem dX5_root_217 : decode prog_1_method_11_code 217 = .ok (.iload_n 1, 1) := by decide +kernel
theorem dX5_root_218 : decode prog_1_method_11_code 218 = .ok (.iconst 0, 1) := by decide +kernel
theorem dX5_root_219 : decode prog_1_method_11_code 219 = .ok (.aload 5, 2) := by decide +kernel
theorem dX5_root_221 : decode prog_1_method_11_code 221 = .ok (.getfield 72, 3) := by decide +kernel
theorem dX5_root_224 : decode prog_1_method_11_code 224 = .ok (.i2l, 1) := by decide +kernel
theorem dX5_root_225 : decode prog_1_method_11_code 225 = .ok (.iload 8, 2) := by decide +kernel
theorem dX5_root_227 : decode prog_1_method_11_code 227 = .ok (.i2l, 1) := by decide +kernel
theorem dX5_root_228 : decode prog_1_method_11_code 228 = .ok (.ladd, 1) := by decide +kernel
theorem dX5_root_229 : decode prog_1_method_11_code 229 = .ok (.ldc2_w 164, 3) := by decide +kernel
theorem dX5_root_232 : decode prog_1_method_11_code 232 = .ok (.ldiv, 1) := by decide +kernel
theorem dX5_root_233 : decode prog_1_method_11_code 233 = .ok (.iload 9, 2) := by decide +kernel
theorem dX5_root_235 : decode prog_1_method_11_code 235 = .ok (.iload 6, 2) := by decide +kernel
theorem dX5_root_237 : decode prog_1_method_11_code 237 = .ok (.i2l, 1) := by decide +kernel
theorem dX5_root_238 : decode prog_1_method_11_code 238 = .ok (.iload_n 3, 1) := by decide +kernel
theorem dX5_root_239 : decode prog_1_method_11_code 239 = .ok (.iload 4, 2) := by decide +kernel
theorem dX5_root_241 : decode prog_1_method_11_code 241 = .ok (.invokevirtual 133, 3) := by decide +kernel
theorem dX5_root_244 : decode prog_1_method_11_code 244 = .ok (.ireturn, 1) := by decide +kernel
theorem dX5_rescale_0 : decode prog_1_method_12_code 0 = .ok (.iload_n 2, 1) := by decide +kernel
theorem dX5_rescale_1 : decode prog_1_method_12_code 1 = .ok (.invokestatic 61, 3) := by decide +kernel
theorem dX5_rescale_4 : decode prog_1_method_12_code 4 = .ok (.ifCond .eq 11, 3) := by decide +kernel
theorem dX5_rescale_7 : decode prog_1_method_12_code 7 = .ok (.iload 4, 2) := by decide +kernel
theorem dX5_rescale_9 : decode prog_1_method_12_code 9 = .ok (.invokestatic 95, 3) := by decide +kernel
theorem dX5_rescale_12 : decode prog_1_method_12_code 12 = .ok (.ifCond .ne 5, 3) := by decide +kernel
theorem dX5_rescale_15 : decode prog_1_method_12_code 15 = .ok (.iconst 0, 1) := by decide +kernel
theorem dX5_rescale_16 : decode prog_1_method_12_code 16 = .ok (.ireturn, 1) := by decide +kernel
theorem dX5_rescale_17 : decode prog_1_method_12_code 17 = .ok (.aload_n 0, 1) := by decide +kernel
theorem dX5_rescale_18 : decode prog_1_method_12_code 18 = .ok (.getfield 11, 3) := by decide +kernel
theorem dX5_rescale_21 : decode prog_1_method_12_code 21 = .ok (.iload_n 2, 1) := by decide +kernel
theorem dX5_rescale_22 : decode prog_1_method_12_code 22 = .ok (.aaload, 1) := by decide +kernel
theorem dX5_rescale_23 : decode prog_1_method_12_code 23 = .ok (.astore 5, 2) := by decide +kernel
theorem dX5_rescale_25 : decode prog_1_method_12_code 25 = .ok (.iload_n 3, 1) := by decide +kernel
theorem dX5_rescale_26 : decode prog_1_method_12_code 26 = .ok (.i2l, 1) := by decide +kernel
theorem dX5_rescale_27 : decode prog_1_method_12_code 27 = .ok (.aload 5, 2) := by decide +kernel
theorem dX5_rescale_29 : decode prog_1_method_12_code 29 = .ok (.getfield 72, 3) := by decide +kernel
theorem dX5_rescale_32 : decode prog_1_method_12_code 32 = .ok (.i2l, 1) := by decide +kernel
theorem dX5_rescale_33 : decode prog_1_method_12_code 33 = .ok (.lsub, 1) := by decide +kernel
theorem dX5_rescale_34 : decode prog_1_method_12_code 34 = .ok (.lstore 6, 2) := by decide +kernel
theorem dX5_rescale_36 : decode prog_1_method_12_code 36 = .ok (.aload 5, 2) := by decide +kernel
theorem dX5_rescale_38 : decode prog_1_method_12_code 38 = .ok (.getfield 65, 3) := by decide +kernel
theorem dX5_rescale_41 : decode prog_1_method_12_code 41 = .ok (.invokevirtual 84, 3) := by decide +kernel
theorem dX5_rescale_44 : decode prog_1_method_12_code 44 = .ok (.ifCond .eq 17, 3) := by decide +kernel
theorem dX5_rescale_47 : decode prog_1_method_12_code 47 = .ok (.aload_n 0, 1) := by decide +kernel
theorem dX5_rescale_48 : decode prog_1_method_12_code 48 = .ok (.iload_n 1, 1) := by decide +kernel
theorem dX5_rescale_49 : decode prog_1_method_12_code 49 = .ok (.aload 5, 2) := by decide +kernel
theorem dX5_rescale_51 : decode prog_1_method_12_code 51 = .ok (.getfield 65, 3) := by decide +kernel
theorem dX5_rescale_54 : decode prog_1_method_12_code 54 = .ok (.iconst 0, 1) := by decide +kernel
theorem dX5_rescale_55 : decode prog_1_method_12_code 55 = .ok (.iload_n 3, 1) := by decide +kernel
theorem dX5_rescale_56 : decode prog_1_method_12_code 56 = .ok (.i2l, 1) := by decide +kernel
theorem dX5_rescale_57 : decode prog_1_method_12_code 57 = .ok (.invokevirtual 57, 3) := by decide +kernel
theorem dX5_rescale_60 : decode prog_1_method_12_code 60 = .ok (.ireturn, 1) := by decide +kernel
theorem dX5_rescale_61 : decode prog_1_method_12_code 61 = .ok (.lload 6, 2) := by decide +kernel
theorem dX5_rescale_63 : decode prog_1_method_12_code 63 = .ok (.lconst 0, 1) := by decide +kernel
theorem dX5_rescale_64 : decode prog_1_method_12_code 64 = .ok (.lcmp, 1) := by decide +kernel
theorem dX5_rescale_65 : decode prog_1_method_12_code 65 = .ok (.ifCond .lt 56, 3) := by decide +kernel
theorem dX5_rescale_68 : decode prog_1_method_12_code 68 = .ok (.aload 5, 2) := by decide +kernel
theorem dX5_rescale_70 : decode prog_1_method_12_code 70 = .ok (.getfield 65, 3) := by decide +kernel
theorem dX5_rescale_73 : decode prog_1_method_12_code 73 = .ok (.invokevirtual 98, 3) := by decide +kernel
theorem dX5_rescale_76 : decode prog_1_method_12_code 76 = .ok (.i2l, 1) := by decide +kernel
theorem dX5_rescale_77 : decode prog_1_method_12_code 77 = .ok (.lload 6, 2) := by decide +kernel
theorem dX5_rescale_79 : decode prog_1_method_12_code 79 = .ok (.ladd, 1) := by decide +kernel
theorem dX5_rescale_80 : decode prog_1_method_12_code 80 = .ok (.ldc2_w 102, 3) := by decide +kernel
theorem dX5_rescale_83 : decode prog_1_method_12_code 83 = .ok (.lcmp, 1) := by decide +kernel
theorem dX5_rescale_84 : decode prog_1_method_12_code 84 = .ok (.ifCond .le 5, 3) := by decide +kernel
theorem dX5_rescale_87 : decode prog_1_method_12_code 87 = .ok (.iconst 0, 1) := by decide +kernel
theorem dX5_rescale_88 : decode prog_1_method_12_code 88 = .ok (.ireturn, 1) := by decide +kernel
theorem dX5_rescale_89 : decode prog_1_method_12_code 89 = .ok (.aload_n 0, 1) := by decide +kernel
theorem dX5_rescale_90 : decode prog_1_method_12_code 90 = .ok (.getfield 18, 3) := by decide +kernel
theorem dX5_rescale_93 : decode prog_1_method_12_code 93 = .ok (.aload 5, 2) := by decide +kernel
theorem dX5_rescale_95 : decode prog_1_method_12_code 95 = .ok (.getfield 65, 3) := by decide +kernel
theorem dX5_rescale_98 : decode prog_1_method_12_code 98 = .ok (.lload 6, 2) := by decide +kernel
theorem dX5_rescale_100 : decode prog_1_method_12_code 100 = .ok (.l2i, 1) := by decide +kernel
theorem dX5_rescale_101 : decode prog_1_method_12_code 101 = .ok (.invokevirtual 148, 3) := by decide +kernel
theorem dX5_rescale_104 : decode prog_1_method_12_code 104 = .ok (.aload_n 0, 1) := by decide +kernel
theorem dX5_rescale_105 : decode prog_1_method_12_code 105 = .ok (.iload_n 1, 1) := by decide +kernel
theorem dX5_rescale_106 : decode prog_1_method_12_code 106 = .ok (.aload_n 0, 1) := by decide +kernel
theorem dX5_rescale_107 : decode prog_1_method_12_code 107 = .ok (.getfield 18, 3) := by decide +kernel
theorem dX5_rescale_110 : decode prog_1_method_12_code 110 = .ok (.aload 5, 2) := by decide +kernel
theorem dX5_rescale_112 : decode prog_1_method_12_code 112 = .ok (.getfield 68, 3) := by decide +kernel
theorem dX5_rescale_115 : decode prog_1_method_12_code 115 = .ok (.iload_n 3, 1) := by decide +kernel
theorem dX5_rescale_116 : decode prog_1_method_12_code 116 = .ok (.i2l, 1) := by decide +kernel
theorem dX5_rescale_117 : decode prog_1_method_12_code 117 = .ok (.invokevirtual 57, 3) := by decide +kernel
theorem dX5_rescale_120 : decode prog_1_method_12_code 120 = .ok (.ireturn, 1) := by decide +kernel
theorem dX5_rescale_121 : decode prog_1_method_12_code 121 = .ok (.aload_n 0, 1) := by decide +kernel
theorem dX5_rescale_122 : decode prog_1_method_12_code 122 = .ok (.getfield 22, 3) := by decide +kernel
theorem dX5_rescale_125 : decode prog_1_method_12_code 125 = .ok (.aload 5, 2) := by decide +kernel
theorem dX5_rescale_127 : decode prog_1_method_12_code 127 = .ok (.getfield 65, 3) := by decide +kernel
theorem dX5_rescale_130 : decode prog_1_method_12_code 130 = .ok (.invokevirtual 140, 3) := by decide +kernel
theorem dX5_rescale_133 : decode prog_1_method_12_code 133 = .ok (.lload 6, 2) := by decide +kernel
theorem dX5_rescale_135 : decode prog_1_method_12_code 135 = .ok (.lneg, 1) := by decide +kernel
theorem dX5_rescale_136 : decode prog_1_method_12_code 136 = .ok (.ldc2_w 114, 3) := by decide +kernel
theorem dX5_rescale_139 : decode prog_1_method_12_code 139 = .ok (.invokestatic 116, 3) := by decide +kernel
theorem dX5_rescale_142 : decode prog_1_method_12_code 142 = .ok (.l2i, 1) := by decide +kernel
theorem dX5_rescale_143 : decode prog_1_method_12_code 143 = .ok (.istore 8, 2) := by decide +kernel
theorem dX5_rescale_145 : decode prog_1_method_12_code 145 = .ok (.aload_n 0, 1) := by decide +kernel
theorem dX5_rescale_146 : decode prog_1_method_12_code 146 = .ok (.iload 8, 2) := by decide +kernel
theorem dX5_rescale_148 : decode prog_1_method_12_code 148 = .ok (.iconst 0, 1) := by decide +kernel
theorem dX5_rescale_149 : decode prog_1_method_12_code 149 = .ok (.aload 5, 2) := by decide +kernel
theorem dX5_rescale_151 : decode prog_1_method_12_code 151 = .ok (.getfield 68, 3) := by decide +kernel
theorem dX5_rescale_154 : decode prog_1_method_12_code 154 = .ok (.iload 4, 2) := by decide +kernel
theorem dX5_rescale_156 : decode prog_1_method_12_code 156 = .ok (.invokevirtual 119, 3) := by decide +kernel
theorem dX5_rescale_159 : decode prog_1_method_12_code 159 = .ok (.ifCond .eq 26, 3) := by decide +kernel
theorem dX5_rescale_162 : decode prog_1_method_12_code 162 = .ok (.aload_n 0, 1) := by decide +kernel
theorem dX5_rescale_163 : decode prog_1_method_12_code 163 = .ok (.iload_n 1, 1) := by decide +kernel
theorem dX5_rescale_164 : decode prog_1_method_12_code 164 = .ok (.aload_n 0, 1) := by decide +kernel
theorem dX5_rescale_165 : decode prog_1_method_12_code 165 = .ok (.getfield 22, 3) := by decide +kernel
theorem dX5_rescale_168 : decode prog_1_method_12_code 168 = .ok (.aload 5, 2) := by decide +kernel
theorem dX5_rescale_170 : decode prog_1_method_12_code 170 = .ok (.getfield 68, 3) := by decide +kernel
theorem dX5_rescale_173 : decode prog_1_method_12_code 173 = .ok (.iload_n 3, 1) := by decide +kernel
theorem dX5_rescale_174 : decode prog_1_method_12_code 174 = .ok (.i2l, 1) := by decide +kernel
theorem dX5_rescale_175 : decode prog_1_method_12_code 175 = .ok (.invokevirtual 57, 3) := by decide +kernel
theorem dX5_rescale_178 : decode prog_1_method_12_code 178 = .ok (.ifCond .eq 7, 3) := by decide +kernel
theorem dX5_rescale_181 : decode prog_1_method_12_code 181 = .ok (.iconst 1, 1) := by decide +kernel
theorem dX5_rescale_182 : decode prog_1_method_12_code 182 = .ok (.goto 4, 3) := by decide +kernel
theorem dX5_rescale_185 : decode prog_1_method_12_code 185 = .ok (.iconst 0, 1) := by decide +kernel
theorem dX5_rescale_186 : decode prog_1_method_12_code 186 = .ok (.ireturn, 1) := by decide +kernel
theorem dX5_round_0 : decode prog_1_method_13_code 0 = .ok (.iload_n 2, 1) := by decide +kernel
theorem dX5_round_1 : decode prog_1_method_13_code 1 = .ok (.invokestatic 61, 3) := by decide +kernel
theorem dX5_round_4 : decode prog_1_method_13_code 4 = .ok (.ifCond .eq 18, 3) := by decide +kernel
theorem dX5_round_7 : decode prog_1_method_13_code 7 = .ok (.iload_n 3, 1) := by decide +kernel
theorem dX5_round_8 : decode prog_1_method_13_code 8 = .ok (.invokestatic 123, 3) := by decide +kernel
theorem dX5_round_11 : decode prog_1_method_13_code 11 = .ok (.ifCond .eq 11, 3) := by decide +kernel
theorem dX5_round_14 : decode prog_1_method_13_code 14 = .ok (.iload 4, 2) := by decide +kernel
theorem dX5_round_16 : decode prog_1_method_13_code 16 = .ok (.invokestatic 95, 3) := by decide +kernel
theorem dX5_round_19 : decode prog_1_method_13_code 19 = .ok (.ifCond .ne 5, 3) := by decide +kernel
theorem dX5_round_22 : decode prog_1_method_13_code 22 = .ok (.iconst 0, 1) := by decide +kernel
theorem dX5_round_23 : decode prog_1_method_13_code 23 = .ok (.ireturn, 1) := by decide +kernel
theorem dX5_round_24 : decode prog_1_method_13_code 24 = .ok (.aload_n 0, 1) := by decide +kernel
theorem dX5_round_25 : decode prog_1_method_13_code 25 = .ok (.getfield 11, 3) := by decide +kernel
theorem dX5_round_28 : decode prog_1_method_13_code 28 = .ok (.iload_n 2, 1) := by decide +kernel
theorem dX5_round_29 : decode prog_1_method_13_code 29 = .ok (.aaload, 1) := by decide +kernel
theorem dX5_round_30 : decode prog_1_method_13_code 30 = .ok (.astore 5, 2) := by decide +kernel
theorem dX5_round_32 : decode prog_1_method_13_code 32 = .ok (.iload_n 3, 1) := by decide +kernel
theorem dX5_round_33 : decode prog_1_method_13_code 33 = .ok (.ifCond .eq 15, 3) := by decide +kernel
theorem dX5_round_36 : decode prog_1_method_13_code 36 = .ok (.aload 5, 2) := by decide +kernel
theorem dX5_round_38 : decode prog_1_method_13_code 38 = .ok (.getfield 65, 3) := by decide +kernel
theorem dX5_round_41 : decode prog_1_method_13_code 41 = .ok (.invokevirtual 98, 3) := by decide +kernel
theorem dX5_round_44 : decode prog_1_method_13_code 44 = .ok (.iload_n 3, 1) := by decide +kernel
theorem dX5_round_45 : decode prog_1_method_13_code 45 = .ok (.if_icmp .gt 25, 3) := by decide +kernel
theorem dX5_round_48 : decode prog_1_method_13_code 48 = .ok (.aload_n 0, 1) := by decide +kernel
theorem dX5_round_49 : decode prog_1_method_13_code 49 = .ok (.iload_n 1, 1) := by decide +kernel
theorem dX5_round_50 : decode prog_1_method_13_code 50 = .ok (.aload 5, 2) := by decide +kernel
theorem dX5_round_52 : decode prog_1_method_13_code 52 = .ok (.getfield 65, 3) := by decide +kernel
theorem dX5_round_55 : decode prog_1_method_13_code 55 = .ok (.aload 5, 2) := by decide +kernel
theorem dX5_round_57 : decode prog_1_method_13_code 57 = .ok (.getfield 68, 3) := by decide +kernel
theorem dX5_round_60 : decode prog_1_method_13_code 60 = .ok (.aload 5, 2) := by decide +kernel
theorem dX5_round_62 : decode prog_1_method_13_code 62 = .ok (.getfield 72, 3) := by decide +kernel
theorem dX5_round_65 : decode prog_1_method_13_code 65 = .ok (.i2l, 1) := by decide +kernel
theorem dX5_round_66 : decode prog_1_method_13_code 66 = .ok (.invokevirtual 57, 3) := by decide +kernel
theorem dX5_round_69 : decode prog_1_method_13_code 69 = .ok (.ireturn, 1) := by decide +kernel
theorem dX5_round_70 : decode prog_1_method_13_code 70 = .ok (.aload_n 0, 1) := by decide +kernel
theorem dX5_round_71 : decode prog_1_method_13_code 71 = .ok (.getfield 22, 3) := by decide +kernel
theorem dX5_round_74 : decode prog_1_method_13_code 74 = .ok (.aload 5, 2) := by decide +kernel
theorem dX5_round_76 : decode prog_1_method_13_code 76 = .ok (.getfield 65, 3) := by decide +kernel
theorem dX5_round_79 : decode prog_1_method_13_code 79 = .ok (.invokevirtual 140, 3) := by decide +kernel
theorem dX5_round_82 : decode prog_1_method_13_code 82 = .ok (.aload_n 0, 1) := by decide +kernel
theorem dX5_round_83 : decode prog_1_method_13_code 83 = .ok (.iload_n 1, 1) := by decide +kernel
theorem dX5_round_84 : decode prog_1_method_13_code 84 = .ok (.aload 5, 2) := by decide +kernel
theorem dX5_round_86 : decode prog_1_method_13_code 86 = .ok (.getfield 68, 3) := by decide +kernel
theorem dX5_round_89 : decode prog_1_method_13_code 89 = .ok (.aload 5, 2) := by decide +kernel
theorem dX5_round_91 : decode prog_1_method_13_code 91 = .ok (.getfield 72, 3) := by decide +kernel
theorem dX5_round_94 : decode prog_1_method_13_code 94 = .ok (.i2l, 1) := by decide +kernel
theorem dX5_round_95 : decode prog_1_method_13_code 95 = .ok (.iconst 0, 1) := by decide +kernel
theorem dX5_round_96 : decode prog_1_method_13_code 96 = .ok (.iload_n 3, 1) := by decide +kernel
theorem dX5_round_97 : decode prog_1_method_13_code 97 = .ok (.iload 4, 2) := by decide +kernel
theorem dX5_round_99 : decode prog_1_method_13_code 99 = .ok (.invokevirtual 166, 3) := by decide +kernel
theorem dX5_round_102 : decode prog_1_method_13_code 102 = .ok (.ireturn, 1) := by decide +kernel
theorem dX5_strip_0 : decode prog_1_method_14_code 0 = .ok (.iload_n 2, 1) := by decide +kernel
theorem dX5_strip_1 : decode prog_1_method_14_code 1 = .ok (.invokestatic 61, 3) := by decide +kernel
theorem dX5_strip_4 : decode prog_1_method_14_code 4 = .ok (.ifCond .ne 5, 3) := by decide +kernel
theorem dX5_strip_7 : decode prog_1_method_14_code 7 = .ok (.iconst 0, 1) := by decide +kernel
theorem dX5_strip_8 : decode prog_1_method_14_code 8 = .ok (.ireturn, 1) := by decide +kernel
theorem dX5_strip_9 : decode prog_1_method_14_code 9 = .ok (.aload_n 0, 1) := by decide +kernel
theorem dX5_strip_10 : decode prog_1_method_14_code 10 = .ok (.getfield 11, 3) := by decide +kernel
theorem dX5_strip_13 : decode prog_1_method_14_code 13 = .ok (.iload_n 2, 1) := by decide +kernel
theorem dX5_strip_14 : decode prog_1_method_14_code 14 = .ok (.aaload, 1) := by decide +kernel
theorem dX5_strip_15 : decode prog_1_method_14_code 15 = .ok (.astore_n 3, 1) := by decide +kernel
theorem dX5_strip_16 : decode prog_1_method_14_code 16 = .ok (.aload_n 3, 1) := by decide +kernel
theorem dX5_strip_17 : decode prog_1_method_14_code 17 = .ok (.getfield 65, 3) := by decide +kernel
theorem dX5_strip_20 : decode prog_1_method_14_code 20 = .ok (.invokevirtual 84, 3) := by decide +kernel
theorem dX5_strip_23 : decode prog_1_method_14_code 23 = .ok (.ifCond .eq 15, 3) := by decide +kernel
theorem dX5_strip_26 : decode prog_1_method_14_code 26 = .ok (.aload_n 0, 1) := by decide +kernel
theorem dX5_strip_27 : decode prog_1_method_14_code 27 = .ok (.iload_n 1, 1) := by decide +kernel
theorem dX5_strip_28 : decode prog_1_method_14_code 28 = .ok (.aload_n 3, 1) := by decide +kernel
theorem dX5_strip_29 : decode prog_1_method_14_code 29 = .ok (.getfield 65, 3) := by decide +kernel
theorem dX5_strip_32 : decode prog_1_method_14_code 32 = .ok (.iconst 0, 1) := by decide +kernel
theorem dX5_strip_33 : decode prog_1_method_14_code 33 = .ok (.lconst 0, 1) := by decide +kernel
theorem dX5_strip_34 : decode prog_1_method_14_code 34 = .ok (.invokevirtual 57, 3) := by decide +kernel
theorem dX5_strip_37 : decode prog_1_method_14_code 37 = .ok (.ireturn, 1) := by decide +kernel
theorem dX5_strip_38 : decode prog_1_method_14_code 38 = .ok (.aload_n 3, 1) := by decide +kernel
theorem dX5_strip_39 : decode prog_1_method_14_code 39 = .ok (.getfield 65, 3) := by decide +kernel
theorem dX5_strip_42 : decode prog_1_method_14_code 42 = .ok (.invokevirtual 170, 3) := by decide +kernel
theorem dX5_strip_45 : decode prog_1_method_14_code 45 = .ok (.istore 4, 2) := by decide +kernel
theorem dX5_strip_47 : decode prog_1_method_14_code 47 = .ok (.aload_n 0, 1) := by decide +kernel
theorem dX5_strip_48 : decode prog_1_method_14_code 48 = .ok (.getfield 18, 3) := by decide +kernel
theorem dX5_strip_51 : decode prog_1_method_14_code 51 = .ok (.aload_n 3, 1) := by decide +kernel
theorem dX5_strip_52 : decode prog_1_method_14_code 52 = .ok (.getfield 65, 3) := by decide +kernel
theorem dX5_strip_55 : decode prog_1_method_14_code 55 = .ok (.invokevirtual 140, 3) := by decide +kernel
theorem dX5_strip_58 : decode prog_1_method_14_code 58 = .ok (.aload_n 0, 1) := by decide +kernel
theorem dX5_strip_59 : decode prog_1_method_14_code 59 = .ok (.getfield 18, 3) := by decide +kernel
theorem dX5_strip_62 : decode prog_1_method_14_code 62 = .ok (.iload 4, 2) := by decide +kernel
theorem dX5_strip_64 : decode prog_1_method_14_code 64 = .ok (.invokevirtual 173, 3) := by decide +kernel
theorem dX5_strip_67 : decode prog_1_method_14_code 67 = .ok (.aload_n 0, 1) := by decide +kernel
theorem dX5_strip_68 : decode prog_1_method_14_code 68 = .ok (.iload_n 1, 1) := by decide +kernel
theorem dX5_strip_69 : decode prog_1_method_14_code 69 = .ok (.aload_n 0, 1) := by decide +kernel
theorem dX5_strip_70 : decode prog_1_method_14_code 70 = .ok (.getfield 18, 3) := by decide +kernel
theorem dX5_strip_73 : decode prog_1_method_14_code 73 = .ok (.aload_n 3, 1) := by decide +kernel
theorem dX5_strip_74 : decode prog_1_method_14_code 74 = .ok (.getfield 68, 3) := by decide +kernel
theorem dX5_strip_77 : decode prog_1_method_14_code 77 = .ok (.aload_n 3, 1) := by decide +kernel
theorem dX5_strip_78 : decode prog_1_method_14_code 78 = .ok (.getfield 72, 3) := by decide +kernel
theorem dX5_strip_81 : decode prog_1_method_14_code 81 = .ok (.i2l, 1) := by decide +kernel
