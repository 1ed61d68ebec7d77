theorem dX12_next_147 : decode cX12_next 147 = .ok (.aload_n 0, 1) := by decide +kernel
theorem dX12_next_148 : decode cX12_next 148 = .ok (.getfield 123, 3) := by decide +kernel
theorem dX12_next_151 : decode cX12_next 151 = .ok (.invokevirtual 129, 3) := by decide +kernel
theorem dX12_next_154 : decode cX12_next 154 = .ok (.i2l, 1) := by decide +kernel
theorem dX12_next_155 : decode cX12_next 155 = .ok (.ladd, 1) := by decide +kernel
theorem dX12_next_156 : decode cX12_next 156 = .ok (.ldc2_w 143, 3) := by decide +kernel
theorem dX12_next_159 : decode cX12_next 159 = .ok (.lsub, 1) := by decide +kernel
theorem dX12_next_160 : decode cX12_next 160 = .ok (.goto 6, 3) := by decide +kernel
theorem dX12_next_163 : decode cX12_next 163 = .ok (.ldc2_w 112, 3) := by decide +kernel
theorem dX12_next_166 : decode cX12_next 166 = .ok (.putfield 138, 3) := by decide +kernel
theorem dX12_next_169 : decode cX12_next 169 = .ok (.aload_n 0, 1) := by decide +kernel
theorem dX12_next_170 : decode cX12_next 170 = .ok (.dup, 1) := by decide +kernel
theorem dX12_next_171 : decode cX12_next 171 = .ok (.getfield 123, 3) := by decide +kernel
theorem dX12_next_174 : decode cX12_next 174 = .ok (.iconst 1, 1) := by decide +kernel
theorem dX12_next_175 : decode cX12_next 175 = .ok (.iadd, 1) := by decide +kernel
theorem dX12_next_176 : decode cX12_next 176 = .ok (.putfield 123, 3) := by decide +kernel
theorem dX12_next_179 : decode cX12_next 179 = .ok (.goto (-70), 3) := by decide +kernel
theorem dX12_next_182 : decode cX12_next 182 = .ok (.aload_n 0, 1) := by decide +kernel
theorem dX12_next_183 : decode cX12_next 183 = .ok (.aload_n 0, 1) := by decide +kernel
theorem dX12_next_184 : decode cX12_next 184 = .ok (.getfield 123, 3) := by decide +kernel
theorem dX12_next_187 : decode cX12_next 187 = .ok (.aload_n 0, 1) := by decide +kernel
theorem dX12_next_188 : decode cX12_next 188 = .ok (.getfield 126, 3) := by decide +kernel
theorem dX12_next_191 : decode cX12_next 191 = .ok (.isub, 1) := by decide +kernel
theorem dX12_next_192 : decode cX12_next 192 = .ok (.putfield 145, 3) := by decide +kernel
theorem dX12_next_195 : decode cX12_next 195 = .ok (.goto 135, 3) := by decide +kernel
theorem dX12_next_198 : decode cX12_next 198 = .ok (.iload_n 1, 1) := by decide +kernel
theorem dX12_next_199 : decode cX12_next 199 = .ok (.invokestatic 148, 3) := by decide +kernel
theorem dX12_next_202 : decode cX12_next 202 = .ok (.ifCond .eq 96, 3) := by decide +kernel
theorem dX12_next_205 : decode cX12_next 205 = .ok (.aload_n 0, 1) := by decide +kernel
theorem dX12_next_206 : decode cX12_next 206 = .ok (.iconst 0, 1) := by decide +kernel
theorem dX12_next_207 : decode cX12_next 207 = .ok (.putfield 151, 3) := by decide +kernel
theorem dX12_next_210 : decode cX12_next 210 = .ok (.aload_n 0, 1) := by decide +kernel
theorem dX12_next_211 : decode cX12_next 211 = .ok (.aload_n 0, 1) := by decide +kernel
theorem dX12_next_212 : decode cX12_next 212 = .ok (.getfield 123, 3) := by decide +kernel
theorem dX12_next_215 : decode cX12_next 215 = .ok (.invokevirtual 129, 3) := by decide +kernel
theorem dX12_next_218 : decode cX12_next 218 = .ok (.invokestatic 148, 3) := by decide +kernel
theorem dX12_next_221 : decode cX12_next 221 = .ok (.ifCond .eq 52, 3) := by decide +kernel
theorem dX12_next_224 : decode cX12_next 224 = .ok (.aload_n 0, 1) := by decide +kernel
theorem dX12_next_225 : decode cX12_next 225 = .ok (.getfield 123, 3) := by decide +kernel
theorem dX12_next_228 : decode cX12_next 228 = .ok (.aload_n 0, 1) := by decide +kernel
theorem dX12_next_229 : decode cX12_next 229 = .ok (.getfield 126, 3) := by decide +kernel
theorem dX12_next_232 : decode cX12_next 232 = .ok (.isub, 1) := by decide +kernel
theorem dX12_next_233 : decode cX12_next 233 = .ok (.iconst 4, 1) := by decide +kernel
theorem dX12_next_234 : decode cX12_next 234 = .ok (.if_icmp .ge 26, 3) := by decide +kernel
theorem dX12_next_237 : decode cX12_next 237 = .ok (.aload_n 0, 1) := by decide +kernel
theorem dX12_next_238 : decode cX12_next 238 = .ok (.bipush 10, 2) := by decide +kernel
theorem dX12_next_240 : decode cX12_next 240 = .ok (.aload_n 0, 1) := by decide +kernel
theorem dX12_next_241 : decode cX12_next 241 = .ok (.getfield 151, 3) := by decide +kernel
theorem dX12_next_244 : decode cX12_next 244 = .ok (.imul, 1) := by decide +kernel
theorem dX12_next_245 : decode cX12_next 245 = .ok (.aload_n 0, 1) := by decide +kernel
theorem dX12_next_246 : decode cX12_next 246 = .ok (.aload_n 0, 1) := by decide +kernel
theorem dX12_next_247 : decode cX12_next 247 = .ok (.getfield 123, 3) := by decide +kernel
theorem dX12_next_250 : decode cX12_next 250 = .ok (.invokevirtual 129, 3) := by decide +kernel
theorem dX12_next_253 : decode cX12_next 253 = .ok (.iadd, 1) := by decide +kernel
theorem dX12_next_254 : decode cX12_next 254 = .ok (.bipush 48, 2) := by decide +kernel
theorem dX12_next_256 : decode cX12_next 256 = .ok (.isub, 1) := by decide +kernel
theorem dX12_next_257 : decode cX12_next 257 = .ok (.putfield 151, 3) := by decide +kernel
theorem dX12_next_260 : decode cX12_next 260 = .ok (.aload_n 0, 1) := by decide +kernel
theorem dX12_next_261 : decode cX12_next 261 = .ok (.dup, 1) := by decide +kernel
theorem dX12_next_262 : decode cX12_next 262 = .ok (.getfield 123, 3) := by decide +kernel
theorem dX12_next_265 : decode cX12_next 265 = .ok (.iconst 1, 1) := by decide +kernel
theorem dX12_next_266 : decode cX12_next 266 = .ok (.iadd, 1) := by decide +kernel
theorem dX12_next_267 : decode cX12_next 267 = .ok (.putfield 123, 3) := by decide +kernel
theorem dX12_next_270 : decode cX12_next 270 = .ok (.goto (-60), 3) := by decide +kernel
theorem dX12_next_273 : decode cX12_next 273 = .ok (.aload_n 0, 1) := by decide +kernel
theorem dX12_next_274 : decode cX12_next 274 = .ok (.aload_n 0, 1) := by decide +kernel
theorem dX12_next_275 : decode cX12_next 275 = .ok (.getfield 123, 3) := by decide +kernel
theorem dX12_next_278 : decode cX12_next 278 = .ok (.aload_n 0, 1) := by decide +kernel
theorem dX12_next_279 : decode cX12_next 279 = .ok (.getfield 126, 3) := by decide +kernel
theorem dX12_next_282 : decode cX12_next 282 = .ok (.isub, 1) := by decide +kernel
theorem dX12_next_283 : decode cX12_next 283 = .ok (.iconst 4, 1) := by decide +kernel
theorem dX12_next_284 : decode cX12_next 284 = .ok (.if_icmp .le 7, 3) := by decide +kernel
theorem dX12_next_287 : decode cX12_next 287 = .ok (.iconst 4, 1) := by decide +kernel
theorem dX12_next_288 : decode cX12_next 288 = .ok (.goto 4, 3) := by decide +kernel
theorem dX12_next_291 : decode cX12_next 291 = .ok (.iconst 2, 1) := by decide +kernel
theorem dX12_next_292 : decode cX12_next 292 = .ok (.putfield 132, 3) := by decide +kernel
theorem dX12_next_295 : decode cX12_next 295 = .ok (.goto 35, 3) := by decide +kernel
theorem dX12_next_298 : decode cX12_next 298 = .ok (.aload_n 0, 1) := by decide +kernel
theorem dX12_next_299 : decode cX12_next 299 = .ok (.aload_n 0, 1) := by decide +kernel
theorem dX12_next_300 : decode cX12_next 300 = .ok (.getfield 126, 3) := by decide +kernel
theorem dX12_next_303 : decode cX12_next 303 = .ok (.iconst 1, 1) := by decide +kernel
theorem dX12_next_304 : decode cX12_next 304 = .ok (.iadd, 1) := by decide +kernel
theorem dX12_next_305 : decode cX12_next 305 = .ok (.putfield 123, 3) := by decide +kernel
theorem dX12_next_308 : decode cX12_next 308 = .ok (.aload_n 0, 1) := by decide +kernel
theorem dX12_next_309 : decode cX12_next 309 = .ok (.iload_n 1, 1) := by decide +kernel
theorem dX12_next_310 : decode cX12_next 310 = .ok (.putfield 151, 3) := by decide +kernel
theorem dX12_next_313 : decode cX12_next 313 = .ok (.aload_n 0, 1) := by decide +kernel
theorem dX12_next_314 : decode cX12_next 314 = .ok (.aload_n 0, 1) := by decide +kernel
theorem dX12_next_315 : decode cX12_next 315 = .ok (.iload_n 1, 1) := by decide +kernel
theorem dX12_next_316 : decode cX12_next 316 = .ok (.invokevirtual 154, 3) := by decide +kernel
theorem dX12_next_319 : decode cX12_next 319 = .ok (.ifCond .eq 7, 3) := by decide +kernel
theorem dX12_next_322 : decode cX12_next 322 = .ok (.iconst 3, 1) := by decide +kernel
theorem dX12_next_323 : decode cX12_next 323 = .ok (.goto 4, 3) := by decide +kernel
theorem dX12_next_326 : decode cX12_next 326 = .ok (.iconst 4, 1) := by decide +kernel
theorem dX12_next_327 : decode cX12_next 327 = .ok (.putfield 132, 3) := by decide +kernel
theorem dX12_next_330 : decode cX12_next 330 = .ok (.return_, 1) := by decide +kernel
theorem dX12_isSign_0 : decode cX12_isSign 0 = .ok (.aload_n 0, 1) := by decide +kernel
theorem dX12_isSign_1 : decode cX12_isSign 1 = .ok (.getfield 132, 3) := by decide +kernel
theorem dX12_isSign_4 : decode cX12_isSign 4 = .ok (.iconst 3, 1) := by decide +kernel
theorem dX12_isSign_5 : decode cX12_isSign 5 = .ok (.if_icmp .ne 15, 3) := by decide +kernel
theorem dX12_isSign_8 : decode cX12_isSign 8 = .ok (.aload_n 0, 1) := by decide +kernel
theorem dX12_isSign_9 : decode cX12_isSign 9 = .ok (.getfield 151, 3) := by decide +kernel
theorem dX12_isSign_12 : decode cX12_isSign 12 = .ok (.iload_n 1, 1) := by decide +kernel
theorem dX12_isSign_13 : decode cX12_isSign 13 = .ok (.if_icmp .ne 7, 3) := by decide +kernel
theorem dX12_isSign_16 : decode cX12_isSign 16 = .ok (.iconst 1, 1) := by decide +kernel
theorem dX12_isSign_17 : decode cX12_isSign 17 = .ok (.goto 4, 3) := by decide +kernel
theorem dX12_isSign_20 : decode cX12_isSign 20 = .ok (.iconst 0, 1) := by decide +kernel
theorem dX12_isSign_21 : decode cX12_isSign 21 = .ok (.ireturn, 1) := by decide +kernel
theorem dX12_spelled_0 : decode cX12_spelled 0 = .ok (.iload_n 0, 1) := by decide +kernel
theorem dX12_spelled_1 : decode cX12_spelled 1 = .ok (.i2l, 1) := by decide +kernel
theorem dX12_spelled_2 : decode cX12_spelled 2 = .ok (.ldc2_w 143, 3) := by decide +kernel
theorem dX12_spelled_5 : decode cX12_spelled 5 = .ok (.lsub, 1) := by decide +kernel
theorem dX12_spelled_6 : decode cX12_spelled 6 = .ok (.lstore 6, 2) := by decide +kernel
theorem dX12_spelled_8 : decode cX12_spelled 8 = .ok (.iload_n 1, 1) := by decide +kernel
theorem dX12_spelled_9 : decode cX12_spelled 9 = .ok (.ifCond .le 19, 3) := by decide +kernel
theorem dX12_spelled_12 : decode cX12_spelled 12 = .ok (.lload 6, 2) := by decide +kernel
theorem dX12_spelled_14 : decode cX12_spelled 14 = .ok (.ldc2_w 141, 3) := by decide +kernel
theorem dX12_spelled_17 : decode cX12_spelled 17 = .ok (.lmul, 1) := by decide +kernel
theorem dX12_spelled_18 : decode cX12_spelled 18 = .ok (.iload_n 1, 1) := by decide +kernel
theorem dX12_spelled_19 : decode cX12_spelled 19 = .ok (.i2l, 1) := by decide +kernel
theorem dX12_spelled_20 : decode cX12_spelled 20 = .ok (.ladd, 1) := by decide +kernel
theorem dX12_spelled_21 : decode cX12_spelled 21 = .ok (.ldc2_w 143, 3) := by decide +kernel
theorem dX12_spelled_24 : decode cX12_spelled 24 = .ok (.lsub, 1) := by decide +kernel
theorem dX12_spelled_25 : decode cX12_spelled 25 = .ok (.goto 5, 3) := by decide +kernel
theorem dX12_spelled_28 : decode cX12_spelled 28 = .ok (.lload 6, 2) := by decide +kernel
theorem dX12_spelled_30 : decode cX12_spelled 30 = .ok (.lstore 6, 2) := by decide +kernel
theorem dX12_spelled_32 : decode cX12_spelled 32 = .ok (.iload_n 2, 1) := by decide +kernel
theorem dX12_spelled_33 : decode cX12_spelled 33 = .ok (.ifCond .le 19, 3) := by decide +kernel
theorem dX12_spelled_36 : decode cX12_spelled 36 = .ok (.lload 6, 2) := by decide +kernel
theorem dX12_spelled_38 : decode cX12_spelled 38 = .ok (.ldc2_w 141, 3) := by decide +kernel
theorem dX12_spelled_41 : decode cX12_spelled 41 = .ok (.lmul, 1) := by decide +kernel
theorem dX12_spelled_42 : decode cX12_spelled 42 = .ok (.iload_n 2, 1) := by decide +kernel
theorem dX12_spelled_43 : decode cX12_spelled 43 = .ok (.i2l, 1) := by decide +kernel
theorem dX12_spelled_44 : decode cX12_spelled 44 = .ok (.ladd, 1) := by decide +kernel
theorem dX12_spelled_45 : decode cX12_spelled 45 = .ok (.ldc2_w 143, 3) := by decide +kernel
theorem dX12_spelled_48 : decode cX12_spelled 48 = .ok (.lsub, 1) := by decide +kernel
theorem dX12_spelled_49 : decode cX12_spelled 49 = .ok (.goto 5, 3) := by decide +kernel
theorem dX12_spelled_52 : decode cX12_spelled 52 = .ok (.lload 6, 2) := by decide +kernel
theorem dX12_spelled_54 : decode cX12_spelled 54 = .ok (.lstore 6, 2) := by decide +kernel
theorem dX12_spelled_56 : decode cX12_spelled 56 = .ok (.iload_n 3, 1) := by decide +kernel
theorem dX12_spelled_57 : decode cX12_spelled 57 = .ok (.ifCond .le 19, 3) := by decide +kernel
theorem dX12_spelled_60 : decode cX12_spelled 60 = .ok (.lload 6, 2) := by decide +kernel
theorem dX12_spelled_62 : decode cX12_spelled 62 = .ok (.ldc2_w 141, 3) := by decide +kernel
theorem dX12_spelled_65 : decode cX12_spelled 65 = .ok (.lmul, 1) := by decide +kernel
theorem dX12_spelled_66 : decode cX12_spelled 66 = .ok (.iload_n 3, 1) := by decide +kernel
theorem dX12_spelled_67 : decode cX12_spelled 67 = .ok (.i2l, 1) := by decide +kernel
theorem dX12_spelled_68 : decode cX12_spelled 68 = .ok (.ladd, 1) := by decide +kernel
theorem dX12_spelled_69 : decode cX12_spelled 69 = .ok (.ldc2_w 143, 3) := by decide +kernel
theorem dX12_spelled_72 : decode cX12_spelled 72 = .ok (.lsub, 1) := by decide +kernel
theorem dX12_spelled_73 : decode cX12_spelled 73 = .ok (.goto 5, 3) := by decide +kernel
theorem dX12_spelled_76 : decode cX12_spelled 76 = .ok (.lload 6, 2) := by decide +kernel
theorem dX12_spelled_78 : decode cX12_spelled 78 = .ok (.lstore 6, 2) := by decide +kernel
theorem dX12_spelled_80 : decode cX12_spelled 80 = .ok (.iload 4, 2) := by decide +kernel
theorem dX12_spelled_82 : decode cX12_spelled 82 = .ok (.ifCond .le 20, 3) := by decide +kernel
theorem dX12_spelled_85 : decode cX12_spelled 85 = .ok (.lload 6, 2) := by decide +kernel
theorem dX12_spelled_87 : decode cX12_spelled 87 = .ok (.ldc2_w 141, 3) := by decide +kernel
theorem dX12_spelled_90 : decode cX12_spelled 90 = .ok (.lmul, 1) := by decide +kernel
theorem dX12_spelled_91 : decode cX12_spelled 91 = .ok (.iload 4, 2) := by decide +kernel
theorem dX12_spelled_93 : decode cX12_spelled 93 = .ok (.i2l, 1) := by decide +kernel
theorem dX12_spelled_94 : decode cX12_spelled 94 = .ok (.ladd, 1) := by decide +kernel
theorem dX12_spelled_95 : decode cX12_spelled 95 = .ok (.ldc2_w 143, 3) := by decide +kernel
theorem dX12_spelled_98 : decode cX12_spelled 98 = .ok (.lsub, 1) := by decide +kernel
theorem dX12_spelled_99 : decode cX12_spelled 99 = .ok (.goto 5, 3) := by decide +kernel
theorem dX12_spelled_102 : decode cX12_spelled 102 = .ok (.lload 6, 2) := by decide +kernel
theorem dX12_spelled_104 : decode cX12_spelled 104 = .ok (.lstore 6, 2) := by decide +kernel
theorem dX12_spelled_106 : decode cX12_spelled 106 = .ok (.iload 5, 2) := by decide +kernel
theorem dX12_spelled_108 : decode cX12_spelled 108 = .ok (.ifCond .le 20, 3) := by decide +kernel
theorem dX12_spelled_111 : decode cX12_spelled 111 = .ok (.lload 6, 2) := by decide +kernel
theorem dX12_spelled_113 : decode cX12_spelled 113 = .ok (.ldc2_w 141, 3) := by decide +kernel
theorem dX12_spelled_116 : decode cX12_spelled 116 = .ok (.lmul, 1) := by decide +kernel
theorem dX12_spelled_117 : decode cX12_spelled 117 = .ok (.iload 5, 2) := by decide +kernel
theorem dX12_spelled_119 : decode cX12_spelled 119 = .ok (.i2l, 1) := by decide +kernel
theorem dX12_spelled_120 : decode cX12_spelled 120 = .ok (.ladd, 1) := by decide +kernel
theorem dX12_spelled_121 : decode cX12_spelled 121 = .ok (.ldc2_w 143, 3) := by decide +kernel
theorem dX12_spelled_124 : decode cX12_spelled 124 = .ok (.lsub, 1) := by decide +kernel
theorem dX12_spelled_125 : decode cX12_spelled 125 = .ok (.goto 5, 3) := by decide +kernel
theorem dX12_spelled_128 : decode cX12_spelled 128 = .ok (.lload 6, 2) := by decide +kernel
theorem dX12_spelled_130 : decode cX12_spelled 130 = .ok (.lreturn, 1) := by decide +kernel
theorem dX12_isWord_0 : decode cX12_isWord 0 = .ok (.aload_n 0, 1) := by decide +kernel
theorem dX12_isWord_1 : decode cX12_isWord 1 = .ok (.getfield 132, 3) := by decide +kernel
theorem dX12_isWord_4 : decode cX12_isWord 4 = .ok (.iconst 1, 1) := by decide +kernel
theorem dX12_isWord_5 : decode cX12_isWord 5 = .ok (.if_icmp .ne 16, 3) := by decide +kernel
theorem dX12_isWord_8 : decode cX12_isWord 8 = .ok (.aload_n 0, 1) := by decide +kernel
theorem dX12_isWord_9 : decode cX12_isWord 9 = .ok (.getfield 138, 3) := by decide +kernel
theorem dX12_isWord_12 : decode cX12_isWord 12 = .ok (.lload_n 1, 1) := by decide +kernel
theorem dX12_isWord_13 : decode cX12_isWord 13 = .ok (.lcmp, 1) := by decide +kernel
theorem dX12_isWord_14 : decode cX12_isWord 14 = .ok (.ifCond .ne 7, 3) := by decide +kernel
theorem dX12_isWord_17 : decode cX12_isWord 17 = .ok (.iconst 1, 1) := by decide +kernel
theorem dX12_isWord_18 : decode cX12_isWord 18 = .ok (.goto 4, 3) := by decide +kernel
theorem dX12_isWord_21 : decode cX12_isWord 21 = .ok (.iconst 0, 1) := by decide +kernel
theorem dX12_isWord_22 : decode cX12_isWord 22 = .ok (.ireturn, 1) := by decide +kernel
theorem dX12_sideWord_0 : decode cX12_sideWord 0 = .ok (.aload_n 0, 1) := by decide +kernel
theorem dX12_sideWord_1 : decode cX12_sideWord 1 = .ok (.bipush 110, 2) := by decide +kernel
theorem dX12_sideWord_3 : decode cX12_sideWord 3 = .ok (.iconst 0, 1) := by decide +kernel
theorem dX12_sideWord_4 : decode cX12_sideWord 4 = .ok (.iconst 0, 1) := by decide +kernel
theorem dX12_sideWord_5 : decode cX12_sideWord 5 = .ok (.iconst 0, 1) := by decide +kernel
theorem dX12_sideWord_6 : decode cX12_sideWord 6 = .ok (.iconst 0, 1) := by decide +kernel
theorem dX12_sideWord_7 : decode cX12_sideWord 7 = .ok (.iconst 0, 1) := by decide +kernel
theorem dX12_sideWord_8 : decode cX12_sideWord 8 = .ok (.invokestatic 157, 3) := by decide +kernel
theorem dX12_sideWord_11 : decode cX12_sideWord 11 = .ok (.invokevirtual 161, 3) := by decide +kernel
theorem dX12_sideWord_14 : decode cX12_sideWord 14 = .ok (.ifCond .eq 5, 3) := by decide +kernel
theorem dX12_sideWord_17 : decode cX12_sideWord 17 = .ok (.iconst 0, 1) := by decide +kernel
theorem dX12_sideWord_18 : decode cX12_sideWord 18 = .ok (.ireturn, 1) := by decide +kernel
theorem dX12_sideWord_19 : decode cX12_sideWord 19 = .ok (.aload_n 0, 1) := by decide +kernel
theorem dX12_sideWord_20 : decode cX12_sideWord 20 = .ok (.bipush 110, 2) := by decide +kernel
theorem dX12_sideWord_22 : decode cX12_sideWord 22 = .ok (.bipush 101, 2) := by decide +kernel
theorem dX12_sideWord_24 : decode cX12_sideWord 24 = .ok (.iconst 0, 1) := by decide +kernel
theorem dX12_sideWord_25 : decode cX12_sideWord 25 = .ok (.iconst 0, 1) := by decide +kernel
theorem dX12_sideWord_26 : decode cX12_sideWord 26 = .ok (.iconst 0, 1) := by decide +kernel
theorem dX12_sideWord_27 : decode cX12_sideWord 27 = .ok (.iconst 0, 1) := by decide +kernel
theorem dX12_sideWord_28 : decode cX12_sideWord 28 = .ok (.invokestatic 157, 3) := by decide +kernel
theorem dX12_sideWord_31 : decode cX12_sideWord 31 = .ok (.invokevirtual 161, 3) := by decide +kernel
theorem dX12_sideWord_34 : decode cX12_sideWord 34 = .ok (.ifCond .eq 5, 3) := by decide +kernel
theorem dX12_sideWord_37 : decode cX12_sideWord 37 = .ok (.iconst 1, 1) := by decide +kernel
theorem dX12_sideWord_38 : decode cX12_sideWord 38 = .ok (.ireturn, 1) := by decide +kernel
theorem dX12_sideWord_39 : decode cX12_sideWord 39 = .ok (.aload_n 0, 1) := by decide +kernel
theorem dX12_sideWord_40 : decode cX12_sideWord 40 = .ok (.bipush 101, 2) := by decide +kernel
theorem dX12_sideWord_42 : decode cX12_sideWord 42 = .ok (.iconst 0, 1) := by decide +kernel
theorem dX12_sideWord_43 : decode cX12_sideWord 43 = .ok (.iconst 0, 1) := by decide +kernel
theorem dX12_sideWord_44 : decode cX12_sideWord 44 = .ok (.iconst 0, 1) := by decide +kernel
theorem dX12_sideWord_45 : decode cX12_sideWord 45 = .ok (.iconst 0, 1) := by decide +kernel
theorem dX12_sideWord_46 : decode cX12_sideWord 46 = .ok (.iconst 0, 1) := by decide +kernel
theorem dX12_sideWord_47 : decode cX12_sideWord 47 = .ok (.invokestatic 157, 3) := by decide +kernel
theorem dX12_sideWord_50 : decode cX12_sideWord 50 = .ok (.invokevirtual 161, 3) := by decide +kernel
theorem dX12_sideWord_53 : decode cX12_sideWord 53 = .ok (.ifCond .eq 5, 3) := by decide +kernel
theorem dX12_sideWord_56 : decode cX12_sideWord 56 = .ok (.iconst 2, 1) := by decide +kernel
theorem dX12_sideWord_57 : decode cX12_sideWord 57 = .ok (.ireturn, 1) := by decide +kernel
theorem dX12_sideWord_58 : decode cX12_sideWord 58 = .ok (.aload_n 0, 1) := by decide +kernel
theorem dX12_sideWord_59 : decode cX12_sideWord 59 = .ok (.bipush 115, 2) := by decide +kernel
theorem dX12_sideWord_61 : decode cX12_sideWord 61 = .ok (.bipush 101, 2) := by decide +kernel
theorem dX12_sideWord_63 : decode cX12_sideWord 63 = .ok (.iconst 0, 1) := by decide +kernel
theorem dX12_sideWord_64 : decode cX12_sideWord 64 = .ok (.iconst 0, 1) := by decide +kernel
theorem dX12_sideWord_65 : decode cX12_sideWord 65 = .ok (.iconst 0, 1) := by decide +kernel
theorem dX12_sideWord_66 : decode cX12_sideWord 66 = .ok (.iconst 0, 1) := by decide +kernel
theorem dX12_sideWord_67 : decode cX12_sideWord 67 = .ok (.invokestatic 157, 3) := by decide +kernel
theorem dX12_sideWord_70 : decode cX12_sideWord 70 = .ok (.invokevirtual 161, 3) := by decide +kernel
theorem dX12_sideWord_73 : decode cX12_sideWord 73 = .ok (.ifCond .eq 5, 3) := by decide +kernel
theorem dX12_sideWord_76 : decode cX12_sideWord 76 = .ok (.iconst 3, 1) := by decide +kernel
theorem dX12_sideWord_77 : decode cX12_sideWord 77 = .ok (.ireturn, 1) := by decide +kernel
theorem dX12_sideWord_78 : decode cX12_sideWord 78 = .ok (.aload_n 0, 1) := by decide +kernel
theorem dX12_sideWord_79 : decode cX12_sideWord 79 = .ok (.bipush 115, 2) := by decide +kernel
theorem dX12_sideWord_81 : decode cX12_sideWord 81 = .ok (.iconst 0, 1) := by decide +kernel
theorem dX12_sideWord_82 : decode cX12_sideWord 82 = .ok (.iconst 0, 1) := by decide +kernel
theorem dX12_sideWord_83 : decode cX12_sideWord 83 = .ok (.iconst 0, 1) := by decide +kernel
theorem dX12_sideWord_84 : decode cX12_sideWord 84 = .ok (.iconst 0, 1) := by decide +kernel
theorem dX12_sideWord_85 : decode cX12_sideWord 85 = .ok (.iconst 0, 1) := by decide +kernel
theorem dX12_sideWord_86 : decode cX12_sideWord 86 = .ok (.invokestatic 157, 3) := by decide +kernel
theorem dX12_sideWord_89 : decode cX12_sideWord 89 = .ok (.invokevirtual 161, 3) := by decide +kernel
theorem dX12_sideWord_92 : decode cX12_sideWord 92 = .ok (.ifCond .eq 5, 3) := by decide +kernel
theorem dX12_sideWord_95 : decode cX12_sideWord 95 = .ok (.iconst 4, 1) := by decide +kernel
theorem dX12_sideWord_96 : decode cX12_sideWord 96 = .ok (.ireturn, 1) := by decide +kernel
theorem dX12_sideWord_97 : decode cX12_sideWord 97 = .ok (.aload_n 0, 1) := by decide +kernel
theorem dX12_sideWord_98 : decode cX12_sideWord 98 = .ok (.bipush 115, 2) := by decide +kernel
theorem dX12_sideWord_100 : decode cX12_sideWord 100 = .ok (.bipush 119, 2) := by decide +kernel
theorem dX12_sideWord_102 : decode cX12_sideWord 102 = .ok (.iconst 0, 1) := by decide +kernel
theorem dX12_sideWord_103 : decode cX12_sideWord 103 = .ok (.iconst 0, 1) := by decide +kernel
theorem dX12_sideWord_104 : decode cX12_sideWord 104 = .ok (.iconst 0, 1) := by decide +kernel
theorem dX12_sideWord_105 : decode cX12_sideWord 105 = .ok (.iconst 0, 1) := by decide +kernel
theorem dX12_sideWord_106 : decode cX12_sideWord 106 = .ok (.invokestatic 157, 3) := by decide +kernel
theorem dX12_sideWord_109 : decode cX12_sideWord 109 = .ok (.invokevirtual 161, 3) := by decide +kernel
theorem dX12_sideWord_112 : decode cX12_sideWord 112 = .ok (.ifCond .eq 5, 3) := by decide +kernel
theorem dX12_sideWord_115 : decode cX12_sideWord 115 = .ok (.iconst 5, 1) := by decide +kernel
theorem dX12_sideWord_116 : decode cX12_sideWord 116 = .ok (.ireturn, 1) := by decide +kernel
theorem dX12_sideWord_117 : decode cX12_sideWord 117 = .ok (.aload_n 0, 1) := by decide +kernel
theorem dX12_sideWord_118 : decode cX12_sideWord 118 = .ok (.bipush 119, 2) := by decide +kernel
theorem dX12_sideWord_120 : decode cX12_sideWord 120 = .ok (.iconst 0, 1) := by decide +kernel
theorem dX12_sideWord_121 : decode cX12_sideWord 121 = .ok (.iconst 0, 1) := by decide +kernel
theorem dX12_sideWord_122 : decode cX12_sideWord 122 = .ok (.iconst 0, 1) := by decide +kernel
theorem dX12_sideWord_123 : decode cX12_sideWord 123 = .ok (.iconst 0, 1) := by decide +kernel
theorem dX12_sideWord_124 : decode cX12_sideWord 124 = .ok (.iconst 0, 1) := by decide +kernel
theorem dX12_sideWord_125 : decode cX12_sideWord 125 = .ok (.invokestatic 157, 3) := by decide +kernel
theorem dX12_sideWord_128 : decode cX12_sideWord 128 = .ok (.invokevirtual 161, 3) := by decide +kernel
theorem dX12_sideWord_131 : decode cX12_sideWord 131 = .ok (.ifCond .eq 6, 3) := by decide +kernel
theorem dX12_sideWord_134 : decode cX12_sideWord 134 = .ok (.bipush 6, 2) := by decide +kernel
theorem dX12_sideWord_136 : decode cX12_sideWord 136 = .ok (.ireturn, 1) := by decide +kernel
theorem dX12_sideWord_137 : decode cX12_sideWord 137 = .ok (.aload_n 0, 1) := by decide +kernel
theorem dX12_sideWord_138 : decode cX12_sideWord 138 = .ok (.bipush 110, 2) := by decide +kernel
theorem dX12_sideWord_140 : decode cX12_sideWord 140 = .ok (.bipush 119, 2) := by decide +kernel
theorem dX12_sideWord_142 : decode cX12_sideWord 142 = .ok (.iconst 0, 1) := by decide +kernel
theorem dX12_sideWord_143 : decode cX12_sideWord 143 = .ok (.iconst 0, 1) := by decide +kernel
theorem dX12_sideWord_144 : decode cX12_sideWord 144 = .ok (.iconst 0, 1) := by decide +kernel
theorem dX12_sideWord_145 : decode cX12_sideWord 145 = .ok (.iconst 0, 1) := by decide +kernel
theorem dX12_sideWord_146 : decode cX12_sideWord 146 = .ok (.invokestatic 157, 3) := by decide +kernel
theorem dX12_sideWord_149 : decode cX12_sideWord 149 = .ok (.invokevirtual 161, 3) := by decide +kernel
theorem dX12_sideWord_152 : decode cX12_sideWord 152 = .ok (.ifCond .eq 8, 3) := by decide +kernel
theorem dX12_sideWord_155 : decode cX12_sideWord 155 = .ok (.bipush 7, 2) := by decide +kernel
theorem dX12_sideWord_157 : decode cX12_sideWord 157 = .ok (.goto 4, 3) := by decide +kernel
theorem dX12_sideWord_160 : decode cX12_sideWord 160 = .ok (.iconst (-1), 1) := by decide +kernel
theorem dX12_sideWord_161 : decode cX12_sideWord 161 = .ok (.ireturn, 1) := by decide +kernel
theorem dX12_isSize_0 : decode cX12_isSize 0 = .ok (.aload_n 0, 1) := by decide +kernel
theorem dX12_isSize_1 : decode cX12_isSize 1 = .ok (.bipush 115, 2) := by decide +kernel
theorem dX12_isSize_3 : decode cX12_isSize 3 = .ok (.bipush 105, 2) := by decide +kernel
theorem dX12_isSize_5 : decode cX12_isSize 5 = .ok (.bipush 122, 2) := by decide +kernel
theorem dX12_isSize_7 : decode cX12_isSize 7 = .ok (.bipush 101, 2) := by decide +kernel
theorem dX12_isSize_9 : decode cX12_isSize 9 = .ok (.iconst 0, 1) := by decide +kernel
theorem dX12_isSize_10 : decode cX12_isSize 10 = .ok (.iconst 0, 1) := by decide +kernel
theorem dX12_isSize_11 : decode cX12_isSize 11 = .ok (.invokestatic 157, 3) := by decide +kernel
theorem dX12_isSize_14 : decode cX12_isSize 14 = .ok (.invokevirtual 161, 3) := by decide +kernel
theorem dX12_isSize_17 : decode cX12_isSize 17 = .ok (.ireturn, 1) := by decide +kernel
theorem dX12_isMost_0 : decode cX12_isMost 0 = .ok (.aload_n 0, 1) := by decide +kernel
theorem dX12_isMost_1 : decode cX12_isMost 1 = .ok (.bipush 109, 2) := by decide +kernel
theorem dX12_isMost_3 : decode cX12_isMost 3 = .ok (.bipush 111, 2) := by decide +kernel
theorem dX12_isMost_5 : decode cX12_isMost 5 = .ok (.bipush 115, 2) := by decide +kernel
theorem dX12_isMost_7 : decode cX12_isMost 7 = .ok (.bipush 116, 2) := by decide +kernel
theorem dX12_isMost_9 : decode cX12_isMost 9 = .ok (.iconst 0, 1) := by decide +kernel
theorem dX12_isMost_10 : decode cX12_isMost 10 = .ok (.iconst 0, 1) := by decide +kernel
theorem dX12_isMost_11 : decode cX12_isMost 11 = .ok (.invokestatic 157, 3) := by decide +kernel
theorem dX12_isMost_14 : decode cX12_isMost 14 = .ok (.invokevirtual 161, 3) := by decide +kernel
theorem dX12_isMost_17 : decode cX12_isMost 17 = .ok (.ireturn, 1) := by decide +kernel
theorem dX12_isLeast_0 : decode cX12_isLeast 0 = .ok (.aload_n 0, 1) := by decide +kernel
theorem dX12_isLeast_1 : decode cX12_isLeast 1 = .ok (.bipush 108, 2) := by decide +kernel
theorem dX12_isLeast_3 : decode cX12_isLeast 3 = .ok (.bipush 101, 2) := by decide +kernel
theorem dX12_isLeast_5 : decode cX12_isLeast 5 = .ok (.bipush 97, 2) := by decide +kernel
theorem dX12_isLeast_7 : decode cX12_isLeast 7 = .ok (.bipush 115, 2) := by decide +kernel
theorem dX12_isLeast_9 : decode cX12_isLeast 9 = .ok (.bipush 116, 2) := by decide +kernel
theorem dX12_isLeast_11 : decode cX12_isLeast 11 = .ok (.iconst 0, 1) := by decide +kernel
theorem dX12_isLeast_12 : decode cX12_isLeast 12 = .ok (.invokestatic 157, 3) := by decide +kernel
theorem dX12_isLeast_15 : decode cX12_isLeast 15 = .ok (.invokevirtual 161, 3) := by decide +kernel
theorem dX12_isLeast_18 : decode cX12_isLeast 18 = .ok (.ireturn, 1) := by decide +kernel
theorem dX12_isPrice_0 : decode cX12_isPrice 0 = .ok (.aload_n 0, 1) := by decide +kernel
theorem dX12_isPrice_1 : decode cX12_isPrice 1 = .ok (.bipush 112, 2) := by decide +kernel
theorem dX12_isPrice_3 : decode cX12_isPrice 3 = .ok (.bipush 114, 2) := by decide +kernel
theorem dX12_isPrice_5 : decode cX12_isPrice 5 = .ok (.bipush 105, 2) := by decide +kernel
theorem dX12_isPrice_7 : decode cX12_isPrice 7 = .ok (.bipush 99, 2) := by decide +kernel
theorem dX12_isPrice_9 : decode cX12_isPrice 9 = .ok (.bipush 101, 2) := by decide +kernel
theorem dX12_isPrice_11 : decode cX12_isPrice 11 = .ok (.iconst 0, 1) := by decide +kernel
theorem dX12_isPrice_12 : decode cX12_isPrice 12 = .ok (.invokestatic 157, 3) := by decide +kernel
theorem dX12_isPrice_15 : decode cX12_isPrice 15 = .ok (.invokevirtual 161, 3) := by decide +kernel
theorem dX12_isPrice_18 : decode cX12_isPrice 18 = .ok (.ireturn, 1) := by decide +kernel
theorem dX12_isVillageWord_0 : decode cX12_isVillageWord 0 = .ok (.aload_n 0, 1) := by decide +kernel
theorem dX12_isVillageWord_1 : decode cX12_isVillageWord 1 = .ok (.bipush 118, 2) := by decide +kernel
theorem dX12_isVillageWord_3 : decode cX12_isVillageWord 3 = .ok (.bipush 105, 2) := by decide +kernel
theorem dX12_isVillageWord_5 : decode cX12_isVillageWord 5 = .ok (.bipush 108, 2) := by decide +kernel
theorem dX12_isVillageWord_7 : decode cX12_isVillageWord 7 = .ok (.bipush 108, 2) := by decide +kernel
theorem dX12_isVillageWord_9 : decode cX12_isVillageWord 9 = .ok (.bipush 97, 2) := by decide +kernel
theorem dX12_isVillageWord_11 : decode cX12_isVillageWord 11 = .ok (.bipush 103, 2) := by decide +kernel
theorem dX12_isVillageWord_13 : decode cX12_isVillageWord 13 = .ok (.invokestatic 157, 3) := by decide +kernel
theorem dX12_isVillageWord_16 : decode cX12_isVillageWord 16 = .ok (.ldc2_w 141, 3) := by decide +kernel
theorem dX12_isVillageWord_19 : decode cX12_isVillageWord 19 = .ok (.lmul, 1) := by decide +kernel
theorem dX12_isVillageWord_20 : decode cX12_isVillageWord 20 = .ok (.ldc2_w 165, 3) := by decide +kernel
theorem dX12_isVillageWord_23 : decode cX12_isVillageWord 23 = .ok (.ladd, 1) := by decide +kernel
theorem dX12_isVillageWord_24 : decode cX12_isVillageWord 24 = .ok (.ldc2_w 143, 3) := by decide +kernel
theorem dX12_isVillageWord_27 : decode cX12_isVillageWord 27 = .ok (.lsub, 1) := by decide +kernel
theorem dX12_isVillageWord_28 : decode cX12_isVillageWord 28 = .ok (.invokevirtual 161, 3) := by decide +kernel
theorem dX12_isVillageWord_31 : decode cX12_isVillageWord 31 = .ok (.ireturn, 1) := by decide +kernel
theorem dX12_isSees_0 : decode cX12_isSees 0 = .ok (.aload_n 0, 1) := by decide +kernel
theorem dX12_isSees_1 : decode cX12_isSees 1 = .ok (.bipush 115, 2) := by decide +kernel
theorem dX12_isSees_3 : decode cX12_isSees 3 = .ok (.bipush 101, 2) := by decide +kernel
theorem dX12_isSees_5 : decode cX12_isSees 5 = .ok (.bipush 101, 2) := by decide +kernel
theorem dX12_isSees_7 : decode cX12_isSees 7 = .ok (.bipush 115, 2) := by decide +kernel
theorem dX12_isSees_9 : decode cX12_isSees 9 = .ok (.iconst 0, 1) := by decide +kernel
theorem dX12_isSees_10 : decode cX12_isSees 10 = .ok (.iconst 0, 1) := by decide +kernel
theorem dX12_isSees_11 : decode cX12_isSees 11 = .ok (.invokestatic 157, 3) := by decide +kernel
theorem dX12_isSees_14 : decode cX12_isSees 14 = .ok (.invokevirtual 161, 3) := by decide +kernel
theorem dX12_isSees_17 : decode cX12_isSees 17 = .ok (.ireturn, 1) := by decide +kernel
theorem dX12_isRaise_0 : decode cX12_isRaise 0 = .ok (.aload_n 0, 1) := by decide +kernel
theorem dX12_isRaise_1 : decode cX12_isRaise 1 = .ok (.bipush 114, 2) := by decide +kernel
theorem dX12_isRaise_3 : decode cX12_isRaise 3 = .ok (.bipush 97, 2) := by decide +kernel
theorem dX12_isRaise_5 : decode cX12_isRaise 5 = .ok (.bipush 105, 2) := by decide +kernel
theorem dX12_isRaise_7 : decode cX12_isRaise 7 = .ok (.bipush 115, 2) := by decide +kernel
theorem dX12_isRaise_9 : decode cX12_isRaise 9 = .ok (.bipush 101, 2) := by decide +kernel
theorem dX12_isRaise_11 : decode cX12_isRaise 11 = .ok (.iconst 0, 1) := by decide +kernel
theorem dX12_isRaise_12 : decode cX12_isRaise 12 = .ok (.invokestatic 157, 3) := by decide +kernel
theorem dX12_isRaise_15 : decode cX12_isRaise 15 = .ok (.invokevirtual 161, 3) := by decide +kernel
theorem dX12_isRaise_18 : decode cX12_isRaise 18 = .ok (.ireturn, 1) := by decide +kernel
theorem dX12_isLower_0 : decode cX12_isLower 0 = .ok (.aload_n 0, 1) := by decide +kernel
theorem dX12_isLower_1 : decode cX12_isLower 1 = .ok (.bipush 108, 2) := by decide +kernel
theorem dX12_isLower_3 : decode cX12_isLower 3 = .ok (.bipush 111, 2) := by decide +kernel
theorem dX12_isLower_5 : decode cX12_isLower 5 = .ok (.bipush 119, 2) := by decide +kernel
theorem dX12_isLower_7 : decode cX12_isLower 7 = .ok (.bipush 101, 2) := by decide +kernel
theorem dX12_isLower_9 : decode cX12_isLower 9 = .ok (.bipush 114, 2) := by decide +kernel
theorem dX12_isLower_11 : decode cX12_isLower 11 = .ok (.iconst 0, 1) := by decide +kernel
theorem dX12_isLower_12 : decode cX12_isLower 12 = .ok (.invokestatic 157, 3) := by decide +kernel
theorem dX12_isLower_15 : decode cX12_isLower 15 = .ok (.invokevirtual 161, 3) := by decide +kernel
theorem dX12_isLower_18 : decode cX12_isLower 18 = .ok (.ireturn, 1) := by decide +kernel
theorem dX12_isBy_0 : decode cX12_isBy 0 = .ok (.aload_n 0, 1) := by decide +kernel
theorem dX12_isBy_1 : decode cX12_isBy 1 = .ok (.bipush 98, 2) := by decide +kernel
theorem dX12_isBy_3 : decode cX12_isBy 3 = .ok (.bipush 121, 2) := by decide +kernel
theorem dX12_isBy_5 : decode cX12_isBy 5 = .ok (.iconst 0, 1) := by decide +kernel
theorem dX12_isBy_6 : decode cX12_isBy 6 = .ok (.iconst 0, 1) := by decide +kernel
theorem dX12_isBy_7 : decode cX12_isBy 7 = .ok (.iconst 0, 1) := by decide +kernel
theorem dX12_isBy_8 : decode cX12_isBy 8 = .ok (.iconst 0, 1) := by decide +kernel
theorem dX12_isBy_9 : decode cX12_isBy 9 = .ok (.invokestatic 157, 3) := by decide +kernel
theorem dX12_isBy_12 : decode cX12_isBy 12 = .ok (.invokevirtual 161, 3) := by decide +kernel
theorem dX12_isBy_15 : decode cX12_isBy 15 = .ok (.ireturn, 1) := by decide +kernel
theorem dX12_isStorm_0 : decode cX12_isStorm 0 = .ok (.aload_n 0, 1) := by decide +kernel
theorem dX12_isStorm_1 : decode cX12_isStorm 1 = .ok (.bipush 115, 2) := by decide +kernel
theorem dX12_isStorm_3 : decode cX12_isStorm 3 = .ok (.bipush 116, 2) := by decide +kernel
theorem dX12_isStorm_5 : decode cX12_isStorm 5 = .ok (.bipush 111, 2) := by decide +kernel
theorem dX12_isStorm_7 : decode cX12_isStorm 7 = .ok (.bipush 114, 2) := by decide +kernel
theorem dX12_isStorm_9 : decode cX12_isStorm 9 = .ok (.bipush 109, 2) := by decide +kernel
theorem dX12_isStorm_11 : decode cX12_isStorm 11 = .ok (.iconst 0, 1) := by decide +kernel
theorem dX12_isStorm_12 : decode cX12_isStorm 12 = .ok (.invokestatic 157, 3) := by decide +kernel
theorem dX12_isStorm_15 : decode cX12_isStorm 15 = .ok (.invokevirtual 161, 3) := by decide +kernel
theorem dX12_isStorm_18 : decode cX12_isStorm 18 = .ok (.ireturn, 1) := by decide +kernel
theorem dX12_isWhen_0 : decode cX12_isWhen 0 = .ok (.aload_n 0, 1) := by decide +kernel
theorem dX12_isWhen_1 : decode cX12_isWhen 1 = .ok (.bipush 119, 2) := by decide +kernel
theorem dX12_isWhen_3 : decode cX12_isWhen 3 = .ok (.bipush 104, 2) := by decide +kernel
theorem dX12_isWhen_5 : decode cX12_isWhen 5 = .ok (.bipush 101, 2) := by decide +kernel
theorem dX12_isWhen_7 : decode cX12_isWhen 7 = .ok (.bipush 110, 2) := by decide +kernel
theorem dX12_isWhen_9 : decode cX12_isWhen 9 = .ok (.iconst 0, 1) := by decide +kernel
theorem dX12_isWhen_10 : decode cX12_isWhen 10 = .ok (.iconst 0, 1) := by decide +kernel
theorem dX12_isWhen_11 : decode cX12_isWhen 11 = .ok (.invokestatic 157, 3) := by decide +kernel
theorem dX12_isWhen_14 : decode cX12_isWhen 14 = .ok (.invokevirtual 161, 3) := by decide +kernel
theorem dX12_isWhen_17 : decode cX12_isWhen 17 = .ok (.ireturn, 1) := by decide +kernel
theorem dX12_isCellWord_0 : decode cX12_isCellWord 0 = .ok (.aload_n 0, 1) := by decide +kernel
theorem dX12_isCellWord_1 : decode cX12_isCellWord 1 = .ok (.bipush 99, 2) := by decide +kernel
theorem dX12_isCellWord_3 : decode cX12_isCellWord 3 = .ok (.bipush 101, 2) := by decide +kernel
theorem dX12_isCellWord_5 : decode cX12_isCellWord 5 = .ok (.bipush 108, 2) := by decide +kernel
theorem dX12_isCellWord_7 : decode cX12_isCellWord 7 = .ok (.bipush 108, 2) := by decide +kernel
theorem dX12_isCellWord_9 : decode cX12_isCellWord 9 = .ok (.iconst 0, 1) := by decide +kernel
theorem dX12_isCellWord_10 : decode cX12_isCellWord 10 = .ok (.iconst 0, 1) := by decide +kernel
theorem dX12_isCellWord_11 : decode cX12_isCellWord 11 = .ok (.invokestatic 157, 3) := by decide +kernel
theorem dX12_isCellWord_14 : decode cX12_isCellWord 14 = .ok (.invokevirtual 161, 3) := by decide +kernel
theorem dX12_isCellWord_17 : decode cX12_isCellWord 17 = .ok (.ireturn, 1) := by decide +kernel
theorem dX12_isAt_0 : decode cX12_isAt 0 = .ok (.aload_n 0, 1) := by decide +kernel
theorem dX12_isAt_1 : decode cX12_isAt 1 = .ok (.bipush 97, 2) := by decide +kernel
theorem dX12_isAt_3 : decode cX12_isAt 3 = .ok (.bipush 116, 2) := by decide +kernel
theorem dX12_isAt_5 : decode cX12_isAt 5 = .ok (.iconst 0, 1) := by decide +kernel
theorem dX12_isAt_6 : decode cX12_isAt 6 = .ok (.iconst 0, 1) := by decide +kernel
theorem dX12_isAt_7 : decode cX12_isAt 7 = .ok (.iconst 0, 1) := by decide +kernel
theorem dX12_isAt_8 : decode cX12_isAt 8 = .ok (.iconst 0, 1) := by decide +kernel
theorem dX12_isAt_9 : decode cX12_isAt 9 = .ok (.invokestatic 157, 3) := by decide +kernel
theorem dX12_isAt_12 : decode cX12_isAt 12 = .ok (.invokevirtual 161, 3) := by decide +kernel
theorem dX12_isAt_15 : decode cX12_isAt 15 = .ok (.ireturn, 1) := by decide +kernel
theorem dX12_isSame_0 : decode cX12_isSame 0 = .ok (.aload_n 0, 1) := by decide +kernel
theorem dX12_isSame_1 : decode cX12_isSame 1 = .ok (.bipush 115, 2) := by decide +kernel
theorem dX12_isSame_3 : decode cX12_isSame 3 = .ok (.bipush 97, 2) := by decide +kernel
theorem dX12_isSame_5 : decode cX12_isSame 5 = .ok (.bipush 109, 2) := by decide +kernel
theorem dX12_isSame_7 : decode cX12_isSame 7 = .ok (.bipush 101, 2) := by decide +kernel
theorem dX12_isSame_9 : decode cX12_isSame 9 = .ok (.iconst 0, 1) := by decide +kernel
theorem dX12_isSame_10 : decode cX12_isSame 10 = .ok (.iconst 0, 1) := by decide +kernel
theorem dX12_isSame_11 : decode cX12_isSame 11 = .ok (.invokestatic 157, 3) := by decide +kernel
theorem dX12_isSame_14 : decode cX12_isSame 14 = .ok (.invokevirtual 161, 3) := by decide +kernel
theorem dX12_isSame_17 : decode cX12_isSame 17 = .ok (.ireturn, 1) := by decide +kernel
theorem dX12_isStone_0 : decode cX12_isStone 0 = .ok (.aload_n 0, 1) := by decide +kernel
theorem dX12_isStone_1 : decode cX12_isStone 1 = .ok (.bipush 115, 2) := by decide +kernel
theorem dX12_isStone_3 : decode cX12_isStone 3 = .ok (.bipush 116, 2) := by decide +kernel
theorem dX12_isStone_5 : decode cX12_isStone 5 = .ok (.bipush 111, 2) := by decide +kernel
theorem dX12_isStone_7 : decode cX12_isStone 7 = .ok (.bipush 110, 2) := by decide +kernel
theorem dX12_isStone_9 : decode cX12_isStone 9 = .ok (.bipush 101, 2) := by decide +kernel
theorem dX12_isStone_11 : decode cX12_isStone 11 = .ok (.iconst 0, 1) := by decide +kernel
theorem dX12_isStone_12 : decode cX12_isStone 12 = .ok (.invokestatic 157, 3) := by decide +kernel
theorem dX12_isStone_15 : decode cX12_isStone 15 = .ok (.invokevirtual 161, 3) := by decide +kernel
theorem dX12_isStone_18 : decode cX12_isStone 18 = .ok (.ireturn, 1) := by decide +kernel
theorem dX12_isLoop_0 : decode cX12_isLoop 0 = .ok (.aload_n 0, 1) := by decide +kernel
theorem dX12_isLoop_1 : decode cX12_isLoop 1 = .ok (.bipush 108, 2) := by decide +kernel
theorem dX12_isLoop_3 : decode cX12_isLoop 3 = .ok (.bipush 111, 2) := by decide +kernel
theorem dX12_isLoop_5 : decode cX12_isLoop 5 = .ok (.bipush 111, 2) := by decide +kernel
theorem dX12_isLoop_7 : decode cX12_isLoop 7 = .ok (.bipush 112, 2) := by decide +kernel
theorem dX12_isLoop_9 : decode cX12_isLoop 9 = .ok (.iconst 0, 1) := by decide +kernel
theorem dX12_isLoop_10 : decode cX12_isLoop 10 = .ok (.iconst 0, 1) := by decide +kernel
theorem dX12_isLoop_11 : decode cX12_isLoop 11 = .ok (.invokestatic 157, 3) := by decide +kernel
theorem dX12_isLoop_14 : decode cX12_isLoop 14 = .ok (.invokevirtual 161, 3) := by decide +kernel
theorem dX12_isLoop_17 : decode cX12_isLoop 17 = .ok (.ireturn, 1) := by decide +kernel
theorem dX12_isEnd_0 : decode cX12_isEnd 0 = .ok (.aload_n 0, 1) := by decide +kernel
theorem dX12_isEnd_1 : decode cX12_isEnd 1 = .ok (.bipush 101, 2) := by decide +kernel
theorem dX12_isEnd_3 : decode cX12_isEnd 3 = .ok (.bipush 110, 2) := by decide +kernel
theorem dX12_isEnd_5 : decode cX12_isEnd 5 = .ok (.bipush 100, 2) := by decide +kernel
theorem dX12_isEnd_7 : decode cX12_isEnd 7 = .ok (.iconst 0, 1) := by decide +kernel
theorem dX12_isEnd_8 : decode cX12_isEnd 8 = .ok (.iconst 0, 1) := by decide +kernel
theorem dX12_isEnd_9 : decode cX12_isEnd 9 = .ok (.iconst 0, 1) := by decide +kernel
theorem dX12_isEnd_10 : decode cX12_isEnd 10 = .ok (.invokestatic 157, 3) := by decide +kernel
theorem dX12_isEnd_13 : decode cX12_isEnd 13 = .ok (.invokevirtual 161, 3) := by decide +kernel
theorem dX12_isEnd_16 : decode cX12_isEnd 16 = .ok (.ireturn, 1) := by decide +kernel
theorem dX12_isStop_0 : decode cX12_isStop 0 = .ok (.aload_n 0, 1) := by decide +kernel
theorem dX12_isStop_1 : decode cX12_isStop 1 = .ok (.bipush 115, 2) := by decide +kernel
theorem dX12_isStop_3 : decode cX12_isStop 3 = .ok (.bipush 116, 2) := by decide +kernel
theorem dX12_isStop_5 : decode cX12_isStop 5 = .ok (.bipush 111, 2) := by decide +kernel
theorem dX12_isStop_7 : decode cX12_isStop 7 = .ok (.bipush 112, 2) := by decide +kernel
theorem dX12_isStop_9 : decode cX12_isStop 9 = .ok (.iconst 0, 1) := by decide +kernel
theorem dX12_isStop_10 : decode cX12_isStop 10 = .ok (.iconst 0, 1) := by decide +kernel
theorem dX12_isStop_11 : decode cX12_isStop 11 = .ok (.invokestatic 157, 3) := by decide +kernel
theorem dX12_isStop_14 : decode cX12_isStop 14 = .ok (.invokevirtual 161, 3) := by decide +kernel
theorem dX12_isStop_17 : decode cX12_isStop 17 = .ok (.ireturn, 1) := by decide +kernel
theorem dX12_isKept_0 : decode cX12_isKept 0 = .ok (.aload_n 0, 1) := by decide +kernel
theorem dX12_isKept_1 : decode cX12_isKept 1 = .ok (.invokevirtual 167, 3) := by decide +kernel
theorem dX12_isKept_4 : decode cX12_isKept 4 = .ok (.ifCond .ge 66, 3) := by decide +kernel
theorem dX12_isKept_7 : decode cX12_isKept 7 = .ok (.aload_n 0, 1) := by decide +kernel
theorem dX12_isKept_8 : decode cX12_isKept 8 = .ok (.invokevirtual 171, 3) := by decide +kernel
theorem dX12_isKept_11 : decode cX12_isKept 11 = .ok (.ifCond .ne 59, 3) := by decide +kernel
theorem dX12_isKept_14 : decode cX12_isKept 14 = .ok (.aload_n 0, 1) := by decide +kernel
theorem dX12_isKept_15 : decode cX12_isKept 15 = .ok (.invokevirtual 175, 3) := by decide +kernel
theorem dX12_isKept_18 : decode cX12_isKept 18 = .ok (.ifCond .ne 52, 3) := by decide +kernel
theorem dX12_isKept_21 : decode cX12_isKept 21 = .ok (.aload_n 0, 1) := by decide +kernel
theorem dX12_isKept_22 : decode cX12_isKept 22 = .ok (.invokevirtual 178, 3) := by decide +kernel
theorem dX12_isKept_25 : decode cX12_isKept 25 = .ok (.ifCond .ne 45, 3) := by decide +kernel
theorem dX12_isKept_28 : decode cX12_isKept 28 = .ok (.aload_n 0, 1) := by decide +kernel
theorem dX12_isKept_29 : decode cX12_isKept 29 = .ok (.invokevirtual 181, 3) := by decide +kernel
theorem dX12_isKept_32 : decode cX12_isKept 32 = .ok (.ifCond .ne 38, 3) := by decide +kernel
theorem dX12_isKept_35 : decode cX12_isKept 35 = .ok (.aload_n 0, 1) := by decide +kernel
theorem dX12_isKept_36 : decode cX12_isKept 36 = .ok (.invokevirtual 184, 3) := by decide +kernel
theorem dX12_isKept_39 : decode cX12_isKept 39 = .ok (.ifCond .ne 31, 3) := by decide +kernel
theorem dX12_isKept_42 : decode cX12_isKept 42 = .ok (.aload_n 0, 1) := by decide +kernel
theorem dX12_isKept_43 : decode cX12_isKept 43 = .ok (.invokevirtual 187, 3) := by decide +kernel
theorem dX12_isKept_46 : decode cX12_isKept 46 = .ok (.ifCond .ne 24, 3) := by decide +kernel
theorem dX12_isKept_49 : decode cX12_isKept 49 = .ok (.aload_n 0, 1) := by decide +kernel
theorem dX12_isKept_50 : decode cX12_isKept 50 = .ok (.invokevirtual 190, 3) := by decide +kernel
theorem dX12_isKept_53 : decode cX12_isKept 53 = .ok (.ifCond .ne 17, 3) := by decide +kernel
theorem dX12_isKept_56 : decode cX12_isKept 56 = .ok (.aload_n 0, 1) := by decide +kernel
theorem dX12_isKept_57 : decode cX12_isKept 57 = .ok (.invokevirtual 193, 3) := by decide +kernel
theorem dX12_isKept_60 : decode cX12_isKept 60 = .ok (.ifCond .ne 10, 3) := by decide +kernel
theorem dX12_isKept_63 : decode cX12_isKept 63 = .ok (.aload_n 0, 1) := by decide +kernel
theorem dX12_isKept_64 : decode cX12_isKept 64 = .ok (.invokevirtual 196, 3) := by decide +kernel
theorem dX12_isKept_67 : decode cX12_isKept 67 = .ok (.ifCond .eq 5, 3) := by decide +kernel
theorem dX12_isKept_70 : decode cX12_isKept 70 = .ok (.iconst 1, 1) := by decide +kernel
theorem dX12_isKept_71 : decode cX12_isKept 71 = .ok (.ireturn, 1) := by decide +kernel
theorem dX12_isKept_72 : decode cX12_isKept 72 = .ok (.aload_n 0, 1) := by decide +kernel
theorem dX12_isKept_73 : decode cX12_isKept 73 = .ok (.invokevirtual 199, 3) := by decide +kernel
theorem dX12_isKept_76 : decode cX12_isKept 76 = .ok (.ifCond .ne 59, 3) := by decide +kernel
theorem dX12_isKept_79 : decode cX12_isKept 79 = .ok (.aload_n 0, 1) := by decide +kernel
theorem dX12_isKept_80 : decode cX12_isKept 80 = .ok (.invokevirtual 202, 3) := by decide +kernel
theorem dX12_isKept_83 : decode cX12_isKept 83 = .ok (.ifCond .ne 52, 3) := by decide +kernel
theorem dX12_isKept_86 : decode cX12_isKept 86 = .ok (.aload_n 0, 1) := by decide +kernel
theorem dX12_isKept_87 : decode cX12_isKept 87 = .ok (.invokevirtual 205, 3) := by decide +kernel
theorem dX12_isKept_90 : decode cX12_isKept 90 = .ok (.ifCond .ne 45, 3) := by decide +kernel
theorem dX12_isKept_93 : decode cX12_isKept 93 = .ok (.aload_n 0, 1) := by decide +kernel
theorem dX12_isKept_94 : decode cX12_isKept 94 = .ok (.invokevirtual 208, 3) := by decide +kernel
theorem dX12_isKept_97 : decode cX12_isKept 97 = .ok (.ifCond .ne 38, 3) := by decide +kernel
theorem dX12_isKept_100 : decode cX12_isKept 100 = .ok (.aload_n 0, 1) := by decide +kernel
theorem dX12_isKept_101 : decode cX12_isKept 101 = .ok (.invokevirtual 211, 3) := by decide +kernel
theorem dX12_isKept_104 : decode cX12_isKept 104 = .ok (.ifCond .ne 31, 3) := by decide +kernel
theorem dX12_isKept_107 : decode cX12_isKept 107 = .ok (.aload_n 0, 1) := by decide +kernel
theorem dX12_isKept_108 : decode cX12_isKept 108 = .ok (.invokevirtual 214, 3) := by decide +kernel
theorem dX12_isKept_111 : decode cX12_isKept 111 = .ok (.ifCond .ne 24, 3) := by decide +kernel
theorem dX12_isKept_114 : decode cX12_isKept 114 = .ok (.aload_n 0, 1) := by decide +kernel
theorem dX12_isKept_115 : decode cX12_isKept 115 = .ok (.invokevirtual 217, 3) := by decide +kernel
theorem dX12_isKept_118 : decode cX12_isKept 118 = .ok (.ifCond .ne 17, 3) := by decide +kernel
theorem dX12_isKept_121 : decode cX12_isKept 121 = .ok (.aload_n 0, 1) := by decide +kernel
theorem dX12_isKept_122 : decode cX12_isKept 122 = .ok (.invokevirtual 220, 3) := by decide +kernel
theorem dX12_isKept_125 : decode cX12_isKept 125 = .ok (.ifCond .ne 10, 3) := by decide +kernel
theorem dX12_isKept_128 : decode cX12_isKept 128 = .ok (.aload_n 0, 1) := by decide +kernel
theorem dX12_isKept_129 : decode cX12_isKept 129 = .ok (.invokevirtual 223, 3) := by decide +kernel
theorem dX12_isKept_132 : decode cX12_isKept 132 = .ok (.ifCond .eq 7, 3) := by decide +kernel
theorem dX12_isKept_135 : decode cX12_isKept 135 = .ok (.iconst 1, 1) := by decide +kernel
theorem dX12_isKept_136 : decode cX12_isKept 136 = .ok (.goto 4, 3) := by decide +kernel
theorem dX12_isKept_139 : decode cX12_isKept 139 = .ok (.iconst 0, 1) := by decide +kernel
theorem dX12_isKept_140 : decode cX12_isKept 140 = .ok (.ireturn, 1) := by decide +kernel
theorem dX12_isName_0 : decode cX12_isName 0 = .ok (.aload_n 0, 1) := by decide +kernel
theorem dX12_isName_1 : decode cX12_isName 1 = .ok (.getfield 132, 3) := by decide +kernel
theorem dX12_isName_4 : decode cX12_isName 4 = .ok (.iconst 1, 1) := by decide +kernel
theorem dX12_isName_5 : decode cX12_isName 5 = .ok (.if_icmp .ne 23, 3) := by decide +kernel
theorem dX12_isName_8 : decode cX12_isName 8 = .ok (.aload_n 0, 1) := by decide +kernel
theorem dX12_isName_9 : decode cX12_isName 9 = .ok (.getfield 145, 3) := by decide +kernel
theorem dX12_isName_12 : decode cX12_isName 12 = .ok (.bipush 8, 2) := by decide +kernel
theorem dX12_isName_14 : decode cX12_isName 14 = .ok (.if_icmp .gt 14, 3) := by decide +kernel
theorem dX12_isName_17 : decode cX12_isName 17 = .ok (.aload_n 0, 1) := by decide +kernel
theorem dX12_isName_18 : decode cX12_isName 18 = .ok (.invokevirtual 226, 3) := by decide +kernel
theorem dX12_isName_21 : decode cX12_isName 21 = .ok (.ifCond .ne 7, 3) := by decide +kernel
theorem dX12_isName_24 : decode cX12_isName 24 = .ok (.iconst 1, 1) := by decide +kernel
theorem dX12_isName_25 : decode cX12_isName 25 = .ok (.goto 4, 3) := by decide +kernel
theorem dX12_isName_28 : decode cX12_isName 28 = .ok (.iconst 0, 1) := by decide +kernel
theorem dX12_isName_29 : decode cX12_isName 29 = .ok (.ireturn, 1) := by decide +kernel
theorem dX12_fail_0 : decode cX12_fail 0 = .ok (.aload_n 0, 1) := by decide +kernel
theorem dX12_fail_1 : decode cX12_fail 1 = .ok (.getfield 229, 3) := by decide +kernel
theorem dX12_fail_4 : decode cX12_fail 4 = .ok (.ifCond .le 4, 3) := by decide +kernel
theorem dX12_fail_7 : decode cX12_fail 7 = .ok (.return_, 1) := by decide +kernel
theorem dX12_fail_8 : decode cX12_fail 8 = .ok (.aload_n 0, 1) := by decide +kernel
theorem dX12_fail_9 : decode cX12_fail 9 = .ok (.iload_n 1, 1) := by decide +kernel
theorem dX12_fail_10 : decode cX12_fail 10 = .ok (.putfield 229, 3) := by decide +kernel
theorem dX12_fail_13 : decode cX12_fail 13 = .ok (.aload_n 0, 1) := by decide +kernel
theorem dX12_fail_14 : decode cX12_fail 14 = .ok (.iload_n 2, 1) := by decide +kernel
theorem dX12_fail_15 : decode cX12_fail 15 = .ok (.putfield 232, 3) := by decide +kernel
theorem dX12_fail_18 : decode cX12_fail 18 = .ok (.return_, 1) := by decide +kernel
theorem dX12_wrong_0 : decode cX12_wrong 0 = .ok (.aload_n 0, 1) := by decide +kernel
theorem dX12_wrong_1 : decode cX12_wrong 1 = .ok (.aload_n 0, 1) := by decide +kernel
theorem dX12_wrong_2 : decode cX12_wrong 2 = .ok (.getfield 132, 3) := by decide +kernel
theorem dX12_wrong_5 : decode cX12_wrong 5 = .ok (.iconst 4, 1) := by decide +kernel
theorem dX12_wrong_6 : decode cX12_wrong 6 = .ok (.if_icmp .ne 7, 3) := by decide +kernel
theorem dX12_wrong_9 : decode cX12_wrong 9 = .ok (.iconst 1, 1) := by decide +kernel
theorem dX12_wrong_10 : decode cX12_wrong 10 = .ok (.goto 4, 3) := by decide +kernel
theorem dX12_wrong_13 : decode cX12_wrong 13 = .ok (.iconst 2, 1) := by decide +kernel
theorem dX12_wrong_14 : decode cX12_wrong 14 = .ok (.aload_n 0, 1) := by decide +kernel
theorem dX12_wrong_15 : decode cX12_wrong 15 = .ok (.getfield 126, 3) := by decide +kernel
theorem dX12_wrong_18 : decode cX12_wrong 18 = .ok (.invokevirtual 235, 3) := by decide +kernel
theorem dX12_wrong_21 : decode cX12_wrong 21 = .ok (.return_, 1) := by decide +kernel
theorem dX12_must_0 : decode cX12_must 0 = .ok (.aload_n 0, 1) := by decide +kernel
theorem dX12_must_1 : decode cX12_must 1 = .ok (.getfield 229, 3) := by decide +kernel
theorem dX12_must_4 : decode cX12_must 4 = .ok (.ifCond .le 4, 3) := by decide +kernel
theorem dX12_must_7 : decode cX12_must 7 = .ok (.return_, 1) := by decide +kernel
theorem dX12_must_8 : decode cX12_must 8 = .ok (.iload_n 1, 1) := by decide +kernel
theorem dX12_must_9 : decode cX12_must 9 = .ok (.ifCond .eq 10, 3) := by decide +kernel
theorem dX12_must_12 : decode cX12_must 12 = .ok (.aload_n 0, 1) := by decide +kernel
theorem dX12_must_13 : decode cX12_must 13 = .ok (.invokevirtual 239, 3) := by decide +kernel
theorem dX12_must_16 : decode cX12_must 16 = .ok (.goto 7, 3) := by decide +kernel
theorem dX12_must_19 : decode cX12_must 19 = .ok (.aload_n 0, 1) := by decide +kernel
theorem dX12_must_20 : decode cX12_must 20 = .ok (.invokevirtual 242, 3) := by decide +kernel
theorem dX12_must_23 : decode cX12_must 23 = .ok (.return_, 1) := by decide +kernel
theorem dX12_count_0 : decode cX12_count 0 = .ok (.aload_n 0, 1) := by decide +kernel
theorem dX12_count_1 : decode cX12_count 1 = .ok (.getfield 229, 3) := by decide +kernel
theorem dX12_count_4 : decode cX12_count 4 = .ok (.ifCond .ne 15, 3) := by decide +kernel
theorem dX12_count_7 : decode cX12_count 7 = .ok (.aload_n 0, 1) := by decide +kernel
theorem dX12_count_8 : decode cX12_count 8 = .ok (.getfield 132, 3) := by decide +kernel
theorem dX12_count_11 : decode cX12_count 11 = .ok (.iconst 2, 1) := by decide +kernel
theorem dX12_count_12 : decode cX12_count 12 = .ok (.if_icmp .eq 7, 3) := by decide +kernel
theorem dX12_count_15 : decode cX12_count 15 = .ok (.aload_n 0, 1) := by decide +kernel
theorem dX12_count_16 : decode cX12_count 16 = .ok (.invokevirtual 242, 3) := by decide +kernel
theorem dX12_count_19 : decode cX12_count 19 = .ok (.aload_n 0, 1) := by decide +kernel
theorem dX12_count_20 : decode cX12_count 20 = .ok (.getfield 229, 3) := by decide +kernel
theorem dX12_count_23 : decode cX12_count 23 = .ok (.ifCond .ne 27, 3) := by decide +kernel
theorem dX12_count_26 : decode cX12_count 26 = .ok (.aload_n 0, 1) := by decide +kernel
theorem dX12_count_27 : decode cX12_count 27 = .ok (.getfield 151, 3) := by decide +kernel
theorem dX12_count_30 : decode cX12_count 30 = .ok (.i2l, 1) := by decide +kernel
theorem dX12_count_31 : decode cX12_count 31 = .ok (.iload_n 1, 1) := by decide +kernel
theorem dX12_count_32 : decode cX12_count 32 = .ok (.i2l, 1) := by decide +kernel
theorem dX12_count_33 : decode cX12_count 33 = .ok (.iload_n 2, 1) := by decide +kernel
theorem dX12_count_34 : decode cX12_count 34 = .ok (.i2l, 1) := by decide +kernel
theorem dX12_count_35 : decode cX12_count 35 = .ok (.invokestatic 116, 3) := by decide +kernel
theorem dX12_count_38 : decode cX12_count 38 = .ok (.ifCond .ne 12, 3) := by decide +kernel
theorem dX12_count_41 : decode cX12_count 41 = .ok (.aload_n 0, 1) := by decide +kernel
theorem dX12_count_42 : decode cX12_count 42 = .ok (.iconst 4, 1) := by decide +kernel
theorem dX12_count_43 : decode cX12_count 43 = .ok (.aload_n 0, 1) := by decide +kernel
theorem dX12_count_44 : decode cX12_count 44 = .ok (.getfield 126, 3) := by decide +kernel
theorem dX12_count_47 : decode cX12_count 47 = .ok (.invokevirtual 235, 3) := by decide +kernel
theorem dX12_count_50 : decode cX12_count 50 = .ok (.aload_n 0, 1) := by decide +kernel
theorem dX12_count_51 : decode cX12_count 51 = .ok (.getfield 229, 3) := by decide +kernel
theorem dX12_count_54 : decode cX12_count 54 = .ok (.ifCond .le 5, 3) := by decide +kernel
theorem dX12_count_57 : decode cX12_count 57 = .ok (.iconst 0, 1) := by decide +kernel
theorem dX12_count_58 : decode cX12_count 58 = .ok (.ireturn, 1) := by decide +kernel
theorem dX12_count_59 : decode cX12_count 59 = .ok (.aload_n 0, 1) := by decide +kernel
theorem dX12_count_60 : decode cX12_count 60 = .ok (.getfield 151, 3) := by decide +kernel
theorem dX12_count_63 : decode cX12_count 63 = .ok (.istore_n 3, 1) := by decide +kernel
theorem dX12_count_64 : decode cX12_count 64 = .ok (.aload_n 0, 1) := by decide +kernel
theorem dX12_count_65 : decode cX12_count 65 = .ok (.invokevirtual 239, 3) := by decide +kernel
theorem dX12_count_68 : decode cX12_count 68 = .ok (.iload_n 3, 1) := by decide +kernel
theorem dX12_count_69 : decode cX12_count 69 = .ok (.ireturn, 1) := by decide +kernel
theorem dX12_feed_0 : decode cX12_feed 0 = .ok (.aload_n 0, 1) := by decide +kernel
theorem dX12_feed_1 : decode cX12_feed 1 = .ok (.iconst 0, 1) := by decide +kernel
theorem dX12_feed_2 : decode cX12_feed 2 = .ok (.putfield 81, 3) := by decide +kernel
theorem dX12_feed_5 : decode cX12_feed 5 = .ok (.aload_n 0, 1) := by decide +kernel
theorem dX12_feed_6 : decode cX12_feed 6 = .ok (.getfield 245, 3) := by decide +kernel
theorem dX12_feed_9 : decode cX12_feed 9 = .ok (.bipush 20, 2) := by decide +kernel
theorem dX12_feed_11 : decode cX12_feed 11 = .ok (.iadd, 1) := by decide +kernel
theorem dX12_feed_12 : decode cX12_feed 12 = .ok (.sipush 900, 3) := by decide +kernel
theorem dX12_feed_15 : decode cX12_feed 15 = .ok (.if_icmp .le 5, 3) := by decide +kernel
theorem dX12_feed_18 : decode cX12_feed 18 = .ok (.iconst (-1), 1) := by decide +kernel
theorem dX12_feed_19 : decode cX12_feed 19 = .ok (.ireturn, 1) := by decide +kernel
theorem dX12_feed_20 : decode cX12_feed 20 = .ok (.aload_n 0, 1) := by decide +kernel
theorem dX12_feed_21 : decode cX12_feed 21 = .ok (.iload_n 1, 1) := by decide +kernel
theorem dX12_feed_22 : decode cX12_feed 22 = .ok (.invokevirtual 248, 3) := by decide +kernel
theorem dX12_feed_25 : decode cX12_feed 25 = .ok (.aload_n 0, 1) := by decide +kernel
theorem dX12_feed_26 : decode cX12_feed 26 = .ok (.iload_n 2, 1) := by decide +kernel
theorem dX12_feed_27 : decode cX12_feed 27 = .ok (.invokevirtual 248, 3) := by decide +kernel
theorem dX12_feed_30 : decode cX12_feed 30 = .ok (.aload_n 0, 1) := by decide +kernel
theorem dX12_feed_31 : decode cX12_feed 31 = .ok (.iload_n 3, 1) := by decide +kernel
theorem dX12_feed_32 : decode cX12_feed 32 = .ok (.invokevirtual 248, 3) := by decide +kernel
theorem dX12_feed_35 : decode cX12_feed 35 = .ok (.aload_n 0, 1) := by decide +kernel
theorem dX12_feed_36 : decode cX12_feed 36 = .ok (.iload 4, 2) := by decide +kernel
theorem dX12_feed_38 : decode cX12_feed 38 = .ok (.invokevirtual 248, 3) := by decide +kernel
theorem dX12_feed_41 : decode cX12_feed 41 = .ok (.aload_n 0, 1) := by decide +kernel
theorem dX12_feed_42 : decode cX12_feed 42 = .ok (.iload 5, 2) := by decide +kernel
theorem dX12_feed_44 : decode cX12_feed 44 = .ok (.invokevirtual 248, 3) := by decide +kernel
theorem dX12_feed_47 : decode cX12_feed 47 = .ok (.aload_n 0, 1) := by decide +kernel
theorem dX12_feed_48 : decode cX12_feed 48 = .ok (.getfield 245, 3) := by decide +kernel
theorem dX12_feed_51 : decode cX12_feed 51 = .ok (.ireturn, 1) := by decide +kernel
theorem dX12_lay_0 : decode cX12_lay 0 = .ok (.iconst 3, 1) := by decide +kernel
theorem dX12_lay_1 : decode cX12_lay 1 = .ok (.istore_n 2, 1) := by decide +kernel
theorem dX12_lay_2 : decode cX12_lay 2 = .ok (.iload_n 2, 1) := by decide +kernel
theorem dX12_lay_3 : decode cX12_lay 3 = .ok (.ifCond .lt 35, 3) := by decide +kernel
theorem dX12_lay_6 : decode cX12_lay 6 = .ok (.aload_n 0, 1) := by decide +kernel
theorem dX12_lay_7 : decode cX12_lay 7 = .ok (.getfield 24, 3) := by decide +kernel
theorem dX12_lay_10 : decode cX12_lay 10 = .ok (.aload_n 0, 1) := by decide +kernel
theorem dX12_lay_11 : decode cX12_lay 11 = .ok (.getfield 245, 3) := by decide +kernel
theorem dX12_lay_14 : decode cX12_lay 14 = .ok (.iload_n 1, 1) := by decide +kernel
theorem dX12_lay_15 : decode cX12_lay 15 = .ok (.bipush 8, 2) := by decide +kernel
theorem dX12_lay_17 : decode cX12_lay 17 = .ok (.iload_n 2, 1) := by decide +kernel
theorem dX12_lay_18 : decode cX12_lay 18 = .ok (.imul, 1) := by decide +kernel
theorem dX12_lay_19 : decode cX12_lay 19 = .ok (.ishr, 1) := by decide +kernel
theorem dX12_lay_20 : decode cX12_lay 20 = .ok (.i2b, 1) := by decide +kernel
theorem dX12_lay_21 : decode cX12_lay 21 = .ok (.bastore, 1) := by decide +kernel
theorem dX12_lay_22 : decode cX12_lay 22 = .ok (.aload_n 0, 1) := by decide +kernel
theorem dX12_lay_23 : decode cX12_lay 23 = .ok (.dup, 1) := by decide +kernel
theorem dX12_lay_24 : decode cX12_lay 24 = .ok (.getfield 245, 3) := by decide +kernel
theorem dX12_lay_27 : decode cX12_lay 27 = .ok (.iconst 1, 1) := by decide +kernel
theorem dX12_lay_28 : decode cX12_lay 28 = .ok (.iadd, 1) := by decide +kernel
theorem dX12_lay_29 : decode cX12_lay 29 = .ok (.putfield 245, 3) := by decide +kernel
theorem dX12_lay_32 : decode cX12_lay 32 = .ok (.iinc 2 (-1), 3) := by decide +kernel
theorem dX12_lay_35 : decode cX12_lay 35 = .ok (.goto (-33), 3) := by decide +kernel
theorem dX12_lay_38 : decode cX12_lay 38 = .ok (.return_, 1) := by decide +kernel
theorem dX12_opens_0 : decode cX12_opens 0 = .ok (.iload_n 1, 1) := by decide +kernel
theorem dX12_opens_1 : decode cX12_opens 1 = .ok (.ifCond .lt 16, 3) := by decide +kernel
theorem dX12_opens_4 : decode cX12_opens 4 = .ok (.iload_n 1, 1) := by decide +kernel
theorem dX12_opens_5 : decode cX12_opens 5 = .ok (.aload_n 0, 1) := by decide +kernel
theorem dX12_opens_6 : decode cX12_opens 6 = .ok (.getfield 245, 3) := by decide +kernel
theorem dX12_opens_9 : decode cX12_opens 9 = .ok (.if_icmp .gt 8, 3) := by decide +kernel
theorem dX12_opens_12 : decode cX12_opens 12 = .ok (.iload_n 1, 1) := by decide +kernel
theorem dX12_opens_13 : decode cX12_opens 13 = .ok (.iload_n 2, 1) := by decide +kernel
theorem dX12_opens_14 : decode cX12_opens 14 = .ok (.if_icmp .le 9, 3) := by decide +kernel
theorem dX12_opens_17 : decode cX12_opens 17 = .ok (.aload_n 0, 1) := by decide +kernel
theorem dX12_opens_18 : decode cX12_opens 18 = .ok (.iconst 5, 1) := by decide +kernel
theorem dX12_opens_19 : decode cX12_opens 19 = .ok (.invokevirtual 96, 3) := by decide +kernel
theorem dX12_opens_22 : decode cX12_opens 22 = .ok (.ireturn, 1) := by decide +kernel
theorem dX12_opens_23 : decode cX12_opens 23 = .ok (.aload_n 0, 1) := by decide +kernel
theorem dX12_opens_24 : decode cX12_opens 24 = .ok (.iload_n 1, 1) := by decide +kernel
theorem dX12_opens_25 : decode cX12_opens 25 = .ok (.putfield 120, 3) := by decide +kernel
theorem dX12_opens_28 : decode cX12_opens 28 = .ok (.aload_n 0, 1) := by decide +kernel
theorem dX12_opens_29 : decode cX12_opens 29 = .ok (.iconst 0, 1) := by decide +kernel
theorem dX12_opens_30 : decode cX12_opens 30 = .ok (.putfield 245, 3) := by decide +kernel
theorem dX12_opens_33 : decode cX12_opens 33 = .ok (.aload_n 0, 1) := by decide +kernel
theorem dX12_opens_34 : decode cX12_opens 34 = .ok (.iconst 0, 1) := by decide +kernel
theorem dX12_opens_35 : decode cX12_opens 35 = .ok (.putfield 123, 3) := by decide +kernel
theorem dX12_opens_38 : decode cX12_opens 38 = .ok (.aload_n 0, 1) := by decide +kernel
theorem dX12_opens_39 : decode cX12_opens 39 = .ok (.iconst 0, 1) := by decide +kernel
theorem dX12_opens_40 : decode cX12_opens 40 = .ok (.putfield 229, 3) := by decide +kernel
theorem dX12_opens_43 : decode cX12_opens 43 = .ok (.aload_n 0, 1) := by decide +kernel
theorem dX12_opens_44 : decode cX12_opens 44 = .ok (.invokevirtual 239, 3) := by decide +kernel
theorem dX12_opens_47 : decode cX12_opens 47 = .ok (.iconst 1, 1) := by decide +kernel
theorem dX12_opens_48 : decode cX12_opens 48 = .ok (.ireturn, 1) := by decide +kernel
theorem dX12_isWell_0 : decode cX12_isWell 0 = .ok (.aload_n 0, 1) := by decide +kernel
theorem dX12_isWell_1 : decode cX12_isWell 1 = .ok (.aload_n 0, 1) := by decide +kernel
theorem dX12_isWell_2 : decode cX12_isWell 2 = .ok (.getfield 229, 3) := by decide +kernel
theorem dX12_isWell_5 : decode cX12_isWell 5 = .ok (.putfield 28, 3) := by decide +kernel
theorem dX12_isWell_8 : decode cX12_isWell 8 = .ok (.aload_n 0, 1) := by decide +kernel
theorem dX12_isWell_9 : decode cX12_isWell 9 = .ok (.aload_n 0, 1) := by decide +kernel
theorem dX12_isWell_10 : decode cX12_isWell 10 = .ok (.getfield 229, 3) := by decide +kernel
theorem dX12_isWell_13 : decode cX12_isWell 13 = .ok (.ifCond .ne 7, 3) := by decide +kernel
theorem dX12_isWell_16 : decode cX12_isWell 16 = .ok (.iconst (-1), 1) := by decide +kernel
theorem dX12_isWell_17 : decode cX12_isWell 17 = .ok (.goto 7, 3) := by decide +kernel
theorem dX12_isWell_20 : decode cX12_isWell 20 = .ok (.aload_n 0, 1) := by decide +kernel
theorem dX12_isWell_21 : decode cX12_isWell 21 = .ok (.getfield 232, 3) := by decide +kernel
theorem dX12_isWell_24 : decode cX12_isWell 24 = .ok (.putfield 32, 3) := by decide +kernel
theorem dX12_isWell_27 : decode cX12_isWell 27 = .ok (.aload_n 0, 1) := by decide +kernel
theorem dX12_isWell_28 : decode cX12_isWell 28 = .ok (.getfield 229, 3) := by decide +kernel
theorem dX12_isWell_31 : decode cX12_isWell 31 = .ok (.ifCond .eq 12, 3) := by decide +kernel
theorem dX12_isWell_34 : decode cX12_isWell 34 = .ok (.aload_n 0, 1) := by decide +kernel
theorem dX12_isWell_35 : decode cX12_isWell 35 = .ok (.bipush 10, 2) := by decide +kernel
theorem dX12_isWell_37 : decode cX12_isWell 37 = .ok (.invokevirtual 96, 3) := by decide +kernel
theorem dX12_isWell_40 : decode cX12_isWell 40 = .ok (.ifCond .eq 7, 3) := by decide +kernel
theorem dX12_isWell_43 : decode cX12_isWell 43 = .ok (.iconst 1, 1) := by decide +kernel
theorem dX12_isWell_44 : decode cX12_isWell 44 = .ok (.goto 4, 3) := by decide +kernel
theorem dX12_isWell_47 : decode cX12_isWell 47 = .ok (.iconst 0, 1) := by decide +kernel
theorem dX12_isWell_48 : decode cX12_isWell 48 = .ok (.ireturn, 1) := by decide +kernel
theorem dX12_fault_0 : decode cX12_fault 0 = .ok (.aload_n 0, 1) := by decide +kernel
theorem dX12_fault_1 : decode cX12_fault 1 = .ok (.iconst 0, 1) := by decide +kernel
theorem dX12_fault_2 : decode cX12_fault 2 = .ok (.putfield 81, 3) := by decide +kernel
theorem dX12_fault_5 : decode cX12_fault 5 = .ok (.iload_n 1, 1) := by decide +kernel
theorem dX12_fault_6 : decode cX12_fault 6 = .ok (.ifCond .ne 10, 3) := by decide +kernel
theorem dX12_fault_9 : decode cX12_fault 9 = .ok (.aload_n 0, 1) := by decide +kernel
theorem dX12_fault_10 : decode cX12_fault 10 = .ok (.getfield 28, 3) := by decide +kernel
theorem dX12_fault_13 : decode cX12_fault 13 = .ok (.goto 16, 3) := by decide +kernel
theorem dX12_fault_16 : decode cX12_fault 16 = .ok (.iload_n 1, 1) := by decide +kernel
theorem dX12_fault_17 : decode cX12_fault 17 = .ok (.iconst 1, 1) := by decide +kernel
theorem dX12_fault_18 : decode cX12_fault 18 = .ok (.if_icmp .ne 10, 3) := by decide +kernel
theorem dX12_fault_21 : decode cX12_fault 21 = .ok (.aload_n 0, 1) := by decide +kernel
theorem dX12_fault_22 : decode cX12_fault 22 = .ok (.getfield 32, 3) := by decide +kernel
theorem dX12_fault_25 : decode cX12_fault 25 = .ok (.goto 4, 3) := by decide +kernel
theorem dX12_fault_28 : decode cX12_fault 28 = .ok (.iconst (-1), 1) := by decide +kernel
theorem dX12_fault_29 : decode cX12_fault 29 = .ok (.ireturn, 1) := by decide +kernel
theorem dX12_readRow_0 : decode cX12_readRow 0 = .ok (.aload_n 0, 1) := by decide +kernel
theorem dX12_readRow_1 : decode cX12_readRow 1 = .ok (.invokevirtual 239, 3) := by decide +kernel
theorem dX12_readRow_4 : decode cX12_readRow 4 = .ok (.iconst 0, 1) := by decide +kernel
theorem dX12_readRow_5 : decode cX12_readRow 5 = .ok (.istore 5, 2) := by decide +kernel
theorem dX12_readRow_7 : decode cX12_readRow 7 = .ok (.iconst 1, 1) := by decide +kernel
theorem dX12_readRow_8 : decode cX12_readRow 8 = .ok (.istore 6, 2) := by decide +kernel
theorem dX12_readRow_10 : decode cX12_readRow 10 = .ok (.iload 6, 2) := by decide +kernel
theorem dX12_readRow_12 : decode cX12_readRow 12 = .ok (.ifCond .eq 123, 3) := by decide +kernel
theorem dX12_readRow_15 : decode cX12_readRow 15 = .ok (.aload_n 0, 1) := by decide +kernel
theorem dX12_readRow_16 : decode cX12_readRow 16 = .ok (.getfield 229, 3) := by decide +kernel
theorem dX12_readRow_19 : decode cX12_readRow 19 = .ok (.ifCond .ne 116, 3) := by decide +kernel
theorem dX12_readRow_22 : decode cX12_readRow 22 = .ok (.aload_n 0, 1) := by decide +kernel
theorem dX12_readRow_23 : decode cX12_readRow 23 = .ok (.getfield 132, 3) := by decide +kernel
theorem dX12_readRow_26 : decode cX12_readRow 26 = .ok (.iconst 2, 1) := by decide +kernel
theorem dX12_readRow_27 : decode cX12_readRow 27 = .ok (.if_icmp .eq 7, 3) := by decide +kernel
theorem dX12_readRow_30 : decode cX12_readRow 30 = .ok (.aload_n 0, 1) := by decide +kernel
theorem dX12_readRow_31 : decode cX12_readRow 31 = .ok (.invokevirtual 242, 3) := by decide +kernel
theorem dX12_readRow_34 : decode cX12_readRow 34 = .ok (.aload_n 0, 1) := by decide +kernel
theorem dX12_readRow_35 : decode cX12_readRow 35 = .ok (.getfield 229, 3) := by decide +kernel
theorem dX12_readRow_38 : decode cX12_readRow 38 = .ok (.ifCond .ne 28, 3) := by decide +kernel
theorem dX12_readRow_41 : decode cX12_readRow 41 = .ok (.aload_n 0, 1) := by decide +kernel
theorem dX12_readRow_42 : decode cX12_readRow 42 = .ok (.getfield 151, 3) := by decide +kernel
theorem dX12_readRow_45 : decode cX12_readRow 45 = .ok (.i2l, 1) := by decide +kernel
theorem dX12_readRow_46 : decode cX12_readRow 46 = .ok (.iload_n 3, 1) := by decide +kernel
theorem dX12_readRow_47 : decode cX12_readRow 47 = .ok (.i2l, 1) := by decide +kernel
theorem dX12_readRow_48 : decode cX12_readRow 48 = .ok (.iload 4, 2) := by decide +kernel
theorem dX12_readRow_50 : decode cX12_readRow 50 = .ok (.i2l, 1) := by decide +kernel
theorem dX12_readRow_51 : decode cX12_readRow 51 = .ok (.invokestatic 116, 3) := by decide +kernel
theorem dX12_readRow_54 : decode cX12_readRow 54 = .ok (.ifCond .ne 12, 3) := by decide +kernel
theorem dX12_readRow_57 : decode cX12_readRow 57 = .ok (.aload_n 0, 1) := by decide +kernel
theorem dX12_readRow_58 : decode cX12_readRow 58 = .ok (.iconst 4, 1) := by decide +kernel
theorem dX12_readRow_59 : decode cX12_readRow 59 = .ok (.aload_n 0, 1) := by decide +kernel
theorem dX12_readRow_60 : decode cX12_readRow 60 = .ok (.getfield 126, 3) := by decide +kernel
theorem dX12_readRow_63 : decode cX12_readRow 63 = .ok (.invokevirtual 235, 3) := by decide +kernel
theorem dX12_readRow_66 : decode cX12_readRow 66 = .ok (.aload_n 0, 1) := by decide +kernel
theorem dX12_readRow_67 : decode cX12_readRow 67 = .ok (.getfield 229, 3) := by decide +kernel
theorem dX12_readRow_70 : decode cX12_readRow 70 = .ok (.ifCond .ne 19, 3) := by decide +kernel
theorem dX12_readRow_73 : decode cX12_readRow 73 = .ok (.iload 5, 2) := by decide +kernel
theorem dX12_readRow_75 : decode cX12_readRow 75 = .ok (.iload_n 2, 1) := by decide +kernel
theorem dX12_readRow_76 : decode cX12_readRow 76 = .ok (.if_icmp .ne 13, 3) := by decide +kernel
theorem dX12_readRow_79 : decode cX12_readRow 79 = .ok (.aload_n 0, 1) := by decide +kernel
theorem dX12_readRow_80 : decode cX12_readRow 80 = .ok (.bipush 6, 2) := by decide +kernel
theorem dX12_readRow_82 : decode cX12_readRow 82 = .ok (.aload_n 0, 1) := by decide +kernel
theorem dX12_readRow_83 : decode cX12_readRow 83 = .ok (.getfield 126, 3) := by decide +kernel
theorem dX12_readRow_86 : decode cX12_readRow 86 = .ok (.invokevirtual 235, 3) := by decide +kernel
theorem dX12_readRow_89 : decode cX12_readRow 89 = .ok (.aload_n 0, 1) := by decide +kernel
theorem dX12_readRow_90 : decode cX12_readRow 90 = .ok (.getfield 229, 3) := by decide +kernel
theorem dX12_readRow_93 : decode cX12_readRow 93 = .ok (.ifCond .le 4, 3) := by decide +kernel
theorem dX12_readRow_96 : decode cX12_readRow 96 = .ok (.return_, 1) := by decide +kernel
theorem dX12_readRow_97 : decode cX12_readRow 97 = .ok (.aload_n 0, 1) := by decide +kernel
theorem dX12_readRow_98 : decode cX12_readRow 98 = .ok (.getfield 35, 3) := by decide +kernel
theorem dX12_readRow_101 : decode cX12_readRow 101 = .ok (.iload_n 1, 1) := by decide +kernel
theorem dX12_readRow_102 : decode cX12_readRow 102 = .ok (.iload 5, 2) := by decide +kernel
theorem dX12_readRow_104 : decode cX12_readRow 104 = .ok (.iadd, 1) := by decide +kernel
theorem dX12_readRow_105 : decode cX12_readRow 105 = .ok (.aload_n 0, 1) := by decide +kernel
theorem dX12_readRow_106 : decode cX12_readRow 106 = .ok (.getfield 151, 3) := by decide +kernel
theorem dX12_readRow_109 : decode cX12_readRow 109 = .ok (.iastore, 1) := by decide +kernel
theorem dX12_readRow_110 : decode cX12_readRow 110 = .ok (.iinc 5 1, 3) := by decide +kernel
theorem dX12_readRow_113 : decode cX12_readRow 113 = .ok (.aload_n 0, 1) := by decide +kernel
theorem dX12_readRow_114 : decode cX12_readRow 114 = .ok (.invokevirtual 239, 3) := by decide +kernel
theorem dX12_readRow_117 : decode cX12_readRow 117 = .ok (.aload_n 0, 1) := by decide +kernel
theorem dX12_readRow_118 : decode cX12_readRow 118 = .ok (.getfield 132, 3) := by decide +kernel
theorem dX12_readRow_121 : decode cX12_readRow 121 = .ok (.iconst 2, 1) := by decide +kernel
theorem dX12_readRow_122 : decode cX12_readRow 122 = .ok (.if_icmp .ne 7, 3) := by decide +kernel
theorem dX12_readRow_125 : decode cX12_readRow 125 = .ok (.iconst 1, 1) := by decide +kernel
theorem dX12_readRow_126 : decode cX12_readRow 126 = .ok (.goto 4, 3) := by decide +kernel
theorem dX12_readRow_129 : decode cX12_readRow 129 = .ok (.iconst 0, 1) := by decide +kernel
theorem dX12_readRow_130 : decode cX12_readRow 130 = .ok (.istore 6, 2) := by decide +kernel
theorem dX12_readRow_132 : decode cX12_readRow 132 = .ok (.goto (-122), 3) := by decide +kernel
theorem dX12_readRow_135 : decode cX12_readRow 135 = .ok (.aload_n 0, 1) := by decide +kernel
theorem dX12_readRow_136 : decode cX12_readRow 136 = .ok (.getfield 229, 3) := by decide +kernel
theorem dX12_readRow_139 : decode cX12_readRow 139 = .ok (.ifCond .ne 28, 3) := by decide +kernel
theorem dX12_readRow_142 : decode cX12_readRow 142 = .ok (.aload_n 0, 1) := by decide +kernel
theorem dX12_readRow_143 : decode cX12_readRow 143 = .ok (.bipush 59, 2) := by decide +kernel
theorem dX12_readRow_145 : decode cX12_readRow 145 = .ok (.invokevirtual 252, 3) := by decide +kernel
theorem dX12_readRow_148 : decode cX12_readRow 148 = .ok (.ifCond .eq 19, 3) := by decide +kernel
theorem dX12_readRow_151 : decode cX12_readRow 151 = .ok (.iload 5, 2) := by decide +kernel
theorem dX12_readRow_153 : decode cX12_readRow 153 = .ok (.iload_n 2, 1) := by decide +kernel
theorem dX12_readRow_154 : decode cX12_readRow 154 = .ok (.if_icmp .ge 13, 3) := by decide +kernel
theorem dX12_readRow_157 : decode cX12_readRow 157 = .ok (.aload_n 0, 1) := by decide +kernel
theorem dX12_readRow_158 : decode cX12_readRow 158 = .ok (.bipush 7, 2) := by decide +kernel
theorem dX12_readRow_160 : decode cX12_readRow 160 = .ok (.aload_n 0, 1) := by decide +kernel
theorem dX12_readRow_161 : decode cX12_readRow 161 = .ok (.getfield 126, 3) := by decide +kernel
theorem dX12_readRow_164 : decode cX12_readRow 164 = .ok (.invokevirtual 235, 3) := by decide +kernel
theorem dX12_readRow_167 : decode cX12_readRow 167 = .ok (.return_, 1) := by decide +kernel
theorem dX12_readCells_0 : decode cX12_readCells 0 = .ok (.iload_n 2, 1) := by decide +kernel
theorem dX12_readCells_1 : decode cX12_readCells 1 = .ok (.aload_n 0, 1) := by decide +kernel
theorem dX12_readCells_2 : decode cX12_readCells 2 = .ok (.getfield 35, 3) := by decide +kernel
theorem dX12_readCells_5 : decode cX12_readCells 5 = .ok (.sipush 1649, 3) := by decide +kernel
theorem dX12_readCells_8 : decode cX12_readCells 8 = .ok (.iaload, 1) := by decide +kernel
theorem dX12_readCells_9 : decode cX12_readCells 9 = .ok (.if_icmp .ne 13, 3) := by decide +kernel
theorem dX12_readCells_12 : decode cX12_readCells 12 = .ok (.aload_n 0, 1) := by decide +kernel
theorem dX12_readCells_13 : decode cX12_readCells 13 = .ok (.bipush 6, 2) := by decide +kernel
theorem dX12_readCells_15 : decode cX12_readCells 15 = .ok (.aload_n 0, 1) := by decide +kernel
theorem dX12_readCells_16 : decode cX12_readCells 16 = .ok (.getfield 126, 3) := by decide +kernel
theorem dX12_readCells_19 : decode cX12_readCells 19 = .ok (.invokevirtual 235, 3) := by decide +kernel
theorem dX12_readCells_22 : decode cX12_readCells 22 = .ok (.aload_n 0, 1) := by decide +kernel
theorem dX12_readCells_23 : decode cX12_readCells 23 = .ok (.getfield 229, 3) := by decide +kernel
theorem dX12_readCells_26 : decode cX12_readCells 26 = .ok (.ifCond .le 5, 3) := by decide +kernel
theorem dX12_readCells_29 : decode cX12_readCells 29 = .ok (.iload_n 2, 1) := by decide +kernel
theorem dX12_readCells_30 : decode cX12_readCells 30 = .ok (.ireturn, 1) := by decide +kernel
theorem dX12_readCells_31 : decode cX12_readCells 31 = .ok (.aload_n 0, 1) := by decide +kernel
theorem dX12_readCells_32 : decode cX12_readCells 32 = .ok (.iload_n 1, 1) := by decide +kernel
theorem dX12_readCells_33 : decode cX12_readCells 33 = .ok (.aload_n 0, 1) := by decide +kernel
theorem dX12_readCells_34 : decode cX12_readCells 34 = .ok (.getfield 35, 3) := by decide +kernel
theorem dX12_readCells_37 : decode cX12_readCells 37 = .ok (.sipush 1648, 3) := by decide +kernel
theorem dX12_readCells_40 : decode cX12_readCells 40 = .ok (.iaload, 1) := by decide +kernel
theorem dX12_readCells_41 : decode cX12_readCells 41 = .ok (.iload_n 2, 1) := by decide +kernel
theorem dX12_readCells_42 : decode cX12_readCells 42 = .ok (.imul, 1) := by decide +kernel
theorem dX12_readCells_43 : decode cX12_readCells 43 = .ok (.iadd, 1) := by decide +kernel
theorem dX12_readCells_44 : decode cX12_readCells 44 = .ok (.aload_n 0, 1) := by decide +kernel
theorem dX12_readCells_45 : decode cX12_readCells 45 = .ok (.getfield 35, 3) := by decide +kernel
theorem dX12_readCells_48 : decode cX12_readCells 48 = .ok (.sipush 1648, 3) := by decide +kernel
theorem dX12_readCells_51 : decode cX12_readCells 51 = .ok (.iaload, 1) := by decide +kernel
theorem dX12_readCells_52 : decode cX12_readCells 52 = .ok (.iload_n 3, 1) := by decide +kernel
theorem dX12_readCells_53 : decode cX12_readCells 53 = .ok (.iload 4, 2) := by decide +kernel
theorem dX12_readCells_55 : decode cX12_readCells 55 = .ok (.invokevirtual 255, 3) := by decide +kernel
theorem dX12_readCells_58 : decode cX12_readCells 58 = .ok (.iload_n 2, 1) := by decide +kernel
theorem dX12_readCells_59 : decode cX12_readCells 59 = .ok (.iconst 1, 1) := by decide +kernel
theorem dX12_readCells_60 : decode cX12_readCells 60 = .ok (.iadd, 1) := by decide +kernel
theorem dX12_readCells_61 : decode cX12_readCells 61 = .ok (.ireturn, 1) := by decide +kernel
theorem dX12_named_0 : decode cX12_named 0 = .ok (.iconst 0, 1) := by decide +kernel
theorem dX12_named_1 : decode cX12_named 1 = .ok (.istore_n 3, 1) := by decide +kernel
theorem dX12_named_2 : decode cX12_named 2 = .ok (.iload_n 3, 1) := by decide +kernel
theorem dX12_named_3 : decode cX12_named 3 = .ok (.iload_n 2, 1) := by decide +kernel
theorem dX12_named_4 : decode cX12_named 4 = .ok (.if_icmp .ge 30, 3) := by decide +kernel
theorem dX12_named_7 : decode cX12_named 7 = .ok (.aload_n 0, 1) := by decide +kernel
theorem dX12_named_8 : decode cX12_named 8 = .ok (.getfield 38, 3) := by decide +kernel
theorem dX12_named_11 : decode cX12_named 11 = .ok (.bipush 6, 2) := by decide +kernel
theorem dX12_named_13 : decode cX12_named 13 = .ok (.iload_n 1, 1) := by decide +kernel
theorem dX12_named_14 : decode cX12_named 14 = .ok (.imul, 1) := by decide +kernel
theorem dX12_named_15 : decode cX12_named 15 = .ok (.iload_n 3, 1) := by decide +kernel
theorem dX12_named_16 : decode cX12_named 16 = .ok (.iadd, 1) := by decide +kernel
theorem dX12_named_17 : decode cX12_named 17 = .ok (.laload, 1) := by decide +kernel
theorem dX12_named_18 : decode cX12_named 18 = .ok (.aload_n 0, 1) := by decide +kernel
theorem dX12_named_19 : decode cX12_named 19 = .ok (.getfield 138, 3) := by decide +kernel
theorem dX12_named_22 : decode cX12_named 22 = .ok (.lcmp, 1) := by decide +kernel
theorem dX12_named_23 : decode cX12_named 23 = .ok (.ifCond .ne 5, 3) := by decide +kernel
theorem dX12_named_26 : decode cX12_named 26 = .ok (.iload_n 3, 1) := by decide +kernel
theorem dX12_named_27 : decode cX12_named 27 = .ok (.ireturn, 1) := by decide +kernel
theorem dX12_named_28 : decode cX12_named 28 = .ok (.iinc 3 1, 3) := by decide +kernel
theorem dX12_named_31 : decode cX12_named 31 = .ok (.goto (-29), 3) := by decide +kernel
theorem dX12_named_34 : decode cX12_named 34 = .ok (.iconst (-1), 1) := by decide +kernel
theorem dX12_named_35 : decode cX12_named 35 = .ok (.ireturn, 1) := by decide +kernel
theorem dX12_stripsOf_0 : decode cX12_stripsOf 0 = .ok (.iload_n 1, 1) := by decide +kernel
theorem dX12_stripsOf_1 : decode cX12_stripsOf 1 = .ok (.iconst 2, 1) := by decide +kernel
theorem dX12_stripsOf_2 : decode cX12_stripsOf 2 = .ok (.irem, 1) := by decide +kernel
theorem dX12_stripsOf_3 : decode cX12_stripsOf 3 = .ok (.iconst 1, 1) := by decide +kernel
theorem dX12_stripsOf_4 : decode cX12_stripsOf 4 = .ok (.if_icmp .ne 11, 3) := by decide +kernel
theorem dX12_stripsOf_7 : decode cX12_stripsOf 7 = .ok (.iload_n 2, 1) := by decide +kernel
theorem dX12_stripsOf_8 : decode cX12_stripsOf 8 = .ok (.iload_n 3, 1) := by decide +kernel
theorem dX12_stripsOf_9 : decode cX12_stripsOf 9 = .ok (.iadd, 1) := by decide +kernel
theorem dX12_stripsOf_10 : decode cX12_stripsOf 10 = .ok (.iconst 1, 1) := by decide +kernel
theorem dX12_stripsOf_11 : decode cX12_stripsOf 11 = .ok (.isub, 1) := by decide +kernel
theorem dX12_stripsOf_12 : decode cX12_stripsOf 12 = .ok (.goto 14, 3) := by decide +kernel
theorem dX12_stripsOf_15 : decode cX12_stripsOf 15 = .ok (.iload_n 1, 1) := by decide +kernel
theorem dX12_stripsOf_16 : decode cX12_stripsOf 16 = .ok (.iconst 4, 1) := by decide +kernel
theorem dX12_stripsOf_17 : decode cX12_stripsOf 17 = .ok (.irem, 1) := by decide +kernel
theorem dX12_stripsOf_18 : decode cX12_stripsOf 18 = .ok (.ifCond .ne 7, 3) := by decide +kernel
theorem dX12_stripsOf_21 : decode cX12_stripsOf 21 = .ok (.iload_n 2, 1) := by decide +kernel
theorem dX12_stripsOf_22 : decode cX12_stripsOf 22 = .ok (.goto 4, 3) := by decide +kernel
theorem dX12_stripsOf_25 : decode cX12_stripsOf 25 = .ok (.iload_n 3, 1) := by decide +kernel
theorem dX12_stripsOf_26 : decode cX12_stripsOf 26 = .ok (.ireturn, 1) := by decide +kernel
theorem dX12_readVillage_0 : decode cX12_readVillage 0 = .ok (.aload_n 0, 1) := by decide +kernel
theorem dX12_readVillage_1 : decode cX12_readVillage 1 = .ok (.getfield 35, 3) := by decide +kernel
theorem dX12_readVillage_4 : decode cX12_readVillage 4 = .ok (.sipush 1650, 3) := by decide +kernel
theorem dX12_readVillage_7 : decode cX12_readVillage 7 = .ok (.iaload, 1) := by decide +kernel
theorem dX12_readVillage_8 : decode cX12_readVillage 8 = .ok (.istore_n 1, 1) := by decide +kernel
theorem dX12_readVillage_9 : decode cX12_readVillage 9 = .ok (.iload_n 1, 1) := by decide +kernel
theorem dX12_readVillage_10 : decode cX12_readVillage 10 = .ok (.bipush 6, 2) := by decide +kernel
theorem dX12_readVillage_12 : decode cX12_readVillage 12 = .ok (.if_icmp .ne 13, 3) := by decide +kernel
theorem dX12_readVillage_15 : decode cX12_readVillage 15 = .ok (.aload_n 0, 1) := by decide +kernel
theorem dX12_readVillage_16 : decode cX12_readVillage 16 = .ok (.bipush 6, 2) := by decide +kernel
theorem dX12_readVillage_18 : decode cX12_readVillage 18 = .ok (.aload_n 0, 1) := by decide +kernel
theorem dX12_readVillage_19 : decode cX12_readVillage 19 = .ok (.getfield 126, 3) := by decide +kernel
theorem dX12_readVillage_22 : decode cX12_readVillage 22 = .ok (.invokevirtual 235, 3) := by decide +kernel
theorem dX12_readVillage_25 : decode cX12_readVillage 25 = .ok (.aload_n 0, 1) := by decide +kernel
theorem dX12_readVillage_26 : decode cX12_readVillage 26 = .ok (.getfield 229, 3) := by decide +kernel
theorem dX12_readVillage_29 : decode cX12_readVillage 29 = .ok (.ifCond .le 4, 3) := by decide +kernel
theorem dX12_readVillage_32 : decode cX12_readVillage 32 = .ok (.return_, 1) := by decide +kernel
theorem dX12_readVillage_33 : decode cX12_readVillage 33 = .ok (.aload_n 0, 1) := by decide +kernel
theorem dX12_readVillage_34 : decode cX12_readVillage 34 = .ok (.invokevirtual 239, 3) := by decide +kernel
theorem dX12_readVillage_37 : decode cX12_readVillage 37 = .ok (.aload_n 0, 1) := by decide +kernel
theorem dX12_readVillage_38 : decode cX12_readVillage 38 = .ok (.invokevirtual 259, 3) := by decide +kernel
theorem dX12_readVillage_41 : decode cX12_readVillage 41 = .ok (.ifCond .ne 7, 3) := by decide +kernel
theorem dX12_readVillage_44 : decode cX12_readVillage 44 = .ok (.aload_n 0, 1) := by decide +kernel
theorem dX12_readVillage_45 : decode cX12_readVillage 45 = .ok (.invokevirtual 242, 3) := by decide +kernel
theorem dX12_readVillage_48 : decode cX12_readVillage 48 = .ok (.aload_n 0, 1) := by decide +kernel
theorem dX12_readVillage_49 : decode cX12_readVillage 49 = .ok (.getfield 229, 3) := by decide +kernel
theorem dX12_readVillage_52 : decode cX12_readVillage 52 = .ok (.ifCond .ne 21, 3) := by decide +kernel
theorem dX12_readVillage_55 : decode cX12_readVillage 55 = .ok (.aload_n 0, 1) := by decide +kernel
theorem dX12_readVillage_56 : decode cX12_readVillage 56 = .ok (.iconst 4, 1) := by decide +kernel
theorem dX12_readVillage_57 : decode cX12_readVillage 57 = .ok (.iload_n 1, 1) := by decide +kernel
theorem dX12_readVillage_58 : decode cX12_readVillage 58 = .ok (.invokevirtual 262, 3) := by decide +kernel
theorem dX12_readVillage_61 : decode cX12_readVillage 61 = .ok (.ifCond .lt 12, 3) := by decide +kernel
theorem dX12_readVillage_64 : decode cX12_readVillage 64 = .ok (.aload_n 0, 1) := by decide +kernel
theorem dX12_readVillage_65 : decode cX12_readVillage 65 = .ok (.iconst 3, 1) := by decide +kernel
theorem dX12_readVillage_66 : decode cX12_readVillage 66 = .ok (.aload_n 0, 1) := by decide +kernel
theorem dX12_readVillage_67 : decode cX12_readVillage 67 = .ok (.getfield 126, 3) := by decide +kernel
theorem dX12_readVillage_70 : decode cX12_readVillage 70 = .ok (.invokevirtual 235, 3) := by decide +kernel
theorem dX12_readVillage_73 : decode cX12_readVillage 73 = .ok (.aload_n 0, 1) := by decide +kernel
theorem dX12_readVillage_74 : decode cX12_readVillage 74 = .ok (.getfield 229, 3) := by decide +kernel
theorem dX12_readVillage_77 : decode cX12_readVillage 77 = .ok (.ifCond .le 4, 3) := by decide +kernel
theorem dX12_readVillage_80 : decode cX12_readVillage 80 = .ok (.return_, 1) := by decide +kernel
theorem dX12_readVillage_81 : decode cX12_readVillage 81 = .ok (.aload_n 0, 1) := by decide +kernel
theorem dX12_readVillage_82 : decode cX12_readVillage 82 = .ok (.getfield 38, 3) := by decide +kernel
theorem dX12_readVillage_85 : decode cX12_readVillage 85 = .ok (.bipush 24, 2) := by decide +kernel
theorem dX12_readVillage_87 : decode cX12_readVillage 87 = .ok (.iload_n 1, 1) := by decide +kernel
theorem dX12_readVillage_88 : decode cX12_readVillage 88 = .ok (.iadd, 1) := by decide +kernel
theorem dX12_readVillage_89 : decode cX12_readVillage 89 = .ok (.aload_n 0, 1) := by decide +kernel
theorem dX12_readVillage_90 : decode cX12_readVillage 90 = .ok (.getfield 138, 3) := by decide +kernel
theorem dX12_readVillage_93 : decode cX12_readVillage 93 = .ok (.lastore, 1) := by decide +kernel
theorem dX12_readVillage_94 : decode cX12_readVillage 94 = .ok (.aload_n 0, 1) := by decide +kernel
theorem dX12_readVillage_95 : decode cX12_readVillage 95 = .ok (.invokevirtual 239, 3) := by decide +kernel
theorem dX12_readVillage_98 : decode cX12_readVillage 98 = .ok (.aload_n 0, 1) := by decide +kernel
theorem dX12_readVillage_99 : decode cX12_readVillage 99 = .ok (.invokevirtual 167, 3) := by decide +kernel
theorem dX12_readVillage_102 : decode cX12_readVillage 102 = .ok (.istore_n 2, 1) := by decide +kernel
theorem dX12_readVillage_103 : decode cX12_readVillage 103 = .ok (.aload_n 0, 1) := by decide +kernel
theorem dX12_readVillage_104 : decode cX12_readVillage 104 = .ok (.iload_n 2, 1) := by decide +kernel
theorem dX12_readVillage_105 : decode cX12_readVillage 105 = .ok (.ifCond .lt 7, 3) := by decide +kernel
theorem dX12_readVillage_108 : decode cX12_readVillage 108 = .ok (.iconst 1, 1) := by decide +kernel
theorem dX12_readVillage_109 : decode cX12_readVillage 109 = .ok (.goto 4, 3) := by decide +kernel
theorem dX12_readVillage_112 : decode cX12_readVillage 112 = .ok (.iconst 0, 1) := by decide +kernel
theorem dX12_readVillage_113 : decode cX12_readVillage 113 = .ok (.invokevirtual 265, 3) := by decide +kernel
theorem dX12_readVillage_116 : decode cX12_readVillage 116 = .ok (.aload_n 0, 1) := by decide +kernel
theorem dX12_readVillage_117 : decode cX12_readVillage 117 = .ok (.getfield 229, 3) := by decide +kernel
theorem dX12_readVillage_120 : decode cX12_readVillage 120 = .ok (.ifCond .le 4, 3) := by decide +kernel
theorem dX12_readVillage_123 : decode cX12_readVillage 123 = .ok (.return_, 1) := by decide +kernel
theorem dX12_readVillage_124 : decode cX12_readVillage 124 = .ok (.aload_n 0, 1) := by decide +kernel
theorem dX12_readVillage_125 : decode cX12_readVillage 125 = .ok (.getfield 35, 3) := by decide +kernel
theorem dX12_readVillage_128 : decode cX12_readVillage 128 = .ok (.sipush 1726, 3) := by decide +kernel
theorem dX12_readVillage_131 : decode cX12_readVillage 131 = .ok (.iload_n 1, 1) := by decide +kernel
theorem dX12_readVillage_132 : decode cX12_readVillage 132 = .ok (.iadd, 1) := by decide +kernel
theorem dX12_readVillage_133 : decode cX12_readVillage 133 = .ok (.iload_n 2, 1) := by decide +kernel
theorem dX12_readVillage_134 : decode cX12_readVillage 134 = .ok (.iastore, 1) := by decide +kernel
theorem dX12_readVillage_135 : decode cX12_readVillage 135 = .ok (.aload_n 0, 1) := by decide +kernel
theorem dX12_readVillage_136 : decode cX12_readVillage 136 = .ok (.getfield 35, 3) := by decide +kernel
theorem dX12_readVillage_139 : decode cX12_readVillage 139 = .ok (.sipush 1732, 3) := by decide +kernel
theorem dX12_readVillage_142 : decode cX12_readVillage 142 = .ok (.iload_n 1, 1) := by decide +kernel
theorem dX12_readVillage_143 : decode cX12_readVillage 143 = .ok (.iadd, 1) := by decide +kernel
theorem dX12_readVillage_144 : decode cX12_readVillage 144 = .ok (.aload_n 0, 1) := by decide +kernel
theorem dX12_readVillage_145 : decode cX12_readVillage 145 = .ok (.invokevirtual 187, 3) := by decide +kernel
theorem dX12_readVillage_148 : decode cX12_readVillage 148 = .ok (.ifCond .eq 7, 3) := by decide +kernel
theorem dX12_readVillage_151 : decode cX12_readVillage 151 = .ok (.iconst 1, 1) := by decide +kernel
theorem dX12_readVillage_152 : decode cX12_readVillage 152 = .ok (.goto 4, 3) := by decide +kernel
theorem dX12_readVillage_155 : decode cX12_readVillage 155 = .ok (.iconst 0, 1) := by decide +kernel
theorem dX12_readVillage_156 : decode cX12_readVillage 156 = .ok (.iastore, 1) := by decide +kernel
theorem dX12_readVillage_157 : decode cX12_readVillage 157 = .ok (.aload_n 0, 1) := by decide +kernel
theorem dX12_readVillage_158 : decode cX12_readVillage 158 = .ok (.invokevirtual 187, 3) := by decide +kernel
theorem dX12_readVillage_161 : decode cX12_readVillage 161 = .ok (.ifCond .eq 39, 3) := by decide +kernel
theorem dX12_readVillage_164 : decode cX12_readVillage 164 = .ok (.aload_n 0, 1) := by decide +kernel
theorem dX12_readVillage_165 : decode cX12_readVillage 165 = .ok (.sipush 1738, 3) := by decide +kernel
theorem dX12_readVillage_168 : decode cX12_readVillage 168 = .ok (.bipush 9, 2) := by decide +kernel
theorem dX12_readVillage_170 : decode cX12_readVillage 170 = .ok (.iload_n 1, 1) := by decide +kernel
theorem dX12_readVillage_171 : decode cX12_readVillage 171 = .ok (.imul, 1) := by decide +kernel
theorem dX12_readVillage_172 : decode cX12_readVillage 172 = .ok (.iadd, 1) := by decide +kernel
theorem dX12_readVillage_173 : decode cX12_readVillage 173 = .ok (.aload_n 0, 1) := by decide +kernel
theorem dX12_readVillage_174 : decode cX12_readVillage 174 = .ok (.iload_n 2, 1) := by decide +kernel
theorem dX12_readVillage_175 : decode cX12_readVillage 175 = .ok (.aload_n 0, 1) := by decide +kernel
theorem dX12_readVillage_176 : decode cX12_readVillage 176 = .ok (.getfield 35, 3) := by decide +kernel
theorem dX12_readVillage_179 : decode cX12_readVillage 179 = .ok (.sipush 1648, 3) := by decide +kernel
theorem dX12_readVillage_182 : decode cX12_readVillage 182 = .ok (.iaload, 1) := by decide +kernel
theorem dX12_readVillage_183 : decode cX12_readVillage 183 = .ok (.aload_n 0, 1) := by decide +kernel
theorem dX12_readVillage_184 : decode cX12_readVillage 184 = .ok (.getfield 35, 3) := by decide +kernel
theorem dX12_readVillage_187 : decode cX12_readVillage 187 = .ok (.sipush 1649, 3) := by decide +kernel
theorem dX12_readVillage_190 : decode cX12_readVillage 190 = .ok (.iaload, 1) := by decide +kernel
theorem dX12_readVillage_191 : decode cX12_readVillage 191 = .ok (.invokevirtual 269, 3) := by decide +kernel
theorem dX12_readVillage_194 : decode cX12_readVillage 194 = .ok (.iconst 0, 1) := by decide +kernel
theorem dX12_readVillage_195 : decode cX12_readVillage 195 = .ok (.bipush 99, 2) := by decide +kernel
theorem dX12_readVillage_197 : decode cX12_readVillage 197 = .ok (.invokevirtual 255, 3) := by decide +kernel
theorem dX12_readVillage_200 : decode cX12_readVillage 200 = .ok (.aload_n 0, 1) := by decide +kernel
theorem dX12_readVillage_201 : decode cX12_readVillage 201 = .ok (.getfield 229, 3) := by decide +kernel
theorem dX12_readVillage_204 : decode cX12_readVillage 204 = .ok (.ifCond .ne 15, 3) := by decide +kernel
theorem dX12_readVillage_207 : decode cX12_readVillage 207 = .ok (.aload_n 0, 1) := by decide +kernel
theorem dX12_readVillage_208 : decode cX12_readVillage 208 = .ok (.getfield 35, 3) := by decide +kernel
theorem dX12_readVillage_211 : decode cX12_readVillage 211 = .ok (.sipush 1650, 3) := by decide +kernel
theorem dX12_readVillage_214 : decode cX12_readVillage 214 = .ok (.dup2, 1) := by decide +kernel
theorem dX12_readVillage_215 : decode cX12_readVillage 215 = .ok (.iaload, 1) := by decide +kernel
theorem dX12_readVillage_216 : decode cX12_readVillage 216 = .ok (.iconst 1, 1) := by decide +kernel
theorem dX12_readVillage_217 : decode cX12_readVillage 217 = .ok (.iadd, 1) := by decide +kernel
theorem dX12_readVillage_218 : decode cX12_readVillage 218 = .ok (.iastore, 1) := by decide +kernel
theorem dX12_readVillage_219 : decode cX12_readVillage 219 = .ok (.return_, 1) := by decide +kernel
theorem dX12_plain_0 : decode cX12_plain 0 = .ok (.aload_n 0, 1) := by decide +kernel
theorem dX12_plain_1 : decode cX12_plain 1 = .ok (.iconst 0, 1) := by decide +kernel
theorem dX12_plain_2 : decode cX12_plain 2 = .ok (.putfield 81, 3) := by decide +kernel
theorem dX12_plain_5 : decode cX12_plain 5 = .ok (.aload_n 0, 1) := by decide +kernel
theorem dX12_plain_6 : decode cX12_plain 6 = .ok (.iconst 0, 1) := by decide +kernel
theorem dX12_plain_7 : decode cX12_plain 7 = .ok (.putfield 84, 3) := by decide +kernel
theorem dX12_plain_10 : decode cX12_plain 10 = .ok (.aload_n 0, 1) := by decide +kernel
theorem dX12_plain_11 : decode cX12_plain 11 = .ok (.iload_n 1, 1) := by decide +kernel
theorem dX12_plain_12 : decode cX12_plain 12 = .ok (.sipush 900, 3) := by decide +kernel
theorem dX12_plain_15 : decode cX12_plain 15 = .ok (.invokevirtual 273, 3) := by decide +kernel
theorem dX12_plain_18 : decode cX12_plain 18 = .ok (.ifCond .ne 5, 3) := by decide +kernel
theorem dX12_plain_21 : decode cX12_plain 21 = .ok (.iconst (-1), 1) := by decide +kernel
theorem dX12_plain_22 : decode cX12_plain 22 = .ok (.ireturn, 1) := by decide +kernel
theorem dX12_plain_23 : decode cX12_plain 23 = .ok (.iconst 0, 1) := by decide +kernel
theorem dX12_plain_24 : decode cX12_plain 24 = .ok (.istore_n 2, 1) := by decide +kernel
theorem dX12_plain_25 : decode cX12_plain 25 = .ok (.iload_n 2, 1) := by decide +kernel
theorem dX12_plain_26 : decode cX12_plain 26 = .ok (.sipush 412, 3) := by decide +kernel
theorem dX12_plain_29 : decode cX12_plain 29 = .ok (.if_icmp .ge 57, 3) := by decide +kernel
theorem dX12_plain_32 : decode cX12_plain 32 = .ok (.aload_n 0, 1) := by decide +kernel
theorem dX12_plain_33 : decode cX12_plain 33 = .ok (.getfield 35, 3) := by decide +kernel
theorem dX12_plain_36 : decode cX12_plain 36 = .ok (.sipush 1648, 3) := by decide +kernel
theorem dX12_plain_39 : decode cX12_plain 39 = .ok (.iload_n 2, 1) := by decide +kernel
theorem dX12_plain_40 : decode cX12_plain 40 = .ok (.iadd, 1) := by decide +kernel
theorem dX12_plain_41 : decode cX12_plain 41 = .ok (.iload_n 2, 1) := by decide +kernel
theorem dX12_plain_42 : decode cX12_plain 42 = .ok (.i2l, 1) := by decide +kernel
theorem dX12_plain_43 : decode cX12_plain 43 = .ok (.ldc2_w 114, 3) := by decide +kernel
theorem dX12_plain_46 : decode cX12_plain 46 = .ok (.ldc2_w 277, 3) := by decide +kernel
theorem dX12_plain_49 : decode cX12_plain 49 = .ok (.invokestatic 116, 3) := by decide +kernel
theorem dX12_plain_52 : decode cX12_plain 52 = .ok (.ifCond .eq 8, 3) := by decide +kernel
theorem dX12_plain_55 : decode cX12_plain 55 = .ok (.bipush 99, 2) := by decide +kernel
theorem dX12_plain_57 : decode cX12_plain 57 = .ok (.goto 22, 3) := by decide +kernel
theorem dX12_plain_60 : decode cX12_plain 60 = .ok (.iload_n 2, 1) := by decide +kernel
theorem dX12_plain_61 : decode cX12_plain 61 = .ok (.i2l, 1) := by decide +kernel
theorem dX12_plain_62 : decode cX12_plain 62 = .ok (.ldc2_w 279, 3) := by decide +kernel
theorem dX12_plain_65 : decode cX12_plain 65 = .ok (.ldc2_w 281, 3) := by decide +kernel
theorem dX12_plain_68 : decode cX12_plain 68 = .ok (.invokestatic 116, 3) := by decide +kernel
theorem dX12_plain_71 : decode cX12_plain 71 = .ok (.ifCond .eq 7, 3) := by decide +kernel
theorem dX12_plain_74 : decode cX12_plain 74 = .ok (.iconst 1, 1) := by decide +kernel
theorem dX12_plain_75 : decode cX12_plain 75 = .ok (.goto 4, 3) := by decide +kernel
theorem dX12_plain_78 : decode cX12_plain 78 = .ok (.iconst 0, 1) := by decide +kernel
theorem dX12_plain_79 : decode cX12_plain 79 = .ok (.iastore, 1) := by decide +kernel
theorem dX12_plain_80 : decode cX12_plain 80 = .ok (.iinc 2 1, 3) := by decide +kernel
theorem dX12_plain_83 : decode cX12_plain 83 = .ok (.goto (-58), 3) := by decide +kernel
theorem dX12_plain_86 : decode cX12_plain 86 = .ok (.aload_n 0, 1) := by decide +kernel
theorem dX12_plain_87 : decode cX12_plain 87 = .ok (.iconst 0, 1) := by decide +kernel
theorem dX12_plain_88 : decode cX12_plain 88 = .ok (.putfield 283, 3) := by decide +kernel
theorem dX12_plain_91 : decode cX12_plain 91 = .ok (.aload_n 0, 1) := by decide +kernel
theorem dX12_plain_92 : decode cX12_plain 92 = .ok (.iconst 0, 1) := by decide +kernel
theorem dX12_plain_93 : decode cX12_plain 93 = .ok (.putfield 286, 3) := by decide +kernel
theorem dX12_plain_96 : decode cX12_plain 96 = .ok (.aload_n 0, 1) := by decide +kernel
theorem dX12_plain_97 : decode cX12_plain 97 = .ok (.iconst 0, 1) := by decide +kernel
theorem dX12_plain_98 : decode cX12_plain 98 = .ok (.putfield 289, 3) := by decide +kernel
theorem dX12_plain_101 : decode cX12_plain 101 = .ok (.aload_n 0, 1) := by decide +kernel
theorem dX12_plain_102 : decode cX12_plain 102 = .ok (.aload_n 0, 1) := by decide +kernel
theorem dX12_plain_103 : decode cX12_plain 103 = .ok (.invokevirtual 171, 3) := by decide +kernel
theorem dX12_plain_106 : decode cX12_plain 106 = .ok (.invokevirtual 265, 3) := by decide +kernel
theorem dX12_plain_109 : decode cX12_plain 109 = .ok (.aload_n 0, 1) := by decide +kernel
theorem dX12_plain_110 : decode cX12_plain 110 = .ok (.getfield 35, 3) := by decide +kernel
theorem dX12_plain_113 : decode cX12_plain 113 = .ok (.sipush 1648, 3) := by decide +kernel
theorem dX12_plain_116 : decode cX12_plain 116 = .ok (.aload_n 0, 1) := by decide +kernel
theorem dX12_plain_117 : decode cX12_plain 117 = .ok (.iconst 1, 1) := by decide +kernel
theorem dX12_plain_118 : decode cX12_plain 118 = .ok (.iconst 5, 1) := by decide +kernel
theorem dX12_plain_119 : decode cX12_plain 119 = .ok (.invokevirtual 292, 3) := by decide +kernel
theorem dX12_plain_122 : decode cX12_plain 122 = .ok (.iastore, 1) := by decide +kernel
theorem dX12_plain_123 : decode cX12_plain 123 = .ok (.aload_n 0, 1) := by decide +kernel
theorem dX12_plain_124 : decode cX12_plain 124 = .ok (.getfield 35, 3) := by decide +kernel
theorem dX12_plain_127 : decode cX12_plain 127 = .ok (.sipush 1649, 3) := by decide +kernel
theorem dX12_plain_130 : decode cX12_plain 130 = .ok (.aload_n 0, 1) := by decide +kernel
theorem dX12_plain_131 : decode cX12_plain 131 = .ok (.iconst 1, 1) := by decide +kernel
theorem dX12_plain_132 : decode cX12_plain 132 = .ok (.iconst 5, 1) := by decide +kernel
theorem dX12_plain_133 : decode cX12_plain 133 = .ok (.invokevirtual 292, 3) := by decide +kernel
theorem dX12_plain_136 : decode cX12_plain 136 = .ok (.iastore, 1) := by decide +kernel
theorem dX12_plain_137 : decode cX12_plain 137 = .ok (.aload_n 0, 1) := by decide +kernel
theorem dX12_plain_138 : decode cX12_plain 138 = .ok (.aload_n 0, 1) := by decide +kernel
theorem dX12_plain_139 : decode cX12_plain 139 = .ok (.bipush 59, 2) := by decide +kernel
theorem dX12_plain_141 : decode cX12_plain 141 = .ok (.invokevirtual 252, 3) := by decide +kernel
theorem dX12_plain_144 : decode cX12_plain 144 = .ok (.invokevirtual 265, 3) := by decide +kernel
theorem dX12_plain_147 : decode cX12_plain 147 = .ok (.aload_n 0, 1) := by decide +kernel
theorem dX12_plain_148 : decode cX12_plain 148 = .ok (.getfield 229, 3) := by decide +kernel
theorem dX12_plain_151 : decode cX12_plain 151 = .ok (.ifCond .ne 125, 3) := by decide +kernel
theorem dX12_plain_154 : decode cX12_plain 154 = .ok (.aload_n 0, 1) := by decide +kernel
theorem dX12_plain_155 : decode cX12_plain 155 = .ok (.getfield 132, 3) := by decide +kernel
theorem dX12_plain_158 : decode cX12_plain 158 = .ok (.ifCond .eq 118, 3) := by decide +kernel
theorem dX12_plain_161 : decode cX12_plain 161 = .ok (.aload_n 0, 1) := by decide +kernel
theorem dX12_plain_162 : decode cX12_plain 162 = .ok (.invokevirtual 175, 3) := by decide +kernel
theorem dX12_plain_165 : decode cX12_plain 165 = .ok (.ifCond .eq 24, 3) := by decide +kernel
theorem dX12_plain_168 : decode cX12_plain 168 = .ok (.aload_n 0, 1) := by decide +kernel
theorem dX12_plain_169 : decode cX12_plain 169 = .ok (.aload_n 0, 1) := by decide +kernel
theorem dX12_plain_170 : decode cX12_plain 170 = .ok (.sipush 1651, 3) := by decide +kernel
theorem dX12_plain_173 : decode cX12_plain 173 = .ok (.aload_n 0, 1) := by decide +kernel
theorem dX12_plain_174 : decode cX12_plain 174 = .ok (.getfield 283, 3) := by decide +kernel
theorem dX12_plain_177 : decode cX12_plain 177 = .ok (.iconst 0, 1) := by decide +kernel
theorem dX12_plain_178 : decode cX12_plain 178 = .ok (.bipush 99, 2) := by decide +kernel
theorem dX12_plain_180 : decode cX12_plain 180 = .ok (.invokevirtual 295, 3) := by decide +kernel
theorem dX12_plain_183 : decode cX12_plain 183 = .ok (.putfield 283, 3) := by decide +kernel
theorem dX12_plain_186 : decode cX12_plain 186 = .ok (.goto 77, 3) := by decide +kernel
theorem dX12_plain_189 : decode cX12_plain 189 = .ok (.aload_n 0, 1) := by decide +kernel
theorem dX12_plain_190 : decode cX12_plain 190 = .ok (.invokevirtual 178, 3) := by decide +kernel
theorem dX12_plain_193 : decode cX12_plain 193 = .ok (.ifCond .eq 24, 3) := by decide +kernel
theorem dX12_plain_196 : decode cX12_plain 196 = .ok (.aload_n 0, 1) := by decide +kernel
theorem dX12_plain_197 : decode cX12_plain 197 = .ok (.aload_n 0, 1) := by decide +kernel
theorem dX12_plain_198 : decode cX12_plain 198 = .ok (.sipush 1676, 3) := by decide +kernel
theorem dX12_plain_201 : decode cX12_plain 201 = .ok (.aload_n 0, 1) := by decide +kernel
theorem dX12_plain_202 : decode cX12_plain 202 = .ok (.getfield 286, 3) := by decide +kernel
theorem dX12_plain_205 : decode cX12_plain 205 = .ok (.iconst 0, 1) := by decide +kernel
theorem dX12_plain_206 : decode cX12_plain 206 = .ok (.bipush 99, 2) := by decide +kernel
theorem dX12_plain_208 : decode cX12_plain 208 = .ok (.invokevirtual 295, 3) := by decide +kernel
theorem dX12_plain_211 : decode cX12_plain 211 = .ok (.putfield 286, 3) := by decide +kernel
theorem dX12_plain_214 : decode cX12_plain 214 = .ok (.goto 49, 3) := by decide +kernel
theorem dX12_plain_217 : decode cX12_plain 217 = .ok (.aload_n 0, 1) := by decide +kernel
theorem dX12_plain_218 : decode cX12_plain 218 = .ok (.invokevirtual 181, 3) := by decide +kernel
theorem dX12_plain_221 : decode cX12_plain 221 = .ok (.ifCond .eq 24, 3) := by decide +kernel
theorem dX12_plain_224 : decode cX12_plain 224 = .ok (.aload_n 0, 1) := by decide +kernel
theorem dX12_plain_225 : decode cX12_plain 225 = .ok (.aload_n 0, 1) := by decide +kernel
theorem dX12_plain_226 : decode cX12_plain 226 = .ok (.sipush 1701, 3) := by decide +kernel
theorem dX12_plain_229 : decode cX12_plain 229 = .ok (.aload_n 0, 1) := by decide +kernel
theorem dX12_plain_230 : decode cX12_plain 230 = .ok (.getfield 289, 3) := by decide +kernel
theorem dX12_plain_233 : decode cX12_plain 233 = .ok (.iconst 1, 1) := by decide +kernel
theorem dX12_plain_234 : decode cX12_plain 234 = .ok (.bipush 99, 2) := by decide +kernel
theorem dX12_plain_236 : decode cX12_plain 236 = .ok (.invokevirtual 295, 3) := by decide +kernel
theorem dX12_plain_239 : decode cX12_plain 239 = .ok (.putfield 289, 3) := by decide +kernel
theorem dX12_plain_242 : decode cX12_plain 242 = .ok (.goto 21, 3) := by decide +kernel
theorem dX12_plain_245 : decode cX12_plain 245 = .ok (.aload_n 0, 1) := by decide +kernel
theorem dX12_plain_246 : decode cX12_plain 246 = .ok (.invokevirtual 184, 3) := by decide +kernel
theorem dX12_plain_249 : decode cX12_plain 249 = .ok (.ifCond .eq 10, 3) := by decide +kernel
theorem dX12_plain_252 : decode cX12_plain 252 = .ok (.aload_n 0, 1) := by decide +kernel
theorem dX12_plain_253 : decode cX12_plain 253 = .ok (.invokevirtual 299, 3) := by decide +kernel
theorem dX12_plain_256 : decode cX12_plain 256 = .ok (.goto 7, 3) := by decide +kernel
theorem dX12_plain_259 : decode cX12_plain 259 = .ok (.aload_n 0, 1) := by decide +kernel
theorem dX12_plain_260 : decode cX12_plain 260 = .ok (.invokevirtual 242, 3) := by decide +kernel
theorem dX12_plain_263 : decode cX12_plain 263 = .ok (.aload_n 0, 1) := by decide +kernel
theorem dX12_plain_264 : decode cX12_plain 264 = .ok (.aload_n 0, 1) := by decide +kernel
theorem dX12_plain_265 : decode cX12_plain 265 = .ok (.bipush 59, 2) := by decide +kernel
theorem dX12_plain_267 : decode cX12_plain 267 = .ok (.invokevirtual 252, 3) := by decide +kernel
theorem dX12_plain_270 : decode cX12_plain 270 = .ok (.invokevirtual 265, 3) := by decide +kernel
theorem dX12_plain_273 : decode cX12_plain 273 = .ok (.goto (-126), 3) := by decide +kernel
theorem dX12_plain_276 : decode cX12_plain 276 = .ok (.aload_n 0, 1) := by decide +kernel
theorem dX12_plain_277 : decode cX12_plain 277 = .ok (.invokevirtual 302, 3) := by decide +kernel
theorem dX12_plain_280 : decode cX12_plain 280 = .ok (.ifCond .ne 5, 3) := by decide +kernel
theorem dX12_plain_283 : decode cX12_plain 283 = .ok (.iconst (-1), 1) := by decide +kernel
theorem dX12_plain_284 : decode cX12_plain 284 = .ok (.ireturn, 1) := by decide +kernel
theorem dX12_plain_285 : decode cX12_plain 285 = .ok (.iconst 0, 1) := by decide +kernel
theorem dX12_plain_286 : decode cX12_plain 286 = .ok (.istore_n 2, 1) := by decide +kernel
theorem dX12_plain_287 : decode cX12_plain 287 = .ok (.iload_n 2, 1) := by decide +kernel
theorem dX12_plain_288 : decode cX12_plain 288 = .ok (.sipush 412, 3) := by decide +kernel
theorem dX12_plain_291 : decode cX12_plain 291 = .ok (.if_icmp .ge 25, 3) := by decide +kernel
theorem dX12_plain_294 : decode cX12_plain 294 = .ok (.aload_n 0, 1) := by decide +kernel
theorem dX12_plain_295 : decode cX12_plain 295 = .ok (.getfield 35, 3) := by decide +kernel
theorem dX12_plain_298 : decode cX12_plain 298 = .ok (.iload_n 2, 1) := by decide +kernel
theorem dX12_plain_299 : decode cX12_plain 299 = .ok (.aload_n 0, 1) := by decide +kernel
theorem dX12_plain_300 : decode cX12_plain 300 = .ok (.getfield 35, 3) := by decide +kernel
theorem dX12_plain_303 : decode cX12_plain 303 = .ok (.sipush 1648, 3) := by decide +kernel
theorem dX12_plain_306 : decode cX12_plain 306 = .ok (.iload_n 2, 1) := by decide +kernel
theorem dX12_plain_307 : decode cX12_plain 307 = .ok (.iadd, 1) := by decide +kernel
theorem dX12_plain_308 : decode cX12_plain 308 = .ok (.iaload, 1) := by decide +kernel
theorem dX12_plain_309 : decode cX12_plain 309 = .ok (.iastore, 1) := by decide +kernel
theorem dX12_plain_310 : decode cX12_plain 310 = .ok (.iinc 2 1, 3) := by decide +kernel
theorem dX12_plain_313 : decode cX12_plain 313 = .ok (.goto (-26), 3) := by decide +kernel
theorem dX12_plain_316 : decode cX12_plain 316 = .ok (.iconst 0, 1) := by decide +kernel
theorem dX12_plain_317 : decode cX12_plain 317 = .ok (.istore_n 2, 1) := by decide +kernel
theorem dX12_plain_318 : decode cX12_plain 318 = .ok (.iload_n 2, 1) := by decide +kernel
theorem dX12_plain_319 : decode cX12_plain 319 = .ok (.bipush 6, 2) := by decide +kernel
theorem dX12_plain_321 : decode cX12_plain 321 = .ok (.if_icmp .ge 24, 3) := by decide +kernel
theorem dX12_plain_324 : decode cX12_plain 324 = .ok (.aload_n 0, 1) := by decide +kernel
theorem dX12_plain_325 : decode cX12_plain 325 = .ok (.getfield 38, 3) := by decide +kernel
theorem dX12_plain_328 : decode cX12_plain 328 = .ok (.iload_n 2, 1) := by decide +kernel
theorem dX12_plain_329 : decode cX12_plain 329 = .ok (.aload_n 0, 1) := by decide +kernel
theorem dX12_plain_330 : decode cX12_plain 330 = .ok (.getfield 38, 3) := by decide +kernel
theorem dX12_plain_333 : decode cX12_plain 333 = .ok (.bipush 24, 2) := by decide +kernel
theorem dX12_plain_335 : decode cX12_plain 335 = .ok (.iload_n 2, 1) := by decide +kernel
theorem dX12_plain_336 : decode cX12_plain 336 = .ok (.iadd, 1) := by decide +kernel
theorem dX12_plain_337 : decode cX12_plain 337 = .ok (.laload, 1) := by decide +kernel
theorem dX12_plain_338 : decode cX12_plain 338 = .ok (.lastore, 1) := by decide +kernel
theorem dX12_plain_339 : decode cX12_plain 339 = .ok (.iinc 2 1, 3) := by decide +kernel
theorem dX12_plain_342 : decode cX12_plain 342 = .ok (.goto (-24), 3) := by decide +kernel
theorem dX12_plain_345 : decode cX12_plain 345 = .ok (.iconst 0, 1) := by decide +kernel
theorem dX12_plain_346 : decode cX12_plain 346 = .ok (.istore_n 2, 1) := by decide +kernel
theorem dX12_plain_347 : decode cX12_plain 347 = .ok (.iload_n 2, 1) := by decide +kernel
theorem dX12_plain_348 : decode cX12_plain 348 = .ok (.aload_n 0, 1) := by decide +kernel
theorem dX12_plain_349 : decode cX12_plain 349 = .ok (.invokevirtual 305, 3) := by decide +kernel
theorem dX12_plain_352 : decode cX12_plain 352 = .ok (.if_icmp .ge 28, 3) := by decide +kernel
theorem dX12_plain_355 : decode cX12_plain 355 = .ok (.aload_n 0, 1) := by decide +kernel
theorem dX12_plain_356 : decode cX12_plain 356 = .ok (.getfield 35, 3) := by decide +kernel
theorem dX12_plain_359 : decode cX12_plain 359 = .ok (.sipush 144, 3) := by decide +kernel
theorem dX12_plain_362 : decode cX12_plain 362 = .ok (.iload_n 2, 1) := by decide +kernel
theorem dX12_plain_363 : decode cX12_plain 363 = .ok (.iadd, 1) := by decide +kernel
theorem dX12_plain_364 : decode cX12_plain 364 = .ok (.aload_n 0, 1) := by decide +kernel
theorem dX12_plain_365 : decode cX12_plain 365 = .ok (.getfield 35, 3) := by decide +kernel
theorem dX12_plain_368 : decode cX12_plain 368 = .ok (.bipush 28, 2) := by decide +kernel
theorem dX12_plain_370 : decode cX12_plain 370 = .ok (.iload_n 2, 1) := by decide +kernel
theorem dX12_plain_371 : decode cX12_plain 371 = .ok (.iadd, 1) := by decide +kernel
theorem dX12_plain_372 : decode cX12_plain 372 = .ok (.iaload, 1) := by decide +kernel
theorem dX12_plain_373 : decode cX12_plain 373 = .ok (.iastore, 1) := by decide +kernel
theorem dX12_plain_374 : decode cX12_plain 374 = .ok (.iinc 2 1, 3) := by decide +kernel
theorem dX12_plain_377 : decode cX12_plain 377 = .ok (.goto (-30), 3) := by decide +kernel
theorem dX12_plain_380 : decode cX12_plain 380 = .ok (.aload_n 0, 1) := by decide +kernel
theorem dX12_plain_381 : decode cX12_plain 381 = .ok (.invokevirtual 305, 3) := by decide +kernel
theorem dX12_plain_384 : decode cX12_plain 384 = .ok (.ireturn, 1) := by decide +kernel
theorem dX12_cells_0 : decode cX12_cells 0 = .ok (.aload_n 0, 1) := by decide +kernel
theorem dX12_cells_1 : decode cX12_cells 1 = .ok (.getfield 35, 3) := by decide +kernel
theorem dX12_cells_4 : decode cX12_cells 4 = .ok (.iconst 0, 1) := by decide +kernel
theorem dX12_cells_5 : decode cX12_cells 5 = .ok (.iaload, 1) := by decide +kernel
theorem dX12_cells_6 : decode cX12_cells 6 = .ok (.aload_n 0, 1) := by decide +kernel
theorem dX12_cells_7 : decode cX12_cells 7 = .ok (.getfield 35, 3) := by decide +kernel
theorem dX12_cells_10 : decode cX12_cells 10 = .ok (.iconst 1, 1) := by decide +kernel
theorem dX12_cells_11 : decode cX12_cells 11 = .ok (.iaload, 1) := by decide +kernel
theorem dX12_cells_12 : decode cX12_cells 12 = .ok (.imul, 1) := by decide +kernel
theorem dX12_cells_13 : decode cX12_cells 13 = .ok (.ireturn, 1) := by decide +kernel
theorem dX12_isCell_0 : decode cX12_isCell 0 = .ok (.iload_n 1, 1) := by decide +kernel
theorem dX12_isCell_1 : decode cX12_isCell 1 = .ok (.i2l, 1) := by decide +kernel
theorem dX12_isCell_2 : decode cX12_isCell 2 = .ok (.lconst 0, 1) := by decide +kernel
theorem dX12_isCell_3 : decode cX12_isCell 3 = .ok (.aload_n 0, 1) := by decide +kernel
theorem dX12_isCell_4 : decode cX12_isCell 4 = .ok (.invokevirtual 305, 3) := by decide +kernel
theorem dX12_isCell_7 : decode cX12_isCell 7 = .ok (.iconst 1, 1) := by decide +kernel
theorem dX12_isCell_8 : decode cX12_isCell 8 = .ok (.isub, 1) := by decide +kernel
theorem dX12_isCell_9 : decode cX12_isCell 9 = .ok (.i2l, 1) := by decide +kernel
theorem dX12_isCell_10 : decode cX12_isCell 10 = .ok (.invokestatic 116, 3) := by decide +kernel
theorem dX12_isCell_13 : decode cX12_isCell 13 = .ok (.ireturn, 1) := by decide +kernel
theorem dX12_isVillage_0 : decode cX12_isVillage 0 = .ok (.iload_n 1, 1) := by decide +kernel
theorem dX12_isVillage_1 : decode cX12_isVillage 1 = .ok (.i2l, 1) := by decide +kernel
theorem dX12_isVillage_2 : decode cX12_isVillage 2 = .ok (.lconst 0, 1) := by decide +kernel
theorem dX12_isVillage_3 : decode cX12_isVillage 3 = .ok (.aload_n 0, 1) := by decide +kernel
theorem dX12_isVillage_4 : decode cX12_isVillage 4 = .ok (.getfield 35, 3) := by decide +kernel
theorem dX12_isVillage_7 : decode cX12_isVillage 7 = .ok (.iconst 2, 1) := by decide +kernel
theorem dX12_isVillage_8 : decode cX12_isVillage 8 = .ok (.iaload, 1) := by decide +kernel
theorem dX12_isVillage_9 : decode cX12_isVillage 9 = .ok (.iconst 1, 1) := by decide +kernel
theorem dX12_isVillage_10 : decode cX12_isVillage 10 = .ok (.isub, 1) := by decide +kernel
theorem dX12_isVillage_11 : decode cX12_isVillage 11 = .ok (.i2l, 1) := by decide +kernel
theorem dX12_isVillage_12 : decode cX12_isVillage 12 = .ok (.invokestatic 116, 3) := by decide +kernel
theorem dX12_isVillage_15 : decode cX12_isVillage 15 = .ok (.ireturn, 1) := by decide +kernel
theorem dX12_strips_0 : decode cX12_strips 0 = .ok (.aload_n 0, 1) := by decide +kernel
theorem dX12_strips_1 : decode cX12_strips 1 = .ok (.aload_n 0, 1) := by decide +kernel
theorem dX12_strips_2 : decode cX12_strips 2 = .ok (.getfield 35, 3) := by decide +kernel
theorem dX12_strips_5 : decode cX12_strips 5 = .ok (.bipush 78, 2) := by decide +kernel
theorem dX12_strips_7 : decode cX12_strips 7 = .ok (.iload_n 1, 1) := by decide +kernel
theorem dX12_strips_8 : decode cX12_strips 8 = .ok (.iadd, 1) := by decide +kernel
theorem dX12_strips_9 : decode cX12_strips 9 = .ok (.iaload, 1) := by decide +kernel
theorem dX12_strips_10 : decode cX12_strips 10 = .ok (.aload_n 0, 1) := by decide +kernel
theorem dX12_strips_11 : decode cX12_strips 11 = .ok (.getfield 35, 3) := by decide +kernel
theorem dX12_strips_14 : decode cX12_strips 14 = .ok (.iconst 0, 1) := by decide +kernel
theorem dX12_strips_15 : decode cX12_strips 15 = .ok (.iaload, 1) := by decide +kernel
theorem dX12_strips_16 : decode cX12_strips 16 = .ok (.aload_n 0, 1) := by decide +kernel
theorem dX12_strips_17 : decode cX12_strips 17 = .ok (.getfield 35, 3) := by decide +kernel
theorem dX12_strips_20 : decode cX12_strips 20 = .ok (.iconst 1, 1) := by decide +kernel
theorem dX12_strips_21 : decode cX12_strips 21 = .ok (.iaload, 1) := by decide +kernel
theorem dX12_strips_22 : decode cX12_strips 22 = .ok (.invokevirtual 269, 3) := by decide +kernel
theorem dX12_strips_25 : decode cX12_strips 25 = .ok (.ireturn, 1) := by decide +kernel
theorem dX12_isStrip_0 : decode cX12_isStrip 0 = .ok (.aload_n 0, 1) := by decide +kernel
theorem dX12_isStrip_1 : decode cX12_isStrip 1 = .ok (.iload_n 1, 1) := by decide +kernel
theorem dX12_isStrip_2 : decode cX12_isStrip 2 = .ok (.invokevirtual 308, 3) := by decide +kernel
theorem dX12_isStrip_5 : decode cX12_isStrip 5 = .ok (.ifCond .eq 24, 3) := by decide +kernel
theorem dX12_isStrip_8 : decode cX12_isStrip 8 = .ok (.iload_n 2, 1) := by decide +kernel
theorem dX12_isStrip_9 : decode cX12_isStrip 9 = .ok (.i2l, 1) := by decide +kernel
theorem dX12_isStrip_10 : decode cX12_isStrip 10 = .ok (.lconst 0, 1) := by decide +kernel
theorem dX12_isStrip_11 : decode cX12_isStrip 11 = .ok (.aload_n 0, 1) := by decide +kernel
theorem dX12_isStrip_12 : decode cX12_isStrip 12 = .ok (.iload_n 1, 1) := by decide +kernel
theorem dX12_isStrip_13 : decode cX12_isStrip 13 = .ok (.invokevirtual 311, 3) := by decide +kernel
theorem dX12_isStrip_16 : decode cX12_isStrip 16 = .ok (.iconst 1, 1) := by decide +kernel
theorem dX12_isStrip_17 : decode cX12_isStrip 17 = .ok (.isub, 1) := by decide +kernel
theorem dX12_isStrip_18 : decode cX12_isStrip 18 = .ok (.i2l, 1) := by decide +kernel
theorem dX12_isStrip_19 : decode cX12_isStrip 19 = .ok (.invokestatic 116, 3) := by decide +kernel
theorem dX12_isStrip_22 : decode cX12_isStrip 22 = .ok (.ifCond .eq 7, 3) := by decide +kernel
theorem dX12_isStrip_25 : decode cX12_isStrip 25 = .ok (.iconst 1, 1) := by decide +kernel
theorem dX12_isStrip_26 : decode cX12_isStrip 26 = .ok (.goto 4, 3) := by decide +kernel
theorem dX12_isStrip_29 : decode cX12_isStrip 29 = .ok (.iconst 0, 1) := by decide +kernel
theorem dX12_isStrip_30 : decode cX12_isStrip 30 = .ok (.ireturn, 1) := by decide +kernel
theorem dX12_isSet_0 : decode cX12_isSet 0 = .ok (.iload_n 1, 1) := by decide +kernel
theorem dX12_isSet_1 : decode cX12_isSet 1 = .ok (.i2l, 1) := by decide +kernel
theorem dX12_isSet_2 : decode cX12_isSet 2 = .ok (.lconst 0, 1) := by decide +kernel
theorem dX12_isSet_3 : decode cX12_isSet 3 = .ok (.iconst 1, 1) := by decide +kernel
theorem dX12_isSet_4 : decode cX12_isSet 4 = .ok (.aload_n 0, 1) := by decide +kernel
theorem dX12_isSet_5 : decode cX12_isSet 5 = .ok (.getfield 35, 3) := by decide +kernel
theorem dX12_isSet_8 : decode cX12_isSet 8 = .ok (.iconst 2, 1) := by decide +kernel
theorem dX12_isSet_9 : decode cX12_isSet 9 = .ok (.iaload, 1) := by decide +kernel
theorem dX12_isSet_10 : decode cX12_isSet 10 = .ok (.ishl, 1) := by decide +kernel
theorem dX12_isSet_11 : decode cX12_isSet 11 = .ok (.iconst 1, 1) := by decide +kernel
theorem dX12_isSet_12 : decode cX12_isSet 12 = .ok (.isub, 1) := by decide +kernel
theorem dX12_isSet_13 : decode cX12_isSet 13 = .ok (.i2l, 1) := by decide +kernel
theorem dX12_isSet_14 : decode cX12_isSet 14 = .ok (.invokestatic 116, 3) := by decide +kernel
theorem dX12_isSet_17 : decode cX12_isSet 17 = .ok (.ireturn, 1) := by decide +kernel
theorem dX12_stripOf_0 : decode cX12_stripOf 0 = .ok (.aload_n 0, 1) := by decide +kernel
theorem dX12_stripOf_1 : decode cX12_stripOf 1 = .ok (.getfield 35, 3) := by decide +kernel
theorem dX12_stripOf_4 : decode cX12_stripOf 4 = .ok (.iconst 0, 1) := by decide +kernel
theorem dX12_stripOf_5 : decode cX12_stripOf 5 = .ok (.iaload, 1) := by decide +kernel
theorem dX12_stripOf_6 : decode cX12_stripOf 6 = .ok (.istore_n 3, 1) := by decide +kernel
theorem dX12_stripOf_7 : decode cX12_stripOf 7 = .ok (.aload_n 0, 1) := by decide +kernel
theorem dX12_stripOf_8 : decode cX12_stripOf 8 = .ok (.getfield 35, 3) := by decide +kernel
theorem dX12_stripOf_11 : decode cX12_stripOf 11 = .ok (.iconst 1, 1) := by decide +kernel
theorem dX12_stripOf_12 : decode cX12_stripOf 12 = .ok (.iaload, 1) := by decide +kernel
theorem dX12_stripOf_13 : decode cX12_stripOf 13 = .ok (.istore 4, 2) := by decide +kernel
theorem dX12_stripOf_15 : decode cX12_stripOf 15 = .ok (.iload_n 2, 1) := by decide +kernel
theorem dX12_stripOf_16 : decode cX12_stripOf 16 = .ok (.iload_n 3, 1) := by decide +kernel
theorem dX12_stripOf_17 : decode cX12_stripOf 17 = .ok (.irem, 1) := by decide +kernel
theorem dX12_stripOf_18 : decode cX12_stripOf 18 = .ok (.istore 5, 2) := by decide +kernel
theorem dX12_stripOf_20 : decode cX12_stripOf 20 = .ok (.iload_n 2, 1) := by decide +kernel
theorem dX12_stripOf_21 : decode cX12_stripOf 21 = .ok (.iload_n 3, 1) := by decide +kernel
theorem dX12_stripOf_22 : decode cX12_stripOf 22 = .ok (.idiv, 1) := by decide +kernel
theorem dX12_stripOf_23 : decode cX12_stripOf 23 = .ok (.istore 6, 2) := by decide +kernel
theorem dX12_stripOf_25 : decode cX12_stripOf 25 = .ok (.iload_n 1, 1) := by decide +kernel
theorem dX12_stripOf_26 : decode cX12_stripOf 26 = .ok (.tableswitch 93 0 6 #[42, 49, 62, 70, 81, 84, 90], 42) := by decide +kernel
theorem dX12_stripOf_68 : decode cX12_stripOf 68 = .ok (.iload_n 3, 1) := by decide +kernel
theorem dX12_stripOf_69 : decode cX12_stripOf 69 = .ok (.iconst 1, 1) := by decide +kernel
theorem dX12_stripOf_70 : decode cX12_stripOf 70 = .ok (.isub, 1) := by decide +kernel
theorem dX12_stripOf_71 : decode cX12_stripOf 71 = .ok (.iload 5, 2) := by decide +kernel
theorem dX12_stripOf_73 : decode cX12_stripOf 73 = .ok (.isub, 1) := by decide +kernel
theorem dX12_stripOf_74 : decode cX12_stripOf 74 = .ok (.ireturn, 1) := by decide +kernel
theorem dX12_stripOf_75 : decode cX12_stripOf 75 = .ok (.iload_n 3, 1) := by decide +kernel
theorem dX12_stripOf_76 : decode cX12_stripOf 76 = .ok (.iload 4, 2) := by decide +kernel
theorem dX12_stripOf_78 : decode cX12_stripOf 78 = .ok (.iadd, 1) := by decide +kernel
theorem dX12_stripOf_79 : decode cX12_stripOf 79 = .ok (.iconst 2, 1) := by decide +kernel
theorem dX12_stripOf_80 : decode cX12_stripOf 80 = .ok (.isub, 1) := by decide +kernel
theorem dX12_stripOf_81 : decode cX12_stripOf 81 = .ok (.iload 5, 2) := by decide +kernel
theorem dX12_stripOf_83 : decode cX12_stripOf 83 = .ok (.isub, 1) := by decide +kernel
theorem dX12_stripOf_84 : decode cX12_stripOf 84 = .ok (.iload 6, 2) := by decide +kernel
theorem dX12_stripOf_86 : decode cX12_stripOf 86 = .ok (.isub, 1) := by decide +kernel
theorem dX12_stripOf_87 : decode cX12_stripOf 87 = .ok (.ireturn, 1) := by decide +kernel
theorem dX12_stripOf_88 : decode cX12_stripOf 88 = .ok (.iload 4, 2) := by decide +kernel
theorem dX12_stripOf_90 : decode cX12_stripOf 90 = .ok (.iconst 1, 1) := by decide +kernel
theorem dX12_stripOf_91 : decode cX12_stripOf 91 = .ok (.isub, 1) := by decide +kernel
theorem dX12_stripOf_92 : decode cX12_stripOf 92 = .ok (.iload 6, 2) := by decide +kernel
theorem dX12_stripOf_94 : decode cX12_stripOf 94 = .ok (.isub, 1) := by decide +kernel
theorem dX12_stripOf_95 : decode cX12_stripOf 95 = .ok (.ireturn, 1) := by decide +kernel
theorem dX12_stripOf_96 : decode cX12_stripOf 96 = .ok (.iload 5, 2) := by decide +kernel
theorem dX12_stripOf_98 : decode cX12_stripOf 98 = .ok (.iload 6, 2) := by decide +kernel
theorem dX12_stripOf_100 : decode cX12_stripOf 100 = .ok (.isub, 1) := by decide +kernel
theorem dX12_stripOf_101 : decode cX12_stripOf 101 = .ok (.iload 4, 2) := by decide +kernel
theorem dX12_stripOf_103 : decode cX12_stripOf 103 = .ok (.iadd, 1) := by decide +kernel
theorem dX12_stripOf_104 : decode cX12_stripOf 104 = .ok (.iconst 1, 1) := by decide +kernel
theorem dX12_stripOf_105 : decode cX12_stripOf 105 = .ok (.isub, 1) := by decide +kernel
theorem dX12_stripOf_106 : decode cX12_stripOf 106 = .ok (.ireturn, 1) := by decide +kernel
theorem dX12_stripOf_107 : decode cX12_stripOf 107 = .ok (.iload 5, 2) := by decide +kernel
theorem dX12_stripOf_109 : decode cX12_stripOf 109 = .ok (.ireturn, 1) := by decide +kernel
theorem dX12_stripOf_110 : decode cX12_stripOf 110 = .ok (.iload 5, 2) := by decide +kernel
theorem dX12_stripOf_112 : decode cX12_stripOf 112 = .ok (.iload 6, 2) := by decide +kernel
theorem dX12_stripOf_114 : decode cX12_stripOf 114 = .ok (.iadd, 1) := by decide +kernel
theorem dX12_stripOf_115 : decode cX12_stripOf 115 = .ok (.ireturn, 1) := by decide +kernel
theorem dX12_stripOf_116 : decode cX12_stripOf 116 = .ok (.iload 6, 2) := by decide +kernel
theorem dX12_stripOf_118 : decode cX12_stripOf 118 = .ok (.ireturn, 1) := by decide +kernel
theorem dX12_stripOf_119 : decode cX12_stripOf 119 = .ok (.iload_n 3, 1) := by decide +kernel
theorem dX12_stripOf_120 : decode cX12_stripOf 120 = .ok (.iconst 1, 1) := by decide +kernel
theorem dX12_stripOf_121 : decode cX12_stripOf 121 = .ok (.isub, 1) := by decide +kernel
theorem dX12_stripOf_122 : decode cX12_stripOf 122 = .ok (.iload 5, 2) := by decide +kernel
theorem dX12_stripOf_124 : decode cX12_stripOf 124 = .ok (.isub, 1) := by decide +kernel
theorem dX12_stripOf_125 : decode cX12_stripOf 125 = .ok (.iload 6, 2) := by decide +kernel
theorem dX12_stripOf_127 : decode cX12_stripOf 127 = .ok (.iadd, 1) := by decide +kernel
theorem dX12_stripOf_128 : decode cX12_stripOf 128 = .ok (.ireturn, 1) := by decide +kernel
theorem dX12_many_0 : decode cX12_many 0 = .ok (.aload_n 0, 1) := by decide +kernel
theorem dX12_many_1 : decode cX12_many 1 = .ok (.iconst 0, 1) := by decide +kernel
theorem dX12_many_2 : decode cX12_many 2 = .ok (.putfield 81, 3) := by decide +kernel
theorem dX12_many_5 : decode cX12_many 5 = .ok (.aload_n 0, 1) := by decide +kernel
theorem dX12_many_6 : decode cX12_many 6 = .ok (.iconst 0, 1) := by decide +kernel
theorem dX12_many_7 : decode cX12_many 7 = .ok (.putfield 84, 3) := by decide +kernel
theorem dX12_many_10 : decode cX12_many 10 = .ok (.iload_n 1, 1) := by decide +kernel
theorem dX12_many_11 : decode cX12_many 11 = .ok (.i2l, 1) := by decide +kernel
theorem dX12_many_12 : decode cX12_many 12 = .ok (.lconst 0, 1) := by decide +kernel
theorem dX12_many_13 : decode cX12_many 13 = .ok (.ldc2_w 314, 3) := by decide +kernel
theorem dX12_many_16 : decode cX12_many 16 = .ok (.invokestatic 116, 3) := by decide +kernel
theorem dX12_many_19 : decode cX12_many 19 = .ok (.ifCond .eq 12, 3) := by decide +kernel
theorem dX12_many_22 : decode cX12_many 22 = .ok (.aload_n 0, 1) := by decide +kernel
theorem dX12_many_23 : decode cX12_many 23 = .ok (.getfield 35, 3) := by decide +kernel
theorem dX12_many_26 : decode cX12_many 26 = .ok (.iload_n 1, 1) := by decide +kernel
theorem dX12_many_27 : decode cX12_many 27 = .ok (.iaload, 1) := by decide +kernel
theorem dX12_many_28 : decode cX12_many 28 = .ok (.goto 8, 3) := by decide +kernel
theorem dX12_many_31 : decode cX12_many 31 = .ok (.aload_n 0, 1) := by decide +kernel
theorem dX12_many_32 : decode cX12_many 32 = .ok (.iconst 5, 1) := by decide +kernel
theorem dX12_many_33 : decode cX12_many 33 = .ok (.invokevirtual 316, 3) := by decide +kernel
theorem dX12_many_36 : decode cX12_many 36 = .ok (.ireturn, 1) := by decide +kernel
theorem dX12_cell_0 : decode cX12_cell 0 = .ok (.aload_n 0, 1) := by decide +kernel
theorem dX12_cell_1 : decode cX12_cell 1 = .ok (.iconst 0, 1) := by decide +kernel
theorem dX12_cell_2 : decode cX12_cell 2 = .ok (.putfield 81, 3) := by decide +kernel
theorem dX12_cell_5 : decode cX12_cell 5 = .ok (.aload_n 0, 1) := by decide +kernel
theorem dX12_cell_6 : decode cX12_cell 6 = .ok (.iconst 0, 1) := by decide +kernel
theorem dX12_cell_7 : decode cX12_cell 7 = .ok (.putfield 84, 3) := by decide +kernel
theorem dX12_cell_10 : decode cX12_cell 10 = .ok (.aload_n 0, 1) := by decide +kernel
theorem dX12_cell_11 : decode cX12_cell 11 = .ok (.iload_n 1, 1) := by decide +kernel
theorem dX12_cell_12 : decode cX12_cell 12 = .ok (.invokevirtual 319, 3) := by decide +kernel
theorem dX12_cell_15 : decode cX12_cell 15 = .ok (.ifCond .ne 9, 3) := by decide +kernel
theorem dX12_cell_18 : decode cX12_cell 18 = .ok (.aload_n 0, 1) := by decide +kernel
theorem dX12_cell_19 : decode cX12_cell 19 = .ok (.iconst 2, 1) := by decide +kernel
theorem dX12_cell_20 : decode cX12_cell 20 = .ok (.invokevirtual 316, 3) := by decide +kernel
theorem dX12_cell_23 : decode cX12_cell 23 = .ok (.ireturn, 1) := by decide +kernel
theorem dX12_cell_24 : decode cX12_cell 24 = .ok (.iload_n 2, 1) := by decide +kernel
theorem dX12_cell_25 : decode cX12_cell 25 = .ok (.i2l, 1) := by decide +kernel
theorem dX12_cell_26 : decode cX12_cell 26 = .ok (.lconst 0, 1) := by decide +kernel
theorem dX12_cell_27 : decode cX12_cell 27 = .ok (.ldc2_w 314, 3) := by decide +kernel
theorem dX12_cell_30 : decode cX12_cell 30 = .ok (.invokestatic 116, 3) := by decide +kernel
theorem dX12_cell_33 : decode cX12_cell 33 = .ok (.ifCond .eq 19, 3) := by decide +kernel
theorem dX12_cell_36 : decode cX12_cell 36 = .ok (.aload_n 0, 1) := by decide +kernel
theorem dX12_cell_37 : decode cX12_cell 37 = .ok (.getfield 35, 3) := by decide +kernel
theorem dX12_cell_40 : decode cX12_cell 40 = .ok (.iconst 3, 1) := by decide +kernel
theorem dX12_cell_41 : decode cX12_cell 41 = .ok (.bipush 25, 2) := by decide +kernel
theorem dX12_cell_43 : decode cX12_cell 43 = .ok (.iload_n 2, 1) := by decide +kernel
theorem dX12_cell_44 : decode cX12_cell 44 = .ok (.imul, 1) := by decide +kernel
theorem dX12_cell_45 : decode cX12_cell 45 = .ok (.iadd, 1) := by decide +kernel
theorem dX12_cell_46 : decode cX12_cell 46 = .ok (.iload_n 1, 1) := by decide +kernel
theorem dX12_cell_47 : decode cX12_cell 47 = .ok (.iadd, 1) := by decide +kernel
theorem dX12_cell_48 : decode cX12_cell 48 = .ok (.iaload, 1) := by decide +kernel
theorem dX12_cell_49 : decode cX12_cell 49 = .ok (.goto 8, 3) := by decide +kernel
theorem dX12_cell_52 : decode cX12_cell 52 = .ok (.aload_n 0, 1) := by decide +kernel
theorem dX12_cell_53 : decode cX12_cell 53 = .ok (.iconst 5, 1) := by decide +kernel
theorem dX12_cell_54 : decode cX12_cell 54 = .ok (.invokevirtual 316, 3) := by decide +kernel
theorem dX12_cell_57 : decode cX12_cell 57 = .ok (.ireturn, 1) := by decide +kernel
theorem dX12_village_0 : decode cX12_village 0 = .ok (.aload_n 0, 1) := by decide +kernel
theorem dX12_village_1 : decode cX12_village 1 = .ok (.iconst 0, 1) := by decide +kernel
theorem dX12_village_2 : decode cX12_village 2 = .ok (.putfield 81, 3) := by decide +kernel
theorem dX12_village_5 : decode cX12_village 5 = .ok (.aload_n 0, 1) := by decide +kernel
theorem dX12_village_6 : decode cX12_village 6 = .ok (.iconst 0, 1) := by decide +kernel
theorem dX12_village_7 : decode cX12_village 7 = .ok (.putfield 84, 3) := by decide +kernel
theorem dX12_village_10 : decode cX12_village 10 = .ok (.aload_n 0, 1) := by decide +kernel
theorem dX12_village_11 : decode cX12_village 11 = .ok (.iload_n 1, 1) := by decide +kernel
theorem dX12_village_12 : decode cX12_village 12 = .ok (.invokevirtual 308, 3) := by decide +kernel
theorem dX12_village_15 : decode cX12_village 15 = .ok (.ifCond .ne 9, 3) := by decide +kernel
theorem dX12_village_18 : decode cX12_village 18 = .ok (.aload_n 0, 1) := by decide +kernel
theorem dX12_village_19 : decode cX12_village 19 = .ok (.iconst 2, 1) := by decide +kernel
theorem dX12_village_20 : decode cX12_village 20 = .ok (.invokevirtual 316, 3) := by decide +kernel
theorem dX12_village_23 : decode cX12_village 23 = .ok (.ireturn, 1) := by decide +kernel
theorem dX12_village_24 : decode cX12_village 24 = .ok (.iload_n 2, 1) := by decide +kernel
theorem dX12_village_25 : decode cX12_village 25 = .ok (.i2l, 1) := by decide +kernel
theorem dX12_village_26 : decode cX12_village 26 = .ok (.lconst 0, 1) := by decide +kernel
theorem dX12_village_27 : decode cX12_village 27 = .ok (.ldc2_w 314, 3) := by decide +kernel
theorem dX12_village_30 : decode cX12_village 30 = .ok (.invokestatic 116, 3) := by decide +kernel
theorem dX12_village_33 : decode cX12_village 33 = .ok (.ifCond .ne 9, 3) := by decide +kernel
theorem dX12_village_36 : decode cX12_village 36 = .ok (.aload_n 0, 1) := by decide +kernel
theorem dX12_village_37 : decode cX12_village 37 = .ok (.iconst 5, 1) := by decide +kernel
theorem dX12_village_38 : decode cX12_village 38 = .ok (.invokevirtual 316, 3) := by decide +kernel
theorem dX12_village_41 : decode cX12_village 41 = .ok (.ireturn, 1) := by decide +kernel
theorem dX12_village_42 : decode cX12_village 42 = .ok (.iload_n 2, 1) := by decide +kernel
theorem dX12_village_43 : decode cX12_village 43 = .ok (.ifCond .ne 15, 3) := by decide +kernel
theorem dX12_village_46 : decode cX12_village 46 = .ok (.aload_n 0, 1) := by decide +kernel
theorem dX12_village_47 : decode cX12_village 47 = .ok (.getfield 35, 3) := by decide +kernel
theorem dX12_village_50 : decode cX12_village 50 = .ok (.bipush 78, 2) := by decide +kernel
theorem dX12_village_52 : decode cX12_village 52 = .ok (.iload_n 1, 1) := by decide +kernel
theorem dX12_village_53 : decode cX12_village 53 = .ok (.iadd, 1) := by decide +kernel
theorem dX12_village_54 : decode cX12_village 54 = .ok (.iaload, 1) := by decide +kernel
theorem dX12_village_55 : decode cX12_village 55 = .ok (.goto 25, 3) := by decide +kernel
theorem dX12_village_58 : decode cX12_village 58 = .ok (.iload_n 2, 1) := by decide +kernel
theorem dX12_village_59 : decode cX12_village 59 = .ok (.iconst 1, 1) := by decide +kernel
theorem dX12_village_60 : decode cX12_village 60 = .ok (.if_icmp .ne 11, 3) := by decide +kernel
theorem dX12_village_63 : decode cX12_village 63 = .ok (.aload_n 0, 1) := by decide +kernel
theorem dX12_village_64 : decode cX12_village 64 = .ok (.iload_n 1, 1) := by decide +kernel
theorem dX12_village_65 : decode cX12_village 65 = .ok (.invokevirtual 311, 3) := by decide +kernel
theorem dX12_village_68 : decode cX12_village 68 = .ok (.goto 12, 3) := by decide +kernel
theorem dX12_village_71 : decode cX12_village 71 = .ok (.aload_n 0, 1) := by decide +kernel
theorem dX12_village_72 : decode cX12_village 72 = .ok (.getfield 35, 3) := by decide +kernel
theorem dX12_village_75 : decode cX12_village 75 = .ok (.bipush 84, 2) := by decide +kernel
theorem dX12_village_77 : decode cX12_village 77 = .ok (.iload_n 1, 1) := by decide +kernel
theorem dX12_village_78 : decode cX12_village 78 = .ok (.iadd, 1) := by decide +kernel
theorem dX12_village_79 : decode cX12_village 79 = .ok (.iaload, 1) := by decide +kernel
theorem dX12_village_80 : decode cX12_village 80 = .ok (.ireturn, 1) := by decide +kernel
theorem dX12_promised_0 : decode cX12_promised 0 = .ok (.aload_n 0, 1) := by decide +kernel
theorem dX12_promised_1 : decode cX12_promised 1 = .ok (.iconst 0, 1) := by decide +kernel
theorem dX12_promised_2 : decode cX12_promised 2 = .ok (.putfield 81, 3) := by decide +kernel
theorem dX12_promised_5 : decode cX12_promised 5 = .ok (.aload_n 0, 1) := by decide +kernel
theorem dX12_promised_6 : decode cX12_promised 6 = .ok (.iconst 0, 1) := by decide +kernel
theorem dX12_promised_7 : decode cX12_promised 7 = .ok (.putfield 84, 3) := by decide +kernel
theorem dX12_promised_10 : decode cX12_promised 10 = .ok (.aload_n 0, 1) := by decide +kernel
theorem dX12_promised_11 : decode cX12_promised 11 = .ok (.iload_n 1, 1) := by decide +kernel
theorem dX12_promised_12 : decode cX12_promised 12 = .ok (.iload_n 2, 1) := by decide +kernel
theorem dX12_promised_13 : decode cX12_promised 13 = .ok (.invokevirtual 322, 3) := by decide +kernel
theorem dX12_promised_16 : decode cX12_promised 16 = .ok (.ifCond .ne 9, 3) := by decide +kernel
theorem dX12_promised_19 : decode cX12_promised 19 = .ok (.aload_n 0, 1) := by decide +kernel
theorem dX12_promised_20 : decode cX12_promised 20 = .ok (.iconst 2, 1) := by decide +kernel
theorem dX12_promised_21 : decode cX12_promised 21 = .ok (.invokevirtual 316, 3) := by decide +kernel
theorem dX12_promised_24 : decode cX12_promised 24 = .ok (.ireturn, 1) := by decide +kernel
theorem dX12_promised_25 : decode cX12_promised 25 = .ok (.aload_n 0, 1) := by decide +kernel
theorem dX12_promised_26 : decode cX12_promised 26 = .ok (.getfield 35, 3) := by decide +kernel
theorem dX12_promised_29 : decode cX12_promised 29 = .ok (.bipush 84, 2) := by decide +kernel
theorem dX12_promised_31 : decode cX12_promised 31 = .ok (.iload_n 1, 1) := by decide +kernel
theorem dX12_promised_32 : decode cX12_promised 32 = .ok (.iadd, 1) := by decide +kernel
theorem dX12_promised_33 : decode cX12_promised 33 = .ok (.iaload, 1) := by decide +kernel
theorem dX12_promised_34 : decode cX12_promised 34 = .ok (.ifCond .ne 12, 3) := by decide +kernel
theorem dX12_promised_37 : decode cX12_promised 37 = .ok (.aload_n 0, 1) := by decide +kernel
theorem dX12_promised_38 : decode cX12_promised 38 = .ok (.bipush 8, 2) := by decide +kernel
theorem dX12_promised_40 : decode cX12_promised 40 = .ok (.invokevirtual 316, 3) := by decide +kernel
theorem dX12_promised_43 : decode cX12_promised 43 = .ok (.goto 17, 3) := by decide +kernel
theorem dX12_promised_46 : decode cX12_promised 46 = .ok (.aload_n 0, 1) := by decide +kernel
theorem dX12_promised_47 : decode cX12_promised 47 = .ok (.getfield 35, 3) := by decide +kernel
theorem dX12_promised_50 : decode cX12_promised 50 = .ok (.bipush 90, 2) := by decide +kernel
theorem dX12_promised_52 : decode cX12_promised 52 = .ok (.bipush 9, 2) := by decide +kernel
theorem dX12_promised_54 : decode cX12_promised 54 = .ok (.iload_n 1, 1) := by decide +kernel
theorem dX12_promised_55 : decode cX12_promised 55 = .ok (.imul, 1) := by decide +kernel
theorem dX12_promised_56 : decode cX12_promised 56 = .ok (.iadd, 1) := by decide +kernel
theorem dX12_promised_57 : decode cX12_promised 57 = .ok (.iload_n 2, 1) := by decide +kernel
theorem dX12_promised_58 : decode cX12_promised 58 = .ok (.iadd, 1) := by decide +kernel
theorem dX12_promised_59 : decode cX12_promised 59 = .ok (.iaload, 1) := by decide +kernel
theorem dX12_promised_60 : decode cX12_promised 60 = .ok (.ireturn, 1) := by decide +kernel
theorem dX12_strip_0 : decode cX12_strip 0 = .ok (.aload_n 0, 1) := by decide +kernel
theorem dX12_strip_1 : decode cX12_strip 1 = .ok (.iconst 0, 1) := by decide +kernel
theorem dX12_strip_2 : decode cX12_strip 2 = .ok (.putfield 81, 3) := by decide +kernel
theorem dX12_strip_5 : decode cX12_strip 5 = .ok (.aload_n 0, 1) := by decide +kernel
theorem dX12_strip_6 : decode cX12_strip 6 = .ok (.iconst 0, 1) := by decide +kernel
theorem dX12_strip_7 : decode cX12_strip 7 = .ok (.putfield 84, 3) := by decide +kernel
theorem dX12_strip_10 : decode cX12_strip 10 = .ok (.iload_n 1, 1) := by decide +kernel
theorem dX12_strip_11 : decode cX12_strip 11 = .ok (.i2l, 1) := by decide +kernel
theorem dX12_strip_12 : decode cX12_strip 12 = .ok (.lconst 0, 1) := by decide +kernel
theorem dX12_strip_13 : decode cX12_strip 13 = .ok (.ldc2_w 325, 3) := by decide +kernel
theorem dX12_strip_16 : decode cX12_strip 16 = .ok (.invokestatic 116, 3) := by decide +kernel
theorem dX12_strip_19 : decode cX12_strip 19 = .ok (.ifCond .eq 20, 3) := by decide +kernel
theorem dX12_strip_22 : decode cX12_strip 22 = .ok (.aload_n 0, 1) := by decide +kernel
theorem dX12_strip_23 : decode cX12_strip 23 = .ok (.iload_n 2, 1) := by decide +kernel
theorem dX12_strip_24 : decode cX12_strip 24 = .ok (.invokevirtual 319, 3) := by decide +kernel
theorem dX12_strip_27 : decode cX12_strip 27 = .ok (.ifCond .eq 12, 3) := by decide +kernel
theorem dX12_strip_30 : decode cX12_strip 30 = .ok (.aload_n 0, 1) := by decide +kernel
theorem dX12_strip_31 : decode cX12_strip 31 = .ok (.iload_n 1, 1) := by decide +kernel
theorem dX12_strip_32 : decode cX12_strip 32 = .ok (.iload_n 2, 1) := by decide +kernel
theorem dX12_strip_33 : decode cX12_strip 33 = .ok (.invokevirtual 327, 3) := by decide +kernel
theorem dX12_strip_36 : decode cX12_strip 36 = .ok (.goto 8, 3) := by decide +kernel
theorem dX12_strip_39 : decode cX12_strip 39 = .ok (.aload_n 0, 1) := by decide +kernel
theorem dX12_strip_40 : decode cX12_strip 40 = .ok (.iconst 2, 1) := by decide +kernel
theorem dX12_strip_41 : decode cX12_strip 41 = .ok (.invokevirtual 316, 3) := by decide +kernel
theorem dX12_strip_44 : decode cX12_strip 44 = .ok (.ireturn, 1) := by decide +kernel
theorem dX12_height_0 : decode cX12_height 0 = .ok (.aload_n 0, 1) := by decide +kernel
theorem dX12_height_1 : decode cX12_height 1 = .ok (.iconst 0, 1) := by decide +kernel
theorem dX12_height_2 : decode cX12_height 2 = .ok (.putfield 81, 3) := by decide +kernel
theorem dX12_height_5 : decode cX12_height 5 = .ok (.aload_n 0, 1) := by decide +kernel
theorem dX12_height_6 : decode cX12_height 6 = .ok (.iconst 0, 1) := by decide +kernel
theorem dX12_height_7 : decode cX12_height 7 = .ok (.putfield 84, 3) := by decide +kernel
theorem dX12_height_10 : decode cX12_height 10 = .ok (.aload_n 0, 1) := by decide +kernel
theorem dX12_height_11 : decode cX12_height 11 = .ok (.iload_n 1, 1) := by decide +kernel
theorem dX12_height_12 : decode cX12_height 12 = .ok (.invokevirtual 319, 3) := by decide +kernel
theorem dX12_height_15 : decode cX12_height 15 = .ok (.ifCond .eq 16, 3) := by decide +kernel
theorem dX12_height_18 : decode cX12_height 18 = .ok (.aload_n 0, 1) := by decide +kernel
theorem dX12_height_19 : decode cX12_height 19 = .ok (.getfield 35, 3) := by decide +kernel
theorem dX12_height_22 : decode cX12_height 22 = .ok (.sipush 144, 3) := by decide +kernel
theorem dX12_height_25 : decode cX12_height 25 = .ok (.iload_n 1, 1) := by decide +kernel
theorem dX12_height_26 : decode cX12_height 26 = .ok (.iadd, 1) := by decide +kernel
theorem dX12_height_27 : decode cX12_height 27 = .ok (.iaload, 1) := by decide +kernel
theorem dX12_height_28 : decode cX12_height 28 = .ok (.goto 8, 3) := by decide +kernel
theorem dX12_height_31 : decode cX12_height 31 = .ok (.aload_n 0, 1) := by decide +kernel
theorem dX12_height_32 : decode cX12_height 32 = .ok (.iconst 2, 1) := by decide +kernel
theorem dX12_height_33 : decode cX12_height 33 = .ok (.invokevirtual 316, 3) := by decide +kernel
theorem dX12_height_36 : decode cX12_height 36 = .ok (.ireturn, 1) := by decide +kernel
theorem dX12_build_0 : decode cX12_build 0 = .ok (.aload_n 0, 1) := by decide +kernel
theorem dX12_build_1 : decode cX12_build 1 = .ok (.iconst 0, 1) := by decide +kernel
theorem dX12_build_2 : decode cX12_build 2 = .ok (.putfield 81, 3) := by decide +kernel
theorem dX12_build_5 : decode cX12_build 5 = .ok (.aload_n 0, 1) := by decide +kernel
theorem dX12_build_6 : decode cX12_build 6 = .ok (.iconst 0, 1) := by decide +kernel
theorem dX12_build_7 : decode cX12_build 7 = .ok (.putfield 84, 3) := by decide +kernel
theorem dX12_build_10 : decode cX12_build 10 = .ok (.aload_n 0, 1) := by decide +kernel
theorem dX12_build_11 : decode cX12_build 11 = .ok (.iload_n 1, 1) := by decide +kernel
theorem dX12_build_12 : decode cX12_build 12 = .ok (.invokevirtual 319, 3) := by decide +kernel
theorem dX12_build_15 : decode cX12_build 15 = .ok (.ifCond .ne 9, 3) := by decide +kernel
theorem dX12_build_18 : decode cX12_build 18 = .ok (.aload_n 0, 1) := by decide +kernel
theorem dX12_build_19 : decode cX12_build 19 = .ok (.iconst 2, 1) := by decide +kernel
theorem dX12_build_20 : decode cX12_build 20 = .ok (.invokevirtual 96, 3) := by decide +kernel
theorem dX12_build_23 : decode cX12_build 23 = .ok (.ireturn, 1) := by decide +kernel
theorem dX12_build_24 : decode cX12_build 24 = .ok (.iload_n 2, 1) := by decide +kernel
theorem dX12_build_25 : decode cX12_build 25 = .ok (.i2l, 1) := by decide +kernel
theorem dX12_build_26 : decode cX12_build 26 = .ok (.lconst 0, 1) := by decide +kernel
theorem dX12_build_27 : decode cX12_build 27 = .ok (.ldc2_w 330, 3) := by decide +kernel
theorem dX12_build_30 : decode cX12_build 30 = .ok (.invokestatic 116, 3) := by decide +kernel
theorem dX12_build_33 : decode cX12_build 33 = .ok (.ifCond .ne 9, 3) := by decide +kernel
theorem dX12_build_36 : decode cX12_build 36 = .ok (.aload_n 0, 1) := by decide +kernel
theorem dX12_build_37 : decode cX12_build 37 = .ok (.iconst 5, 1) := by decide +kernel
theorem dX12_build_38 : decode cX12_build 38 = .ok (.invokevirtual 96, 3) := by decide +kernel
theorem dX12_build_41 : decode cX12_build 41 = .ok (.ireturn, 1) := by decide +kernel
theorem dX12_build_42 : decode cX12_build 42 = .ok (.aload_n 0, 1) := by decide +kernel
theorem dX12_build_43 : decode cX12_build 43 = .ok (.getfield 35, 3) := by decide +kernel
theorem dX12_build_46 : decode cX12_build 46 = .ok (.sipush 144, 3) := by decide +kernel
theorem dX12_build_49 : decode cX12_build 49 = .ok (.iload_n 1, 1) := by decide +kernel
theorem dX12_build_50 : decode cX12_build 50 = .ok (.iadd, 1) := by decide +kernel
theorem dX12_build_51 : decode cX12_build 51 = .ok (.iload_n 2, 1) := by decide +kernel
theorem dX12_build_52 : decode cX12_build 52 = .ok (.iastore, 1) := by decide +kernel
theorem dX12_build_53 : decode cX12_build 53 = .ok (.iconst 1, 1) := by decide +kernel
theorem dX12_build_54 : decode cX12_build 54 = .ok (.ireturn, 1) := by decide +kernel
theorem dX12_wrongRow_0 : decode cX12_wrongRow 0 = .ok (.aload_n 0, 1) := by decide +kernel
theorem dX12_wrongRow_1 : decode cX12_wrongRow 1 = .ok (.getfield 17, 3) := by decide +kernel
theorem dX12_wrongRow_4 : decode cX12_wrongRow 4 = .ok (.iload_n 1, 1) := by decide +kernel
theorem dX12_wrongRow_5 : decode cX12_wrongRow 5 = .ok (.iaload, 1) := by decide +kernel
theorem dX12_wrongRow_6 : decode cX12_wrongRow 6 = .ok (.iload_n 2, 1) := by decide +kernel
theorem dX12_wrongRow_7 : decode cX12_wrongRow 7 = .ok (.if_icmp .ge 5, 3) := by decide +kernel
theorem dX12_wrongRow_10 : decode cX12_wrongRow 10 = .ok (.iconst 4, 1) := by decide +kernel
theorem dX12_wrongRow_11 : decode cX12_wrongRow 11 = .ok (.ireturn, 1) := by decide +kernel
theorem dX12_wrongRow_12 : decode cX12_wrongRow 12 = .ok (.iconst 0, 1) := by decide +kernel
theorem dX12_wrongRow_13 : decode cX12_wrongRow 13 = .ok (.istore_n 3, 1) := by decide +kernel
theorem dX12_wrongRow_14 : decode cX12_wrongRow 14 = .ok (.iload_n 3, 1) := by decide +kernel
theorem dX12_wrongRow_15 : decode cX12_wrongRow 15 = .ok (.iload_n 2, 1) := by decide +kernel
theorem dX12_wrongRow_16 : decode cX12_wrongRow 16 = .ok (.if_icmp .ge 27, 3) := by decide +kernel
theorem dX12_wrongRow_19 : decode cX12_wrongRow 19 = .ok (.aload_n 0, 1) := by decide +kernel
theorem dX12_wrongRow_20 : decode cX12_wrongRow 20 = .ok (.iload_n 1, 1) := by decide +kernel
theorem dX12_wrongRow_21 : decode cX12_wrongRow 21 = .ok (.iload_n 3, 1) := by decide +kernel
theorem dX12_wrongRow_22 : decode cX12_wrongRow 22 = .ok (.invokevirtual 332, 3) := by decide +kernel
theorem dX12_wrongRow_25 : decode cX12_wrongRow 25 = .ok (.lconst 0, 1) := by decide +kernel
theorem dX12_wrongRow_26 : decode cX12_wrongRow 26 = .ok (.ldc2_w 330, 3) := by decide +kernel
theorem dX12_wrongRow_29 : decode cX12_wrongRow 29 = .ok (.invokestatic 116, 3) := by decide +kernel
theorem dX12_wrongRow_32 : decode cX12_wrongRow 32 = .ok (.ifCond .ne 5, 3) := by decide +kernel
theorem dX12_wrongRow_35 : decode cX12_wrongRow 35 = .ok (.iconst 5, 1) := by decide +kernel
theorem dX12_wrongRow_36 : decode cX12_wrongRow 36 = .ok (.ireturn, 1) := by decide +kernel
theorem dX12_wrongRow_37 : decode cX12_wrongRow 37 = .ok (.iinc 3 1, 3) := by decide +kernel
theorem dX12_wrongRow_40 : decode cX12_wrongRow 40 = .ok (.goto (-26), 3) := by decide +kernel
theorem dX12_wrongRow_43 : decode cX12_wrongRow 43 = .ok (.iconst 0, 1) := by decide +kernel
theorem dX12_wrongRow_44 : decode cX12_wrongRow 44 = .ok (.ireturn, 1) := by decide +kernel
theorem dX12_buildAll_0 : decode cX12_buildAll 0 = .ok (.aload_n 0, 1) := by decide +kernel
theorem dX12_buildAll_1 : decode cX12_buildAll 1 = .ok (.iconst 0, 1) := by decide +kernel
theorem dX12_buildAll_2 : decode cX12_buildAll 2 = .ok (.putfield 81, 3) := by decide +kernel
theorem dX12_buildAll_5 : decode cX12_buildAll 5 = .ok (.aload_n 0, 1) := by decide +kernel
theorem dX12_buildAll_6 : decode cX12_buildAll 6 = .ok (.iconst 0, 1) := by decide +kernel
theorem dX12_buildAll_7 : decode cX12_buildAll 7 = .ok (.putfield 84, 3) := by decide +kernel
theorem dX12_buildAll_10 : decode cX12_buildAll 10 = .ok (.aload_n 0, 1) := by decide +kernel
theorem dX12_buildAll_11 : decode cX12_buildAll 11 = .ok (.iload_n 1, 1) := by decide +kernel
theorem dX12_buildAll_12 : decode cX12_buildAll 12 = .ok (.invokevirtual 336, 3) := by decide +kernel
theorem dX12_buildAll_15 : decode cX12_buildAll 15 = .ok (.ifCond .ne 9, 3) := by decide +kernel
theorem dX12_buildAll_18 : decode cX12_buildAll 18 = .ok (.aload_n 0, 1) := by decide +kernel
theorem dX12_buildAll_19 : decode cX12_buildAll 19 = .ok (.iconst 1, 1) := by decide +kernel
theorem dX12_buildAll_20 : decode cX12_buildAll 20 = .ok (.invokevirtual 96, 3) := by decide +kernel
theorem dX12_buildAll_23 : decode cX12_buildAll 23 = .ok (.ireturn, 1) := by decide +kernel
theorem dX12_buildAll_24 : decode cX12_buildAll 24 = .ok (.aload_n 0, 1) := by decide +kernel
theorem dX12_buildAll_25 : decode cX12_buildAll 25 = .ok (.getfield 17, 3) := by decide +kernel
theorem dX12_buildAll_28 : decode cX12_buildAll 28 = .ok (.iload_n 1, 1) := by decide +kernel
theorem dX12_buildAll_29 : decode cX12_buildAll 29 = .ok (.iaload, 1) := by decide +kernel
theorem dX12_buildAll_30 : decode cX12_buildAll 30 = .ok (.ifCond .ge 9, 3) := by decide +kernel
theorem dX12_buildAll_33 : decode cX12_buildAll 33 = .ok (.aload_n 0, 1) := by decide +kernel
theorem dX12_buildAll_34 : decode cX12_buildAll 34 = .ok (.iconst 3, 1) := by decide +kernel
theorem dX12_buildAll_35 : decode cX12_buildAll 35 = .ok (.invokevirtual 96, 3) := by decide +kernel
theorem dX12_buildAll_38 : decode cX12_buildAll 38 = .ok (.ireturn, 1) := by decide +kernel
theorem dX12_buildAll_39 : decode cX12_buildAll 39 = .ok (.aload_n 0, 1) := by decide +kernel
theorem dX12_buildAll_40 : decode cX12_buildAll 40 = .ok (.iload_n 1, 1) := by decide +kernel
theorem dX12_buildAll_41 : decode cX12_buildAll 41 = .ok (.aload_n 0, 1) := by decide +kernel
theorem dX12_buildAll_42 : decode cX12_buildAll 42 = .ok (.invokevirtual 305, 3) := by decide +kernel
theorem dX12_buildAll_45 : decode cX12_buildAll 45 = .ok (.invokevirtual 339, 3) := by decide +kernel
theorem dX12_buildAll_48 : decode cX12_buildAll 48 = .ok (.istore_n 2, 1) := by decide +kernel
theorem dX12_buildAll_49 : decode cX12_buildAll 49 = .ok (.iload_n 2, 1) := by decide +kernel
theorem dX12_buildAll_50 : decode cX12_buildAll 50 = .ok (.ifCond .le 9, 3) := by decide +kernel
theorem dX12_buildAll_53 : decode cX12_buildAll 53 = .ok (.aload_n 0, 1) := by decide +kernel
theorem dX12_buildAll_54 : decode cX12_buildAll 54 = .ok (.iload_n 2, 1) := by decide +kernel
theorem dX12_buildAll_55 : decode cX12_buildAll 55 = .ok (.invokevirtual 96, 3) := by decide +kernel
theorem dX12_buildAll_58 : decode cX12_buildAll 58 = .ok (.ireturn, 1) := by decide +kernel
theorem dX12_buildAll_59 : decode cX12_buildAll 59 = .ok (.iconst 0, 1) := by decide +kernel
theorem dX12_buildAll_60 : decode cX12_buildAll 60 = .ok (.istore_n 3, 1) := by decide +kernel
theorem dX12_buildAll_61 : decode cX12_buildAll 61 = .ok (.iload_n 3, 1) := by decide +kernel
theorem dX12_buildAll_62 : decode cX12_buildAll 62 = .ok (.aload_n 0, 1) := by decide +kernel
theorem dX12_buildAll_63 : decode cX12_buildAll 63 = .ok (.invokevirtual 305, 3) := by decide +kernel
theorem dX12_buildAll_66 : decode cX12_buildAll 66 = .ok (.if_icmp .ge 26, 3) := by decide +kernel
theorem dX12_buildAll_69 : decode cX12_buildAll 69 = .ok (.aload_n 0, 1) := by decide +kernel
theorem dX12_buildAll_70 : decode cX12_buildAll 70 = .ok (.getfield 35, 3) := by decide +kernel
theorem dX12_buildAll_73 : decode cX12_buildAll 73 = .ok (.sipush 144, 3) := by decide +kernel
theorem dX12_buildAll_76 : decode cX12_buildAll 76 = .ok (.iload_n 3, 1) := by decide +kernel
theorem dX12_buildAll_77 : decode cX12_buildAll 77 = .ok (.iadd, 1) := by decide +kernel
theorem dX12_buildAll_78 : decode cX12_buildAll 78 = .ok (.aload_n 0, 1) := by decide +kernel
theorem dX12_buildAll_79 : decode cX12_buildAll 79 = .ok (.iload_n 1, 1) := by decide +kernel
theorem dX12_buildAll_80 : decode cX12_buildAll 80 = .ok (.iload_n 3, 1) := by decide +kernel
theorem dX12_buildAll_81 : decode cX12_buildAll 81 = .ok (.invokevirtual 332, 3) := by decide +kernel
theorem dX12_buildAll_84 : decode cX12_buildAll 84 = .ok (.l2i, 1) := by decide +kernel
theorem dX12_buildAll_85 : decode cX12_buildAll 85 = .ok (.iastore, 1) := by decide +kernel
theorem dX12_buildAll_86 : decode cX12_buildAll 86 = .ok (.iinc 3 1, 3) := by decide +kernel
theorem dX12_buildAll_89 : decode cX12_buildAll 89 = .ok (.goto (-28), 3) := by decide +kernel
theorem dX12_buildAll_92 : decode cX12_buildAll 92 = .ok (.iconst 1, 1) := by decide +kernel
theorem dX12_buildAll_93 : decode cX12_buildAll 93 = .ok (.ireturn, 1) := by decide +kernel
theorem dX12_seenFrom_0 : decode cX12_seenFrom 0 = .ok (.iconst 0, 1) := by decide +kernel
theorem dX12_seenFrom_1 : decode cX12_seenFrom 1 = .ok (.istore_n 3, 1) := by decide +kernel
theorem dX12_seenFrom_2 : decode cX12_seenFrom 2 = .ok (.iconst 0, 1) := by decide +kernel
theorem dX12_seenFrom_3 : decode cX12_seenFrom 3 = .ok (.istore 4, 2) := by decide +kernel
theorem dX12_seenFrom_5 : decode cX12_seenFrom 5 = .ok (.iload 4, 2) := by decide +kernel
theorem dX12_seenFrom_7 : decode cX12_seenFrom 7 = .ok (.aload_n 0, 1) := by decide +kernel
theorem dX12_seenFrom_8 : decode cX12_seenFrom 8 = .ok (.invokevirtual 305, 3) := by decide +kernel
theorem dX12_seenFrom_11 : decode cX12_seenFrom 11 = .ok (.if_icmp .ge 36, 3) := by decide +kernel
theorem dX12_seenFrom_14 : decode cX12_seenFrom 14 = .ok (.aload_n 0, 1) := by decide +kernel
theorem dX12_seenFrom_15 : decode cX12_seenFrom 15 = .ok (.iload_n 1, 1) := by decide +kernel
theorem dX12_seenFrom_16 : decode cX12_seenFrom 16 = .ok (.iload 4, 2) := by decide +kernel
theorem dX12_seenFrom_18 : decode cX12_seenFrom 18 = .ok (.invokevirtual 327, 3) := by decide +kernel
theorem dX12_seenFrom_21 : decode cX12_seenFrom 21 = .ok (.iload_n 2, 1) := by decide +kernel
theorem dX12_seenFrom_22 : decode cX12_seenFrom 22 = .ok (.if_icmp .ne 19, 3) := by decide +kernel
theorem dX12_seenFrom_25 : decode cX12_seenFrom 25 = .ok (.iload_n 3, 1) := by decide +kernel
theorem dX12_seenFrom_26 : decode cX12_seenFrom 26 = .ok (.aload_n 0, 1) := by decide +kernel
theorem dX12_seenFrom_27 : decode cX12_seenFrom 27 = .ok (.getfield 35, 3) := by decide +kernel
theorem dX12_seenFrom_30 : decode cX12_seenFrom 30 = .ok (.sipush 144, 3) := by decide +kernel
theorem dX12_seenFrom_33 : decode cX12_seenFrom 33 = .ok (.iload 4, 2) := by decide +kernel
theorem dX12_seenFrom_35 : decode cX12_seenFrom 35 = .ok (.iadd, 1) := by decide +kernel
theorem dX12_seenFrom_36 : decode cX12_seenFrom 36 = .ok (.iaload, 1) := by decide +kernel
theorem dX12_seenFrom_37 : decode cX12_seenFrom 37 = .ok (.invokestatic 342, 3) := by decide +kernel
theorem dX12_seenFrom_40 : decode cX12_seenFrom 40 = .ok (.istore_n 3, 1) := by decide +kernel
theorem dX12_seenFrom_41 : decode cX12_seenFrom 41 = .ok (.iinc 4 1, 3) := by decide +kernel
theorem dX12_seenFrom_44 : decode cX12_seenFrom 44 = .ok (.goto (-39), 3) := by decide +kernel
theorem dX12_seenFrom_47 : decode cX12_seenFrom 47 = .ok (.iload_n 3, 1) := by decide +kernel
theorem dX12_seenFrom_48 : decode cX12_seenFrom 48 = .ok (.ireturn, 1) := by decide +kernel
theorem dX12_seen_0 : decode cX12_seen 0 = .ok (.aload_n 0, 1) := by decide +kernel
theorem dX12_seen_1 : decode cX12_seen 1 = .ok (.iconst 0, 1) := by decide +kernel
theorem dX12_seen_2 : decode cX12_seen 2 = .ok (.putfield 81, 3) := by decide +kernel
theorem dX12_seen_5 : decode cX12_seen 5 = .ok (.aload_n 0, 1) := by decide +kernel
theorem dX12_seen_6 : decode cX12_seen 6 = .ok (.iconst 0, 1) := by decide +kernel
theorem dX12_seen_7 : decode cX12_seen 7 = .ok (.putfield 84, 3) := by decide +kernel
theorem dX12_seen_10 : decode cX12_seen 10 = .ok (.aload_n 0, 1) := by decide +kernel
theorem dX12_seen_11 : decode cX12_seen 11 = .ok (.iload_n 1, 1) := by decide +kernel
theorem dX12_seen_12 : decode cX12_seen 12 = .ok (.iload_n 2, 1) := by decide +kernel
theorem dX12_seen_13 : decode cX12_seen 13 = .ok (.invokevirtual 322, 3) := by decide +kernel
theorem dX12_seen_16 : decode cX12_seen 16 = .ok (.ifCond .eq 20, 3) := by decide +kernel
theorem dX12_seen_19 : decode cX12_seen 19 = .ok (.aload_n 0, 1) := by decide +kernel
theorem dX12_seen_20 : decode cX12_seen 20 = .ok (.aload_n 0, 1) := by decide +kernel
theorem dX12_seen_21 : decode cX12_seen 21 = .ok (.getfield 35, 3) := by decide +kernel
theorem dX12_seen_24 : decode cX12_seen 24 = .ok (.bipush 78, 2) := by decide +kernel
theorem dX12_seen_26 : decode cX12_seen 26 = .ok (.iload_n 1, 1) := by decide +kernel
theorem dX12_seen_27 : decode cX12_seen 27 = .ok (.iadd, 1) := by decide +kernel
theorem dX12_seen_28 : decode cX12_seen 28 = .ok (.iaload, 1) := by decide +kernel
theorem dX12_seen_29 : decode cX12_seen 29 = .ok (.iload_n 2, 1) := by decide +kernel
theorem dX12_seen_30 : decode cX12_seen 30 = .ok (.invokevirtual 345, 3) := by decide +kernel
theorem dX12_seen_33 : decode cX12_seen 33 = .ok (.goto 8, 3) := by decide +kernel
theorem dX12_seen_36 : decode cX12_seen 36 = .ok (.aload_n 0, 1) := by decide +kernel
theorem dX12_seen_37 : decode cX12_seen 37 = .ok (.iconst 2, 1) := by decide +kernel
theorem dX12_seen_38 : decode cX12_seen 38 = .ok (.invokevirtual 316, 3) := by decide +kernel
theorem dX12_seen_41 : decode cX12_seen 41 = .ok (.ireturn, 1) := by decide +kernel
theorem dX12_otherwise_0 : decode cX12_otherwise 0 = .ok (.aload_n 0, 1) := by decide +kernel
theorem dX12_otherwise_1 : decode cX12_otherwise 1 = .ok (.iconst 0, 1) := by decide +kernel
theorem dX12_otherwise_2 : decode cX12_otherwise 2 = .ok (.putfield 81, 3) := by decide +kernel
theorem dX12_otherwise_5 : decode cX12_otherwise 5 = .ok (.aload_n 0, 1) := by decide +kernel
theorem dX12_otherwise_6 : decode cX12_otherwise 6 = .ok (.iconst 0, 1) := by decide +kernel
theorem dX12_otherwise_7 : decode cX12_otherwise 7 = .ok (.putfield 84, 3) := by decide +kernel
theorem dX12_otherwise_10 : decode cX12_otherwise 10 = .ok (.iload_n 1, 1) := by decide +kernel
theorem dX12_otherwise_11 : decode cX12_otherwise 11 = .ok (.i2l, 1) := by decide +kernel
theorem dX12_otherwise_12 : decode cX12_otherwise 12 = .ok (.lconst 0, 1) := by decide +kernel
theorem dX12_otherwise_13 : decode cX12_otherwise 13 = .ok (.lconst 1, 1) := by decide +kernel
theorem dX12_otherwise_14 : decode cX12_otherwise 14 = .ok (.invokestatic 116, 3) := by decide +kernel
theorem dX12_otherwise_17 : decode cX12_otherwise 17 = .ok (.ifCond .ne 9, 3) := by decide +kernel
theorem dX12_otherwise_20 : decode cX12_otherwise 20 = .ok (.aload_n 0, 1) := by decide +kernel
theorem dX12_otherwise_21 : decode cX12_otherwise 21 = .ok (.iconst 5, 1) := by decide +kernel
theorem dX12_otherwise_22 : decode cX12_otherwise 22 = .ok (.invokevirtual 316, 3) := by decide +kernel
theorem dX12_otherwise_25 : decode cX12_otherwise 25 = .ok (.ireturn, 1) := by decide +kernel
theorem dX12_otherwise_26 : decode cX12_otherwise 26 = .ok (.iconst 0, 1) := by decide +kernel
theorem dX12_otherwise_27 : decode cX12_otherwise 27 = .ok (.istore_n 2, 1) := by decide +kernel
theorem dX12_otherwise_28 : decode cX12_otherwise 28 = .ok (.iload_n 2, 1) := by decide +kernel
theorem dX12_otherwise_29 : decode cX12_otherwise 29 = .ok (.aload_n 0, 1) := by decide +kernel
theorem dX12_otherwise_30 : decode cX12_otherwise 30 = .ok (.getfield 35, 3) := by decide +kernel
theorem dX12_otherwise_33 : decode cX12_otherwise 33 = .ok (.iconst 2, 1) := by decide +kernel
theorem dX12_otherwise_34 : decode cX12_otherwise 34 = .ok (.iaload, 1) := by decide +kernel
theorem dX12_otherwise_35 : decode cX12_otherwise 35 = .ok (.if_icmp .ge 80, 3) := by decide +kernel
theorem dX12_otherwise_38 : decode cX12_otherwise 38 = .ok (.iconst 0, 1) := by decide +kernel
theorem dX12_otherwise_39 : decode cX12_otherwise 39 = .ok (.istore_n 3, 1) := by decide +kernel
theorem dX12_otherwise_40 : decode cX12_otherwise 40 = .ok (.iload_n 3, 1) := by decide +kernel
theorem dX12_otherwise_41 : decode cX12_otherwise 41 = .ok (.aload_n 0, 1) := by decide +kernel
theorem dX12_otherwise_42 : decode cX12_otherwise 42 = .ok (.iload_n 2, 1) := by decide +kernel
theorem dX12_otherwise_43 : decode cX12_otherwise 43 = .ok (.invokevirtual 311, 3) := by decide +kernel
theorem dX12_otherwise_46 : decode cX12_otherwise 46 = .ok (.if_icmp .ge 63, 3) := by decide +kernel
theorem dX12_otherwise_49 : decode cX12_otherwise 49 = .ok (.aload_n 0, 1) := by decide +kernel
theorem dX12_otherwise_50 : decode cX12_otherwise 50 = .ok (.getfield 35, 3) := by decide +kernel
theorem dX12_otherwise_53 : decode cX12_otherwise 53 = .ok (.bipush 84, 2) := by decide +kernel
theorem dX12_otherwise_55 : decode cX12_otherwise 55 = .ok (.iload_n 2, 1) := by decide +kernel
theorem dX12_otherwise_56 : decode cX12_otherwise 56 = .ok (.iadd, 1) := by decide +kernel
theorem dX12_otherwise_57 : decode cX12_otherwise 57 = .ok (.iaload, 1) := by decide +kernel
theorem dX12_otherwise_58 : decode cX12_otherwise 58 = .ok (.iconst 1, 1) := by decide +kernel
theorem dX12_otherwise_59 : decode cX12_otherwise 59 = .ok (.if_icmp .ne 44, 3) := by decide +kernel
theorem dX12_otherwise_62 : decode cX12_otherwise 62 = .ok (.aload_n 0, 1) := by decide +kernel
theorem dX12_otherwise_63 : decode cX12_otherwise 63 = .ok (.aload_n 0, 1) := by decide +kernel
theorem dX12_otherwise_64 : decode cX12_otherwise 64 = .ok (.getfield 35, 3) := by decide +kernel
theorem dX12_otherwise_67 : decode cX12_otherwise 67 = .ok (.bipush 78, 2) := by decide +kernel
theorem dX12_otherwise_69 : decode cX12_otherwise 69 = .ok (.iload_n 2, 1) := by decide +kernel
theorem dX12_otherwise_70 : decode cX12_otherwise 70 = .ok (.iadd, 1) := by decide +kernel
theorem dX12_otherwise_71 : decode cX12_otherwise 71 = .ok (.iaload, 1) := by decide +kernel
theorem dX12_otherwise_72 : decode cX12_otherwise 72 = .ok (.iload_n 3, 1) := by decide +kernel
theorem dX12_otherwise_73 : decode cX12_otherwise 73 = .ok (.invokevirtual 345, 3) := by decide +kernel
theorem dX12_otherwise_76 : decode cX12_otherwise 76 = .ok (.aload_n 0, 1) := by decide +kernel
theorem dX12_otherwise_77 : decode cX12_otherwise 77 = .ok (.getfield 35, 3) := by decide +kernel
theorem dX12_otherwise_80 : decode cX12_otherwise 80 = .ok (.bipush 90, 2) := by decide +kernel
theorem dX12_otherwise_82 : decode cX12_otherwise 82 = .ok (.bipush 9, 2) := by decide +kernel
theorem dX12_otherwise_84 : decode cX12_otherwise 84 = .ok (.iload_n 2, 1) := by decide +kernel
theorem dX12_otherwise_85 : decode cX12_otherwise 85 = .ok (.imul, 1) := by decide +kernel
theorem dX12_otherwise_86 : decode cX12_otherwise 86 = .ok (.iadd, 1) := by decide +kernel
theorem dX12_otherwise_87 : decode cX12_otherwise 87 = .ok (.iload_n 3, 1) := by decide +kernel
theorem dX12_otherwise_88 : decode cX12_otherwise 88 = .ok (.iadd, 1) := by decide +kernel
theorem dX12_otherwise_89 : decode cX12_otherwise 89 = .ok (.iaload, 1) := by decide +kernel
theorem dX12_otherwise_90 : decode cX12_otherwise 90 = .ok (.if_icmp .eq 13, 3) := by decide +kernel
theorem dX12_otherwise_93 : decode cX12_otherwise 93 = .ok (.iload_n 1, 1) := by decide +kernel
theorem dX12_otherwise_94 : decode cX12_otherwise 94 = .ok (.ifCond .ne 7, 3) := by decide +kernel
theorem dX12_otherwise_97 : decode cX12_otherwise 97 = .ok (.iload_n 2, 1) := by decide +kernel
theorem dX12_otherwise_98 : decode cX12_otherwise 98 = .ok (.goto 4, 3) := by decide +kernel
theorem dX12_otherwise_101 : decode cX12_otherwise 101 = .ok (.iload_n 3, 1) := by decide +kernel
theorem dX12_otherwise_102 : decode cX12_otherwise 102 = .ok (.ireturn, 1) := by decide +kernel
theorem dX12_otherwise_103 : decode cX12_otherwise 103 = .ok (.iinc 3 1, 3) := by decide +kernel
theorem dX12_otherwise_106 : decode cX12_otherwise 106 = .ok (.goto (-66), 3) := by decide +kernel
theorem dX12_otherwise_109 : decode cX12_otherwise 109 = .ok (.iinc 2 1, 3) := by decide +kernel
theorem dX12_otherwise_112 : decode cX12_otherwise 112 = .ok (.goto (-84), 3) := by decide +kernel
theorem dX12_otherwise_115 : decode cX12_otherwise 115 = .ok (.aload_n 0, 1) := by decide +kernel
theorem dX12_otherwise_116 : decode cX12_otherwise 116 = .ok (.bipush 8, 2) := by decide +kernel
theorem dX12_otherwise_118 : decode cX12_otherwise 118 = .ok (.invokevirtual 316, 3) := by decide +kernel
theorem dX12_otherwise_121 : decode cX12_otherwise 121 = .ok (.ireturn, 1) := by decide +kernel
theorem dX12_stoneNow_0 : decode cX12_stoneNow 0 = .ok (.iconst 0, 1) := by decide +kernel
theorem dX12_stoneNow_1 : decode cX12_stoneNow 1 = .ok (.istore_n 1, 1) := by decide +kernel
theorem dX12_stoneNow_2 : decode cX12_stoneNow 2 = .ok (.iconst 0, 1) := by decide +kernel
theorem dX12_stoneNow_3 : decode cX12_stoneNow 3 = .ok (.istore_n 2, 1) := by decide +kernel
theorem dX12_stoneNow_4 : decode cX12_stoneNow 4 = .ok (.iload_n 2, 1) := by decide +kernel
theorem dX12_stoneNow_5 : decode cX12_stoneNow 5 = .ok (.aload_n 0, 1) := by decide +kernel
theorem dX12_stoneNow_6 : decode cX12_stoneNow 6 = .ok (.invokevirtual 305, 3) := by decide +kernel
theorem dX12_stoneNow_9 : decode cX12_stoneNow 9 = .ok (.if_icmp .ge 46, 3) := by decide +kernel
theorem dX12_stoneNow_12 : decode cX12_stoneNow 12 = .ok (.iload_n 1, 1) := by decide +kernel
theorem dX12_stoneNow_13 : decode cX12_stoneNow 13 = .ok (.iconst 0, 1) := by decide +kernel
theorem dX12_stoneNow_14 : decode cX12_stoneNow 14 = .ok (.aload_n 0, 1) := by decide +kernel
theorem dX12_stoneNow_15 : decode cX12_stoneNow 15 = .ok (.getfield 35, 3) := by decide +kernel
theorem dX12_stoneNow_18 : decode cX12_stoneNow 18 = .ok (.sipush 144, 3) := by decide +kernel
theorem dX12_stoneNow_21 : decode cX12_stoneNow 21 = .ok (.iload_n 2, 1) := by decide +kernel
theorem dX12_stoneNow_22 : decode cX12_stoneNow 22 = .ok (.iadd, 1) := by decide +kernel
theorem dX12_stoneNow_23 : decode cX12_stoneNow 23 = .ok (.iaload, 1) := by decide +kernel
theorem dX12_stoneNow_24 : decode cX12_stoneNow 24 = .ok (.aload_n 0, 1) := by decide +kernel
theorem dX12_stoneNow_25 : decode cX12_stoneNow 25 = .ok (.getfield 35, 3) := by decide +kernel
theorem dX12_stoneNow_28 : decode cX12_stoneNow 28 = .ok (.bipush 28, 2) := by decide +kernel
theorem dX12_stoneNow_30 : decode cX12_stoneNow 30 = .ok (.iload_n 2, 1) := by decide +kernel
theorem dX12_stoneNow_31 : decode cX12_stoneNow 31 = .ok (.iadd, 1) := by decide +kernel
theorem dX12_stoneNow_32 : decode cX12_stoneNow 32 = .ok (.iaload, 1) := by decide +kernel
theorem dX12_stoneNow_33 : decode cX12_stoneNow 33 = .ok (.isub, 1) := by decide +kernel
theorem dX12_stoneNow_34 : decode cX12_stoneNow 34 = .ok (.invokestatic 342, 3) := by decide +kernel
theorem dX12_stoneNow_37 : decode cX12_stoneNow 37 = .ok (.aload_n 0, 1) := by decide +kernel
theorem dX12_stoneNow_38 : decode cX12_stoneNow 38 = .ok (.getfield 35, 3) := by decide +kernel
theorem dX12_stoneNow_41 : decode cX12_stoneNow 41 = .ok (.bipush 53, 2) := by decide +kernel
theorem dX12_stoneNow_43 : decode cX12_stoneNow 43 = .ok (.iload_n 2, 1) := by decide +kernel
theorem dX12_stoneNow_44 : decode cX12_stoneNow 44 = .ok (.iadd, 1) := by decide +kernel
theorem dX12_stoneNow_45 : decode cX12_stoneNow 45 = .ok (.iaload, 1) := by decide +kernel
theorem dX12_stoneNow_46 : decode cX12_stoneNow 46 = .ok (.imul, 1) := by decide +kernel
theorem dX12_stoneNow_47 : decode cX12_stoneNow 47 = .ok (.iadd, 1) := by decide +kernel
theorem dX12_stoneNow_48 : decode cX12_stoneNow 48 = .ok (.istore_n 1, 1) := by decide +kernel
theorem dX12_stoneNow_49 : decode cX12_stoneNow 49 = .ok (.iinc 2 1, 3) := by decide +kernel
theorem dX12_stoneNow_52 : decode cX12_stoneNow 52 = .ok (.goto (-48), 3) := by decide +kernel
theorem dX12_stoneNow_55 : decode cX12_stoneNow 55 = .ok (.iload_n 1, 1) := by decide +kernel
theorem dX12_stoneNow_56 : decode cX12_stoneNow 56 = .ok (.ireturn, 1) := by decide +kernel
theorem dX12_stone_0 : decode cX12_stone 0 = .ok (.aload_n 0, 1) := by decide +kernel
theorem dX12_stone_1 : decode cX12_stone 1 = .ok (.iconst 0, 1) := by decide +kernel
theorem dX12_stone_2 : decode cX12_stone 2 = .ok (.putfield 81, 3) := by decide +kernel
theorem dX12_stone_5 : decode cX12_stone 5 = .ok (.aload_n 0, 1) := by decide +kernel
theorem dX12_stone_6 : decode cX12_stone 6 = .ok (.iconst 0, 1) := by decide +kernel
theorem dX12_stone_7 : decode cX12_stone 7 = .ok (.putfield 84, 3) := by decide +kernel
theorem dX12_stone_10 : decode cX12_stone 10 = .ok (.aload_n 0, 1) := by decide +kernel
theorem dX12_stone_11 : decode cX12_stone 11 = .ok (.invokevirtual 348, 3) := by decide +kernel
theorem dX12_stone_14 : decode cX12_stone 14 = .ok (.ireturn, 1) := by decide +kernel
theorem dX12_ask_0 : decode cX12_ask 0 = .ok (.iconst 0, 1) := by decide +kernel
theorem dX12_ask_1 : decode cX12_ask 1 = .ok (.istore_n 2, 1) := by decide +kernel
theorem dX12_ask_2 : decode cX12_ask 2 = .ok (.iload_n 2, 1) := by decide +kernel
theorem dX12_ask_3 : decode cX12_ask 3 = .ok (.aload_n 0, 1) := by decide +kernel
theorem dX12_ask_4 : decode cX12_ask 4 = .ok (.getfield 35, 3) := by decide +kernel
theorem dX12_ask_7 : decode cX12_ask 7 = .ok (.iconst 2, 1) := by decide +kernel
theorem dX12_ask_8 : decode cX12_ask 8 = .ok (.iaload, 1) := by decide +kernel
theorem dX12_ask_9 : decode cX12_ask 9 = .ok (.if_icmp .ge 84, 3) := by decide +kernel
theorem dX12_ask_12 : decode cX12_ask 12 = .ok (.aload_n 0, 1) := by decide +kernel
theorem dX12_ask_13 : decode cX12_ask 13 = .ok (.getfield 41, 3) := by decide +kernel
theorem dX12_ask_16 : decode cX12_ask 16 = .ok (.iload_n 2, 1) := by decide +kernel
theorem dX12_ask_17 : decode cX12_ask 17 = .ok (.iload_n 1, 1) := by decide +kernel
theorem dX12_ask_18 : decode cX12_ask 18 = .ok (.iload_n 2, 1) := by decide +kernel
theorem dX12_ask_19 : decode cX12_ask 19 = .ok (.ishr, 1) := by decide +kernel
theorem dX12_ask_20 : decode cX12_ask 20 = .ok (.iconst 1, 1) := by decide +kernel
theorem dX12_ask_21 : decode cX12_ask 21 = .ok (.iand, 1) := by decide +kernel
theorem dX12_ask_22 : decode cX12_ask 22 = .ok (.iconst 1, 1) := by decide +kernel
theorem dX12_ask_23 : decode cX12_ask 23 = .ok (.if_icmp .ne 20, 3) := by decide +kernel
theorem dX12_ask_26 : decode cX12_ask 26 = .ok (.aload_n 0, 1) := by decide +kernel
theorem dX12_ask_27 : decode cX12_ask 27 = .ok (.getfield 35, 3) := by decide +kernel
theorem dX12_ask_30 : decode cX12_ask 30 = .ok (.bipush 84, 2) := by decide +kernel
theorem dX12_ask_32 : decode cX12_ask 32 = .ok (.iload_n 2, 1) := by decide +kernel
theorem dX12_ask_33 : decode cX12_ask 33 = .ok (.iadd, 1) := by decide +kernel
theorem dX12_ask_34 : decode cX12_ask 34 = .ok (.iaload, 1) := by decide +kernel
theorem dX12_ask_35 : decode cX12_ask 35 = .ok (.iconst 1, 1) := by decide +kernel
theorem dX12_ask_36 : decode cX12_ask 36 = .ok (.if_icmp .ne 7, 3) := by decide +kernel
theorem dX12_ask_39 : decode cX12_ask 39 = .ok (.iconst 1, 1) := by decide +kernel
theorem dX12_ask_40 : decode cX12_ask 40 = .ok (.goto 4, 3) := by decide +kernel
theorem dX12_ask_43 : decode cX12_ask 43 = .ok (.iconst 0, 1) := by decide +kernel
theorem dX12_ask_44 : decode cX12_ask 44 = .ok (.bastore, 1) := by decide +kernel
theorem dX12_ask_45 : decode cX12_ask 45 = .ok (.iconst 0, 1) := by decide +kernel
theorem dX12_ask_46 : decode cX12_ask 46 = .ok (.istore_n 3, 1) := by decide +kernel
theorem dX12_ask_47 : decode cX12_ask 47 = .ok (.iload_n 3, 1) := by decide +kernel
theorem dX12_ask_48 : decode cX12_ask 48 = .ok (.aload_n 0, 1) := by decide +kernel
theorem dX12_ask_49 : decode cX12_ask 49 = .ok (.iload_n 2, 1) := by decide +kernel
theorem dX12_ask_50 : decode cX12_ask 50 = .ok (.invokevirtual 311, 3) := by decide +kernel
theorem dX12_ask_53 : decode cX12_ask 53 = .ok (.if_icmp .ge 34, 3) := by decide +kernel
theorem dX12_ask_56 : decode cX12_ask 56 = .ok (.aload_n 0, 1) := by decide +kernel
theorem dX12_ask_57 : decode cX12_ask 57 = .ok (.getfield 45, 3) := by decide +kernel
theorem dX12_ask_60 : decode cX12_ask 60 = .ok (.bipush 9, 2) := by decide +kernel
theorem dX12_ask_62 : decode cX12_ask 62 = .ok (.iload_n 2, 1) := by decide +kernel
theorem dX12_ask_63 : decode cX12_ask 63 = .ok (.imul, 1) := by decide +kernel
theorem dX12_ask_64 : decode cX12_ask 64 = .ok (.iload_n 3, 1) := by decide +kernel
theorem dX12_ask_65 : decode cX12_ask 65 = .ok (.iadd, 1) := by decide +kernel
theorem dX12_ask_66 : decode cX12_ask 66 = .ok (.aload_n 0, 1) := by decide +kernel
theorem dX12_ask_67 : decode cX12_ask 67 = .ok (.getfield 35, 3) := by decide +kernel
theorem dX12_ask_70 : decode cX12_ask 70 = .ok (.bipush 90, 2) := by decide +kernel
theorem dX12_ask_72 : decode cX12_ask 72 = .ok (.bipush 9, 2) := by decide +kernel
theorem dX12_ask_74 : decode cX12_ask 74 = .ok (.iload_n 2, 1) := by decide +kernel
theorem dX12_ask_75 : decode cX12_ask 75 = .ok (.imul, 1) := by decide +kernel
theorem dX12_ask_76 : decode cX12_ask 76 = .ok (.iadd, 1) := by decide +kernel
theorem dX12_ask_77 : decode cX12_ask 77 = .ok (.iload_n 3, 1) := by decide +kernel
theorem dX12_ask_78 : decode cX12_ask 78 = .ok (.iadd, 1) := by decide +kernel
theorem dX12_ask_79 : decode cX12_ask 79 = .ok (.iaload, 1) := by decide +kernel
theorem dX12_ask_80 : decode cX12_ask 80 = .ok (.iastore, 1) := by decide +kernel
theorem dX12_ask_81 : decode cX12_ask 81 = .ok (.iinc 3 1, 3) := by decide +kernel
theorem dX12_ask_84 : decode cX12_ask 84 = .ok (.goto (-37), 3) := by decide +kernel
theorem dX12_ask_87 : decode cX12_ask 87 = .ok (.iinc 2 1, 3) := by decide +kernel
theorem dX12_ask_90 : decode cX12_ask 90 = .ok (.goto (-88), 3) := by decide +kernel
theorem dX12_ask_93 : decode cX12_ask 93 = .ok (.aload_n 0, 1) := by decide +kernel
theorem dX12_ask_94 : decode cX12_ask 94 = .ok (.invokevirtual 351, 3) := by decide +kernel
theorem dX12_ask_97 : decode cX12_ask 97 = .ok (.return_, 1) := by decide +kernel
theorem dX12_tellCaps_0 : decode cX12_tellCaps 0 = .ok (.iconst 0, 1) := by decide +kernel
theorem dX12_tellCaps_1 : decode cX12_tellCaps 1 = .ok (.istore_n 1, 1) := by decide +kernel
theorem dX12_tellCaps_2 : decode cX12_tellCaps 2 = .ok (.iload_n 1, 1) := by decide +kernel
theorem dX12_tellCaps_3 : decode cX12_tellCaps 3 = .ok (.aload_n 0, 1) := by decide +kernel
theorem dX12_tellCaps_4 : decode cX12_tellCaps 4 = .ok (.invokevirtual 305, 3) := by decide +kernel
theorem dX12_tellCaps_7 : decode cX12_tellCaps 7 = .ok (.if_icmp .ge 89, 3) := by decide +kernel
theorem dX12_tellCaps_10 : decode cX12_tellCaps 10 = .ok (.aload_n 0, 1) := by decide +kernel
theorem dX12_tellCaps_11 : decode cX12_tellCaps 11 = .ok (.getfield 48, 3) := by decide +kernel
theorem dX12_tellCaps_14 : decode cX12_tellCaps 14 = .ok (.iload_n 1, 1) := by decide +kernel
theorem dX12_tellCaps_15 : decode cX12_tellCaps 15 = .ok (.aload_n 0, 1) := by decide +kernel
theorem dX12_tellCaps_16 : decode cX12_tellCaps 16 = .ok (.getfield 35, 3) := by decide +kernel
theorem dX12_tellCaps_19 : decode cX12_tellCaps 19 = .ok (.iconst 3, 1) := by decide +kernel
theorem dX12_tellCaps_20 : decode cX12_tellCaps 20 = .ok (.iload_n 1, 1) := by decide +kernel
theorem dX12_tellCaps_21 : decode cX12_tellCaps 21 = .ok (.iadd, 1) := by decide +kernel
theorem dX12_tellCaps_22 : decode cX12_tellCaps 22 = .ok (.iaload, 1) := by decide +kernel
theorem dX12_tellCaps_23 : decode cX12_tellCaps 23 = .ok (.iastore, 1) := by decide +kernel
theorem dX12_tellCaps_24 : decode cX12_tellCaps 24 = .ok (.iconst 0, 1) := by decide +kernel
theorem dX12_tellCaps_25 : decode cX12_tellCaps 25 = .ok (.istore_n 2, 1) := by decide +kernel
theorem dX12_tellCaps_26 : decode cX12_tellCaps 26 = .ok (.iload_n 2, 1) := by decide +kernel
theorem dX12_tellCaps_27 : decode cX12_tellCaps 27 = .ok (.aload_n 0, 1) := by decide +kernel
theorem dX12_tellCaps_28 : decode cX12_tellCaps 28 = .ok (.getfield 35, 3) := by decide +kernel
theorem dX12_tellCaps_31 : decode cX12_tellCaps 31 = .ok (.iconst 2, 1) := by decide +kernel
theorem dX12_tellCaps_32 : decode cX12_tellCaps 32 = .ok (.iaload, 1) := by decide +kernel
theorem dX12_tellCaps_33 : decode cX12_tellCaps 33 = .ok (.if_icmp .ge 57, 3) := by decide +kernel
theorem dX12_tellCaps_36 : decode cX12_tellCaps 36 = .ok (.aload_n 0, 1) := by decide +kernel
theorem dX12_tellCaps_37 : decode cX12_tellCaps 37 = .ok (.getfield 41, 3) := by decide +kernel
theorem dX12_tellCaps_40 : decode cX12_tellCaps 40 = .ok (.iload_n 2, 1) := by decide +kernel
theorem dX12_tellCaps_41 : decode cX12_tellCaps 41 = .ok (.baload, 1) := by decide +kernel
theorem dX12_tellCaps_42 : decode cX12_tellCaps 42 = .ok (.ifCond .eq 42, 3) := by decide +kernel
theorem dX12_tellCaps_45 : decode cX12_tellCaps 45 = .ok (.aload_n 0, 1) := by decide +kernel
theorem dX12_tellCaps_46 : decode cX12_tellCaps 46 = .ok (.getfield 48, 3) := by decide +kernel
theorem dX12_tellCaps_49 : decode cX12_tellCaps 49 = .ok (.iload_n 1, 1) := by decide +kernel
theorem dX12_tellCaps_50 : decode cX12_tellCaps 50 = .ok (.aload_n 0, 1) := by decide +kernel
theorem dX12_tellCaps_51 : decode cX12_tellCaps 51 = .ok (.getfield 48, 3) := by decide +kernel
theorem dX12_tellCaps_54 : decode cX12_tellCaps 54 = .ok (.iload_n 1, 1) := by decide +kernel
theorem dX12_tellCaps_55 : decode cX12_tellCaps 55 = .ok (.iaload, 1) := by decide +kernel
theorem dX12_tellCaps_56 : decode cX12_tellCaps 56 = .ok (.aload_n 0, 1) := by decide +kernel
theorem dX12_tellCaps_57 : decode cX12_tellCaps 57 = .ok (.getfield 45, 3) := by decide +kernel
theorem dX12_tellCaps_60 : decode cX12_tellCaps 60 = .ok (.bipush 9, 2) := by decide +kernel
theorem dX12_tellCaps_62 : decode cX12_tellCaps 62 = .ok (.iload_n 2, 1) := by decide +kernel
theorem dX12_tellCaps_63 : decode cX12_tellCaps 63 = .ok (.imul, 1) := by decide +kernel
theorem dX12_tellCaps_64 : decode cX12_tellCaps 64 = .ok (.aload_n 0, 1) := by decide +kernel
theorem dX12_tellCaps_65 : decode cX12_tellCaps 65 = .ok (.aload_n 0, 1) := by decide +kernel
theorem dX12_tellCaps_66 : decode cX12_tellCaps 66 = .ok (.getfield 35, 3) := by decide +kernel
theorem dX12_tellCaps_69 : decode cX12_tellCaps 69 = .ok (.bipush 78, 2) := by decide +kernel
theorem dX12_tellCaps_71 : decode cX12_tellCaps 71 = .ok (.iload_n 2, 1) := by decide +kernel
theorem dX12_tellCaps_72 : decode cX12_tellCaps 72 = .ok (.iadd, 1) := by decide +kernel
theorem dX12_tellCaps_73 : decode cX12_tellCaps 73 = .ok (.iaload, 1) := by decide +kernel
theorem dX12_tellCaps_74 : decode cX12_tellCaps 74 = .ok (.iload_n 1, 1) := by decide +kernel
theorem dX12_tellCaps_75 : decode cX12_tellCaps 75 = .ok (.invokevirtual 327, 3) := by decide +kernel
theorem dX12_tellCaps_78 : decode cX12_tellCaps 78 = .ok (.iadd, 1) := by decide +kernel
theorem dX12_tellCaps_79 : decode cX12_tellCaps 79 = .ok (.iaload, 1) := by decide +kernel
theorem dX12_tellCaps_80 : decode cX12_tellCaps 80 = .ok (.invokestatic 354, 3) := by decide +kernel
theorem dX12_tellCaps_83 : decode cX12_tellCaps 83 = .ok (.iastore, 1) := by decide +kernel
theorem dX12_tellCaps_84 : decode cX12_tellCaps 84 = .ok (.iinc 2 1, 3) := by decide +kernel
theorem dX12_tellCaps_87 : decode cX12_tellCaps 87 = .ok (.goto (-61), 3) := by decide +kernel
theorem dX12_tellCaps_90 : decode cX12_tellCaps 90 = .ok (.iinc 1 1, 3) := by decide +kernel
theorem dX12_tellCaps_93 : decode cX12_tellCaps 93 = .ok (.goto (-91), 3) := by decide +kernel
theorem dX12_tellCaps_96 : decode cX12_tellCaps 96 = .ok (.return_, 1) := by decide +kernel
theorem dX12_ableIn_0 : decode cX12_ableIn 0 = .ok (.iconst 0, 1) := by decide +kernel
theorem dX12_ableIn_1 : decode cX12_ableIn 1 = .ok (.istore_n 3, 1) := by decide +kernel
theorem dX12_ableIn_2 : decode cX12_ableIn 2 = .ok (.iconst 0, 1) := by decide +kernel
theorem dX12_ableIn_3 : decode cX12_ableIn 3 = .ok (.istore 4, 2) := by decide +kernel
theorem dX12_ableIn_5 : decode cX12_ableIn 5 = .ok (.iload 4, 2) := by decide +kernel
theorem dX12_ableIn_7 : decode cX12_ableIn 7 = .ok (.aload_n 0, 1) := by decide +kernel
theorem dX12_ableIn_8 : decode cX12_ableIn 8 = .ok (.invokevirtual 305, 3) := by decide +kernel
theorem dX12_ableIn_11 : decode cX12_ableIn 11 = .ok (.if_icmp .ge 56, 3) := by decide +kernel
theorem dX12_ableIn_14 : decode cX12_ableIn 14 = .ok (.aload_n 0, 1) := by decide +kernel
theorem dX12_ableIn_15 : decode cX12_ableIn 15 = .ok (.aload_n 0, 1) := by decide +kernel
theorem dX12_ableIn_16 : decode cX12_ableIn 16 = .ok (.getfield 35, 3) := by decide +kernel
theorem dX12_ableIn_19 : decode cX12_ableIn 19 = .ok (.bipush 78, 2) := by decide +kernel
theorem dX12_ableIn_21 : decode cX12_ableIn 21 = .ok (.iload_n 1, 1) := by decide +kernel
theorem dX12_ableIn_22 : decode cX12_ableIn 22 = .ok (.iadd, 1) := by decide +kernel
theorem dX12_ableIn_23 : decode cX12_ableIn 23 = .ok (.iaload, 1) := by decide +kernel
theorem dX12_ableIn_24 : decode cX12_ableIn 24 = .ok (.iload 4, 2) := by decide +kernel
theorem dX12_ableIn_26 : decode cX12_ableIn 26 = .ok (.invokevirtual 327, 3) := by decide +kernel
theorem dX12_ableIn_29 : decode cX12_ableIn 29 = .ok (.iload_n 2, 1) := by decide +kernel
theorem dX12_ableIn_30 : decode cX12_ableIn 30 = .ok (.if_icmp .ne 31, 3) := by decide +kernel
theorem dX12_ableIn_33 : decode cX12_ableIn 33 = .ok (.aload_n 0, 1) := by decide +kernel
theorem dX12_ableIn_34 : decode cX12_ableIn 34 = .ok (.getfield 48, 3) := by decide +kernel
theorem dX12_ableIn_37 : decode cX12_ableIn 37 = .ok (.iload 4, 2) := by decide +kernel
theorem dX12_ableIn_39 : decode cX12_ableIn 39 = .ok (.iaload, 1) := by decide +kernel
theorem dX12_ableIn_40 : decode cX12_ableIn 40 = .ok (.aload_n 0, 1) := by decide +kernel
theorem dX12_ableIn_41 : decode cX12_ableIn 41 = .ok (.getfield 45, 3) := by decide +kernel
theorem dX12_ableIn_44 : decode cX12_ableIn 44 = .ok (.bipush 9, 2) := by decide +kernel
theorem dX12_ableIn_46 : decode cX12_ableIn 46 = .ok (.iload_n 1, 1) := by decide +kernel
theorem dX12_ableIn_47 : decode cX12_ableIn 47 = .ok (.imul, 1) := by decide +kernel
theorem dX12_ableIn_48 : decode cX12_ableIn 48 = .ok (.iload_n 2, 1) := by decide +kernel
theorem dX12_ableIn_49 : decode cX12_ableIn 49 = .ok (.iadd, 1) := by decide +kernel
theorem dX12_ableIn_50 : decode cX12_ableIn 50 = .ok (.iaload, 1) := by decide +kernel
theorem dX12_ableIn_51 : decode cX12_ableIn 51 = .ok (.if_icmp .ne 10, 3) := by decide +kernel
theorem dX12_ableIn_54 : decode cX12_ableIn 54 = .ok (.iload_n 3, 1) := by decide +kernel
theorem dX12_ableIn_55 : decode cX12_ableIn 55 = .ok (.iconst 1, 1) := by decide +kernel
theorem dX12_ableIn_56 : decode cX12_ableIn 56 = .ok (.iload 4, 2) := by decide +kernel
theorem dX12_ableIn_58 : decode cX12_ableIn 58 = .ok (.ishl, 1) := by decide +kernel
theorem dX12_ableIn_59 : decode cX12_ableIn 59 = .ok (.ior, 1) := by decide +kernel
theorem dX12_ableIn_60 : decode cX12_ableIn 60 = .ok (.istore_n 3, 1) := by decide +kernel
theorem dX12_ableIn_61 : decode cX12_ableIn 61 = .ok (.iinc 4 1, 3) := by decide +kernel
theorem dX12_ableIn_64 : decode cX12_ableIn 64 = .ok (.goto (-59), 3) := by decide +kernel
theorem dX12_ableIn_67 : decode cX12_ableIn 67 = .ok (.iload_n 3, 1) := by decide +kernel
theorem dX12_ableIn_68 : decode cX12_ableIn 68 = .ok (.ireturn, 1) := by decide +kernel
theorem dX12_canKeep_0 : decode cX12_canKeep 0 = .ok (.aload_n 0, 1) := by decide +kernel
theorem dX12_canKeep_1 : decode cX12_canKeep 1 = .ok (.iconst (-1), 1) := by decide +kernel
theorem dX12_canKeep_2 : decode cX12_canKeep 2 = .ok (.putfield 357, 3) := by decide +kernel
theorem dX12_canKeep_5 : decode cX12_canKeep 5 = .ok (.aload_n 0, 1) := by decide +kernel
theorem dX12_canKeep_6 : decode cX12_canKeep 6 = .ok (.iconst (-1), 1) := by decide +kernel
theorem dX12_canKeep_7 : decode cX12_canKeep 7 = .ok (.putfield 360, 3) := by decide +kernel
theorem dX12_canKeep_10 : decode cX12_canKeep 10 = .ok (.aload_n 0, 1) := by decide +kernel
theorem dX12_canKeep_11 : decode cX12_canKeep 11 = .ok (.iconst (-1), 1) := by decide +kernel
theorem dX12_canKeep_12 : decode cX12_canKeep 12 = .ok (.putfield 363, 3) := by decide +kernel
theorem dX12_canKeep_15 : decode cX12_canKeep 15 = .ok (.iconst 0, 1) := by decide +kernel
theorem dX12_canKeep_16 : decode cX12_canKeep 16 = .ok (.istore_n 1, 1) := by decide +kernel
theorem dX12_canKeep_17 : decode cX12_canKeep 17 = .ok (.iload_n 1, 1) := by decide +kernel
theorem dX12_canKeep_18 : decode cX12_canKeep 18 = .ok (.aload_n 0, 1) := by decide +kernel
theorem dX12_canKeep_19 : decode cX12_canKeep 19 = .ok (.invokevirtual 305, 3) := by decide +kernel
theorem dX12_canKeep_22 : decode cX12_canKeep 22 = .ok (.if_icmp .ge 39, 3) := by decide +kernel
theorem dX12_canKeep_25 : decode cX12_canKeep 25 = .ok (.aload_n 0, 1) := by decide +kernel
theorem dX12_canKeep_26 : decode cX12_canKeep 26 = .ok (.getfield 357, 3) := by decide +kernel
theorem dX12_canKeep_29 : decode cX12_canKeep 29 = .ok (.ifCond .ge 32, 3) := by decide +kernel
theorem dX12_canKeep_32 : decode cX12_canKeep 32 = .ok (.aload_n 0, 1) := by decide +kernel
theorem dX12_canKeep_33 : decode cX12_canKeep 33 = .ok (.getfield 48, 3) := by decide +kernel
theorem dX12_canKeep_36 : decode cX12_canKeep 36 = .ok (.iload_n 1, 1) := by decide +kernel
theorem dX12_canKeep_37 : decode cX12_canKeep 37 = .ok (.iaload, 1) := by decide +kernel
theorem dX12_canKeep_38 : decode cX12_canKeep 38 = .ok (.aload_n 0, 1) := by decide +kernel
theorem dX12_canKeep_39 : decode cX12_canKeep 39 = .ok (.getfield 35, 3) := by decide +kernel
theorem dX12_canKeep_42 : decode cX12_canKeep 42 = .ok (.bipush 28, 2) := by decide +kernel
theorem dX12_canKeep_44 : decode cX12_canKeep 44 = .ok (.iload_n 1, 1) := by decide +kernel
theorem dX12_canKeep_45 : decode cX12_canKeep 45 = .ok (.iadd, 1) := by decide +kernel
theorem dX12_canKeep_46 : decode cX12_canKeep 46 = .ok (.iaload, 1) := by decide +kernel
theorem dX12_canKeep_47 : decode cX12_canKeep 47 = .ok (.if_icmp .ge 8, 3) := by decide +kernel
theorem dX12_canKeep_50 : decode cX12_canKeep 50 = .ok (.aload_n 0, 1) := by decide +kernel
theorem dX12_canKeep_51 : decode cX12_canKeep 51 = .ok (.iload_n 1, 1) := by decide +kernel
theorem dX12_canKeep_52 : decode cX12_canKeep 52 = .ok (.putfield 357, 3) := by decide +kernel
theorem dX12_canKeep_55 : decode cX12_canKeep 55 = .ok (.iinc 1 1, 3) := by decide +kernel
theorem dX12_canKeep_58 : decode cX12_canKeep 58 = .ok (.goto (-41), 3) := by decide +kernel
theorem dX12_canKeep_61 : decode cX12_canKeep 61 = .ok (.aload_n 0, 1) := by decide +kernel
theorem dX12_canKeep_62 : decode cX12_canKeep 62 = .ok (.getfield 357, 3) := by decide +kernel
theorem dX12_canKeep_65 : decode cX12_canKeep 65 = .ok (.ifCond .lt 5, 3) := by decide +kernel
theorem dX12_canKeep_68 : decode cX12_canKeep 68 = .ok (.iconst 0, 1) := by decide +kernel
theorem dX12_canKeep_69 : decode cX12_canKeep 69 = .ok (.ireturn, 1) := by decide +kernel
theorem dX12_canKeep_70 : decode cX12_canKeep 70 = .ok (.iconst 0, 1) := by decide +kernel
theorem dX12_canKeep_71 : decode cX12_canKeep 71 = .ok (.istore_n 1, 1) := by decide +kernel
theorem dX12_canKeep_72 : decode cX12_canKeep 72 = .ok (.iload_n 1, 1) := by decide +kernel
theorem dX12_canKeep_73 : decode cX12_canKeep 73 = .ok (.aload_n 0, 1) := by decide +kernel
theorem dX12_canKeep_74 : decode cX12_canKeep 74 = .ok (.getfield 35, 3) := by decide +kernel
theorem dX12_canKeep_77 : decode cX12_canKeep 77 = .ok (.iconst 2, 1) := by decide +kernel
theorem dX12_canKeep_78 : decode cX12_canKeep 78 = .ok (.iaload, 1) := by decide +kernel
theorem dX12_canKeep_79 : decode cX12_canKeep 79 = .ok (.if_icmp .ge 59, 3) := by decide +kernel
theorem dX12_canKeep_82 : decode cX12_canKeep 82 = .ok (.iconst 0, 1) := by decide +kernel
theorem dX12_canKeep_83 : decode cX12_canKeep 83 = .ok (.istore_n 2, 1) := by decide +kernel
theorem dX12_canKeep_84 : decode cX12_canKeep 84 = .ok (.iload_n 2, 1) := by decide +kernel
theorem dX12_canKeep_85 : decode cX12_canKeep 85 = .ok (.aload_n 0, 1) := by decide +kernel
theorem dX12_canKeep_86 : decode cX12_canKeep 86 = .ok (.iload_n 1, 1) := by decide +kernel
theorem dX12_canKeep_87 : decode cX12_canKeep 87 = .ok (.invokevirtual 311, 3) := by decide +kernel
theorem dX12_canKeep_90 : decode cX12_canKeep 90 = .ok (.if_icmp .ge 42, 3) := by decide +kernel
theorem dX12_canKeep_93 : decode cX12_canKeep 93 = .ok (.aload_n 0, 1) := by decide +kernel
theorem dX12_canKeep_94 : decode cX12_canKeep 94 = .ok (.getfield 41, 3) := by decide +kernel
theorem dX12_canKeep_97 : decode cX12_canKeep 97 = .ok (.iload_n 1, 1) := by decide +kernel
theorem dX12_canKeep_98 : decode cX12_canKeep 98 = .ok (.baload, 1) := by decide +kernel
theorem dX12_canKeep_99 : decode cX12_canKeep 99 = .ok (.ifCond .eq 33, 3) := by decide +kernel
theorem dX12_canKeep_102 : decode cX12_canKeep 102 = .ok (.aload_n 0, 1) := by decide +kernel
theorem dX12_canKeep_103 : decode cX12_canKeep 103 = .ok (.iload_n 1, 1) := by decide +kernel
theorem dX12_canKeep_104 : decode cX12_canKeep 104 = .ok (.iload_n 2, 1) := by decide +kernel
theorem dX12_canKeep_105 : decode cX12_canKeep 105 = .ok (.invokevirtual 366, 3) := by decide +kernel
theorem dX12_canKeep_108 : decode cX12_canKeep 108 = .ok (.ifCond .eq 6, 3) := by decide +kernel
theorem dX12_canKeep_111 : decode cX12_canKeep 111 = .ok (.goto 15, 3) := by decide +kernel
theorem dX12_canKeep_114 : decode cX12_canKeep 114 = .ok (.aload_n 0, 1) := by decide +kernel
theorem dX12_canKeep_115 : decode cX12_canKeep 115 = .ok (.iload_n 1, 1) := by decide +kernel
theorem dX12_canKeep_116 : decode cX12_canKeep 116 = .ok (.putfield 360, 3) := by decide +kernel
theorem dX12_canKeep_119 : decode cX12_canKeep 119 = .ok (.aload_n 0, 1) := by decide +kernel
theorem dX12_canKeep_120 : decode cX12_canKeep 120 = .ok (.iload_n 2, 1) := by decide +kernel
theorem dX12_canKeep_121 : decode cX12_canKeep 121 = .ok (.putfield 363, 3) := by decide +kernel
theorem dX12_canKeep_124 : decode cX12_canKeep 124 = .ok (.iconst 0, 1) := by decide +kernel
theorem dX12_canKeep_125 : decode cX12_canKeep 125 = .ok (.ireturn, 1) := by decide +kernel
theorem dX12_canKeep_126 : decode cX12_canKeep 126 = .ok (.iinc 2 1, 3) := by decide +kernel
theorem dX12_canKeep_129 : decode cX12_canKeep 129 = .ok (.goto (-45), 3) := by decide +kernel
theorem dX12_canKeep_132 : decode cX12_canKeep 132 = .ok (.iinc 1 1, 3) := by decide +kernel
theorem dX12_canKeep_135 : decode cX12_canKeep 135 = .ok (.goto (-63), 3) := by decide +kernel
theorem dX12_canKeep_138 : decode cX12_canKeep 138 = .ok (.iconst 1, 1) := by decide +kernel
theorem dX12_canKeep_139 : decode cX12_canKeep 139 = .ok (.ireturn, 1) := by decide +kernel
theorem dX12_cap_0 : decode cX12_cap 0 = .ok (.aload_n 0, 1) := by decide +kernel
theorem dX12_cap_1 : decode cX12_cap 1 = .ok (.iconst 0, 1) := by decide +kernel
theorem dX12_cap_2 : decode cX12_cap 2 = .ok (.putfield 81, 3) := by decide +kernel
theorem dX12_cap_5 : decode cX12_cap 5 = .ok (.aload_n 0, 1) := by decide +kernel
theorem dX12_cap_6 : decode cX12_cap 6 = .ok (.iconst 0, 1) := by decide +kernel
theorem dX12_cap_7 : decode cX12_cap 7 = .ok (.putfield 84, 3) := by decide +kernel
theorem dX12_cap_10 : decode cX12_cap 10 = .ok (.aload_n 0, 1) := by decide +kernel
theorem dX12_cap_11 : decode cX12_cap 11 = .ok (.iload_n 1, 1) := by decide +kernel
theorem dX12_cap_12 : decode cX12_cap 12 = .ok (.invokevirtual 319, 3) := by decide +kernel
theorem dX12_cap_15 : decode cX12_cap 15 = .ok (.ifCond .eq 11, 3) := by decide +kernel
theorem dX12_cap_18 : decode cX12_cap 18 = .ok (.aload_n 0, 1) := by decide +kernel
theorem dX12_cap_19 : decode cX12_cap 19 = .ok (.iload_n 2, 1) := by decide +kernel
theorem dX12_cap_20 : decode cX12_cap 20 = .ok (.invokevirtual 369, 3) := by decide +kernel
theorem dX12_cap_23 : decode cX12_cap 23 = .ok (.ifCond .ne 9, 3) := by decide +kernel
theorem dX12_cap_26 : decode cX12_cap 26 = .ok (.aload_n 0, 1) := by decide +kernel
theorem dX12_cap_27 : decode cX12_cap 27 = .ok (.iconst 2, 1) := by decide +kernel
theorem dX12_cap_28 : decode cX12_cap 28 = .ok (.invokevirtual 316, 3) := by decide +kernel
theorem dX12_cap_31 : decode cX12_cap 31 = .ok (.ireturn, 1) := by decide +kernel
theorem dX12_cap_32 : decode cX12_cap 32 = .ok (.aload_n 0, 1) := by decide +kernel
theorem dX12_cap_33 : decode cX12_cap 33 = .ok (.iload_n 2, 1) := by decide +kernel
theorem dX12_cap_34 : decode cX12_cap 34 = .ok (.invokevirtual 372, 3) := by decide +kernel
theorem dX12_cap_37 : decode cX12_cap 37 = .ok (.aload_n 0, 1) := by decide +kernel
theorem dX12_cap_38 : decode cX12_cap 38 = .ok (.getfield 48, 3) := by decide +kernel
theorem dX12_cap_41 : decode cX12_cap 41 = .ok (.iload_n 1, 1) := by decide +kernel
theorem dX12_cap_42 : decode cX12_cap 42 = .ok (.iaload, 1) := by decide +kernel
theorem dX12_cap_43 : decode cX12_cap 43 = .ok (.ireturn, 1) := by decide +kernel
theorem dX12_can_0 : decode cX12_can 0 = .ok (.aload_n 0, 1) := by decide +kernel
theorem dX12_can_1 : decode cX12_can 1 = .ok (.iconst 0, 1) := by decide +kernel
theorem dX12_can_2 : decode cX12_can 2 = .ok (.putfield 81, 3) := by decide +kernel
theorem dX12_can_5 : decode cX12_can 5 = .ok (.aload_n 0, 1) := by decide +kernel
theorem dX12_can_6 : decode cX12_can 6 = .ok (.iconst 0, 1) := by decide +kernel
theorem dX12_can_7 : decode cX12_can 7 = .ok (.putfield 84, 3) := by decide +kernel
theorem dX12_can_10 : decode cX12_can 10 = .ok (.aload_n 0, 1) := by decide +kernel
theorem dX12_can_11 : decode cX12_can 11 = .ok (.iload_n 1, 1) := by decide +kernel
theorem dX12_can_12 : decode cX12_can 12 = .ok (.invokevirtual 369, 3) := by decide +kernel
theorem dX12_can_15 : decode cX12_can 15 = .ok (.ifCond .ne 9, 3) := by decide +kernel
theorem dX12_can_18 : decode cX12_can 18 = .ok (.aload_n 0, 1) := by decide +kernel
theorem dX12_can_19 : decode cX12_can 19 = .ok (.iconst 2, 1) := by decide +kernel
theorem dX12_can_20 : decode cX12_can 20 = .ok (.invokevirtual 316, 3) := by decide +kernel
theorem dX12_can_23 : decode cX12_can 23 = .ok (.ireturn, 1) := by decide +kernel
theorem dX12_can_24 : decode cX12_can 24 = .ok (.aload_n 0, 1) := by decide +kernel
theorem dX12_can_25 : decode cX12_can 25 = .ok (.iload_n 1, 1) := by decide +kernel
theorem dX12_can_26 : decode cX12_can 26 = .ok (.invokevirtual 372, 3) := by decide +kernel
theorem dX12_can_29 : decode cX12_can 29 = .ok (.aload_n 0, 1) := by decide +kernel
theorem dX12_can_30 : decode cX12_can 30 = .ok (.invokevirtual 375, 3) := by decide +kernel
theorem dX12_can_33 : decode cX12_can 33 = .ok (.ifCond .eq 7, 3) := by decide +kernel
theorem dX12_can_36 : decode cX12_can 36 = .ok (.iconst 1, 1) := by decide +kernel
theorem dX12_can_37 : decode cX12_can 37 = .ok (.goto 4, 3) := by decide +kernel
theorem dX12_can_40 : decode cX12_can 40 = .ok (.iconst 0, 1) := by decide +kernel
theorem dX12_can_41 : decode cX12_can 41 = .ok (.ireturn, 1) := by decide +kernel
theorem dX12_barred_0 : decode cX12_barred 0 = .ok (.aload_n 0, 1) := by decide +kernel
theorem dX12_barred_1 : decode cX12_barred 1 = .ok (.iconst 0, 1) := by decide +kernel
theorem dX12_barred_2 : decode cX12_barred 2 = .ok (.putfield 81, 3) := by decide +kernel
theorem dX12_barred_5 : decode cX12_barred 5 = .ok (.aload_n 0, 1) := by decide +kernel
theorem dX12_barred_6 : decode cX12_barred 6 = .ok (.iconst 0, 1) := by decide +kernel
theorem dX12_barred_7 : decode cX12_barred 7 = .ok (.putfield 84, 3) := by decide +kernel
theorem dX12_barred_10 : decode cX12_barred 10 = .ok (.aload_n 0, 1) := by decide +kernel
theorem dX12_barred_11 : decode cX12_barred 11 = .ok (.iload_n 1, 1) := by decide +kernel
theorem dX12_barred_12 : decode cX12_barred 12 = .ok (.invokevirtual 369, 3) := by decide +kernel
theorem dX12_barred_15 : decode cX12_barred 15 = .ok (.ifCond .ne 9, 3) := by decide +kernel
theorem dX12_barred_18 : decode cX12_barred 18 = .ok (.aload_n 0, 1) := by decide +kernel
theorem dX12_barred_19 : decode cX12_barred 19 = .ok (.iconst 2, 1) := by decide +kernel
theorem dX12_barred_20 : decode cX12_barred 20 = .ok (.invokevirtual 316, 3) := by decide +kernel
theorem dX12_barred_23 : decode cX12_barred 23 = .ok (.ireturn, 1) := by decide +kernel
theorem dX12_barred_24 : decode cX12_barred 24 = .ok (.iload_n 2, 1) := by decide +kernel
theorem dX12_barred_25 : decode cX12_barred 25 = .ok (.i2l, 1) := by decide +kernel
theorem dX12_barred_26 : decode cX12_barred 26 = .ok (.lconst 0, 1) := by decide +kernel
theorem dX12_barred_27 : decode cX12_barred 27 = .ok (.ldc2_w 314, 3) := by decide +kernel
theorem dX12_barred_30 : decode cX12_barred 30 = .ok (.invokestatic 116, 3) := by decide +kernel
theorem dX12_barred_33 : decode cX12_barred 33 = .ok (.ifCond .ne 9, 3) := by decide +kernel
theorem dX12_barred_36 : decode cX12_barred 36 = .ok (.aload_n 0, 1) := by decide +kernel
theorem dX12_barred_37 : decode cX12_barred 37 = .ok (.iconst 5, 1) := by decide +kernel
theorem dX12_barred_38 : decode cX12_barred 38 = .ok (.invokevirtual 316, 3) := by decide +kernel
theorem dX12_barred_41 : decode cX12_barred 41 = .ok (.ireturn, 1) := by decide +kernel
theorem dX12_barred_42 : decode cX12_barred 42 = .ok (.aload_n 0, 1) := by decide +kernel
theorem dX12_barred_43 : decode cX12_barred 43 = .ok (.iload_n 1, 1) := by decide +kernel
theorem dX12_barred_44 : decode cX12_barred 44 = .ok (.invokevirtual 372, 3) := by decide +kernel
theorem dX12_barred_47 : decode cX12_barred 47 = .ok (.aload_n 0, 1) := by decide +kernel
theorem dX12_barred_48 : decode cX12_barred 48 = .ok (.invokevirtual 375, 3) := by decide +kernel
theorem dX12_barred_51 : decode cX12_barred 51 = .ok (.ifCond .eq 10, 3) := by decide +kernel
theorem dX12_barred_54 : decode cX12_barred 54 = .ok (.aload_n 0, 1) := by decide +kernel
theorem dX12_barred_55 : decode cX12_barred 55 = .ok (.bipush 8, 2) := by decide +kernel
theorem dX12_barred_57 : decode cX12_barred 57 = .ok (.invokevirtual 316, 3) := by decide +kernel
theorem dX12_barred_60 : decode cX12_barred 60 = .ok (.ireturn, 1) := by decide +kernel
theorem dX12_barred_61 : decode cX12_barred 61 = .ok (.iload_n 2, 1) := by decide +kernel
theorem dX12_barred_62 : decode cX12_barred 62 = .ok (.ifCond .ne 10, 3) := by decide +kernel
theorem dX12_barred_65 : decode cX12_barred 65 = .ok (.aload_n 0, 1) := by decide +kernel
theorem dX12_barred_66 : decode cX12_barred 66 = .ok (.getfield 357, 3) := by decide +kernel
theorem dX12_barred_69 : decode cX12_barred 69 = .ok (.goto 19, 3) := by decide +kernel
theorem dX12_barred_72 : decode cX12_barred 72 = .ok (.iload_n 2, 1) := by decide +kernel
theorem dX12_barred_73 : decode cX12_barred 73 = .ok (.iconst 1, 1) := by decide +kernel
theorem dX12_barred_74 : decode cX12_barred 74 = .ok (.if_icmp .ne 10, 3) := by decide +kernel
theorem dX12_barred_77 : decode cX12_barred 77 = .ok (.aload_n 0, 1) := by decide +kernel
theorem dX12_barred_78 : decode cX12_barred 78 = .ok (.getfield 360, 3) := by decide +kernel
theorem dX12_barred_81 : decode cX12_barred 81 = .ok (.goto 7, 3) := by decide +kernel
theorem dX12_barred_84 : decode cX12_barred 84 = .ok (.aload_n 0, 1) := by decide +kernel
theorem dX12_barred_85 : decode cX12_barred 85 = .ok (.getfield 363, 3) := by decide +kernel
theorem dX12_barred_88 : decode cX12_barred 88 = .ok (.ireturn, 1) := by decide +kernel
theorem dX12_largest_0 : decode cX12_largest 0 = .ok (.aload_n 0, 1) := by decide +kernel
theorem dX12_largest_1 : decode cX12_largest 1 = .ok (.iconst 0, 1) := by decide +kernel
theorem dX12_largest_2 : decode cX12_largest 2 = .ok (.putfield 81, 3) := by decide +kernel
theorem dX12_largest_5 : decode cX12_largest 5 = .ok (.aload_n 0, 1) := by decide +kernel
theorem dX12_largest_6 : decode cX12_largest 6 = .ok (.iconst 0, 1) := by decide +kernel
theorem dX12_largest_7 : decode cX12_largest 7 = .ok (.putfield 84, 3) := by decide +kernel
theorem dX12_largest_10 : decode cX12_largest 10 = .ok (.aload_n 0, 1) := by decide +kernel
theorem dX12_largest_11 : decode cX12_largest 11 = .ok (.iload_n 1, 1) := by decide +kernel
theorem dX12_largest_12 : decode cX12_largest 12 = .ok (.invokevirtual 369, 3) := by decide +kernel
theorem dX12_largest_15 : decode cX12_largest 15 = .ok (.ifCond .ne 9, 3) := by decide +kernel
theorem dX12_largest_18 : decode cX12_largest 18 = .ok (.aload_n 0, 1) := by decide +kernel
theorem dX12_largest_19 : decode cX12_largest 19 = .ok (.iconst 2, 1) := by decide +kernel
theorem dX12_largest_20 : decode cX12_largest 20 = .ok (.invokevirtual 316, 3) := by decide +kernel
theorem dX12_largest_23 : decode cX12_largest 23 = .ok (.ireturn, 1) := by decide +kernel
theorem dX12_largest_24 : decode cX12_largest 24 = .ok (.aload_n 0, 1) := by decide +kernel
theorem dX12_largest_25 : decode cX12_largest 25 = .ok (.iload_n 1, 1) := by decide +kernel
theorem dX12_largest_26 : decode cX12_largest 26 = .ok (.invokevirtual 372, 3) := by decide +kernel
theorem dX12_largest_29 : decode cX12_largest 29 = .ok (.aload_n 0, 1) := by decide +kernel
theorem dX12_largest_30 : decode cX12_largest 30 = .ok (.invokevirtual 375, 3) := by decide +kernel
theorem dX12_largest_33 : decode cX12_largest 33 = .ok (.ifCond .ne 10, 3) := by decide +kernel
theorem dX12_largest_36 : decode cX12_largest 36 = .ok (.aload_n 0, 1) := by decide +kernel
theorem dX12_largest_37 : decode cX12_largest 37 = .ok (.bipush 9, 2) := by decide +kernel
theorem dX12_largest_39 : decode cX12_largest 39 = .ok (.invokevirtual 316, 3) := by decide +kernel
theorem dX12_largest_42 : decode cX12_largest 42 = .ok (.ireturn, 1) := by decide +kernel
theorem dX12_largest_43 : decode cX12_largest 43 = .ok (.iconst 0, 1) := by decide +kernel
theorem dX12_largest_44 : decode cX12_largest 44 = .ok (.istore_n 2, 1) := by decide +kernel
theorem dX12_largest_45 : decode cX12_largest 45 = .ok (.iload_n 2, 1) := by decide +kernel
theorem dX12_largest_46 : decode cX12_largest 46 = .ok (.aload_n 0, 1) := by decide +kernel
theorem dX12_largest_47 : decode cX12_largest 47 = .ok (.invokevirtual 305, 3) := by decide +kernel
theorem dX12_largest_50 : decode cX12_largest 50 = .ok (.if_icmp .ge 25, 3) := by decide +kernel
theorem dX12_largest_53 : decode cX12_largest 53 = .ok (.aload_n 0, 1) := by decide +kernel
theorem dX12_largest_54 : decode cX12_largest 54 = .ok (.getfield 35, 3) := by decide +kernel
theorem dX12_largest_57 : decode cX12_largest 57 = .ok (.sipush 144, 3) := by decide +kernel
theorem dX12_largest_60 : decode cX12_largest 60 = .ok (.iload_n 2, 1) := by decide +kernel
theorem dX12_largest_61 : decode cX12_largest 61 = .ok (.iadd, 1) := by decide +kernel
theorem dX12_largest_62 : decode cX12_largest 62 = .ok (.aload_n 0, 1) := by decide +kernel
theorem dX12_largest_63 : decode cX12_largest 63 = .ok (.getfield 48, 3) := by decide +kernel
theorem dX12_largest_66 : decode cX12_largest 66 = .ok (.iload_n 2, 1) := by decide +kernel
theorem dX12_largest_67 : decode cX12_largest 67 = .ok (.iaload, 1) := by decide +kernel
theorem dX12_largest_68 : decode cX12_largest 68 = .ok (.iastore, 1) := by decide +kernel
theorem dX12_largest_69 : decode cX12_largest 69 = .ok (.iinc 2 1, 3) := by decide +kernel
theorem dX12_largest_72 : decode cX12_largest 72 = .ok (.goto (-27), 3) := by decide +kernel
theorem dX12_largest_75 : decode cX12_largest 75 = .ok (.aload_n 0, 1) := by decide +kernel
theorem dX12_largest_76 : decode cX12_largest 76 = .ok (.invokevirtual 348, 3) := by decide +kernel
theorem dX12_largest_79 : decode cX12_largest 79 = .ok (.ireturn, 1) := by decide +kernel
theorem dX12_has_0 : decode cX12_has 0 = .ok (.iload_n 1, 1) := by decide +kernel
theorem dX12_has_1 : decode cX12_has 1 = .ok (.iload_n 2, 1) := by decide +kernel
theorem dX12_has_2 : decode cX12_has 2 = .ok (.ishr, 1) := by decide +kernel
theorem dX12_has_3 : decode cX12_has 3 = .ok (.iconst 1, 1) := by decide +kernel
theorem dX12_has_4 : decode cX12_has 4 = .ok (.iand, 1) := by decide +kernel
theorem dX12_has_5 : decode cX12_has 5 = .ok (.iconst 1, 1) := by decide +kernel
theorem dX12_has_6 : decode cX12_has 6 = .ok (.if_icmp .ne 7, 3) := by decide +kernel
theorem dX12_has_9 : decode cX12_has 9 = .ok (.iconst 1, 1) := by decide +kernel
theorem dX12_has_10 : decode cX12_has 10 = .ok (.goto 4, 3) := by decide +kernel
theorem dX12_has_13 : decode cX12_has 13 = .ok (.iconst 0, 1) := by decide +kernel
theorem dX12_has_14 : decode cX12_has 14 = .ok (.ireturn, 1) := by decide +kernel
theorem dX12_findCovers_0 : decode cX12_findCovers 0 = .ok (.aload_n 0, 1) := by decide +kernel
theorem dX12_findCovers_1 : decode cX12_findCovers 1 = .ok (.iconst 0, 1) := by decide +kernel
theorem dX12_findCovers_2 : decode cX12_findCovers 2 = .ok (.putfield 378, 3) := by decide +kernel
theorem dX12_findCovers_5 : decode cX12_findCovers 5 = .ok (.iconst 0, 1) := by decide +kernel
theorem dX12_findCovers_6 : decode cX12_findCovers 6 = .ok (.istore_n 1, 1) := by decide +kernel
theorem dX12_findCovers_7 : decode cX12_findCovers 7 = .ok (.iload_n 1, 1) := by decide +kernel
theorem dX12_findCovers_8 : decode cX12_findCovers 8 = .ok (.aload_n 0, 1) := by decide +kernel
theorem dX12_findCovers_9 : decode cX12_findCovers 9 = .ok (.getfield 35, 3) := by decide +kernel
theorem dX12_findCovers_12 : decode cX12_findCovers 12 = .ok (.iconst 2, 1) := by decide +kernel
theorem dX12_findCovers_13 : decode cX12_findCovers 13 = .ok (.iaload, 1) := by decide +kernel
theorem dX12_findCovers_14 : decode cX12_findCovers 14 = .ok (.if_icmp .ge 133, 3) := by decide +kernel
theorem dX12_findCovers_17 : decode cX12_findCovers 17 = .ok (.iconst 0, 1) := by decide +kernel
theorem dX12_findCovers_18 : decode cX12_findCovers 18 = .ok (.istore_n 2, 1) := by decide +kernel
theorem dX12_findCovers_19 : decode cX12_findCovers 19 = .ok (.iload_n 2, 1) := by decide +kernel
theorem dX12_findCovers_20 : decode cX12_findCovers 20 = .ok (.aload_n 0, 1) := by decide +kernel
theorem dX12_findCovers_21 : decode cX12_findCovers 21 = .ok (.iload_n 1, 1) := by decide +kernel
theorem dX12_findCovers_22 : decode cX12_findCovers 22 = .ok (.invokevirtual 311, 3) := by decide +kernel
theorem dX12_findCovers_25 : decode cX12_findCovers 25 = .ok (.if_icmp .ge 116, 3) := by decide +kernel
theorem dX12_findCovers_28 : decode cX12_findCovers 28 = .ok (.aload_n 0, 1) := by decide +kernel
theorem dX12_findCovers_29 : decode cX12_findCovers 29 = .ok (.getfield 41, 3) := by decide +kernel
theorem dX12_findCovers_32 : decode cX12_findCovers 32 = .ok (.iload_n 1, 1) := by decide +kernel
theorem dX12_findCovers_33 : decode cX12_findCovers 33 = .ok (.baload, 1) := by decide +kernel
theorem dX12_findCovers_34 : decode cX12_findCovers 34 = .ok (.ifCond .eq 107, 3) := by decide +kernel
theorem dX12_findCovers_37 : decode cX12_findCovers 37 = .ok (.aload_n 0, 1) := by decide +kernel
theorem dX12_findCovers_38 : decode cX12_findCovers 38 = .ok (.iload_n 1, 1) := by decide +kernel
theorem dX12_findCovers_39 : decode cX12_findCovers 39 = .ok (.iload_n 2, 1) := by decide +kernel
theorem dX12_findCovers_40 : decode cX12_findCovers 40 = .ok (.invokevirtual 366, 3) := by decide +kernel
theorem dX12_findCovers_43 : decode cX12_findCovers 43 = .ok (.istore_n 3, 1) := by decide +kernel
theorem dX12_findCovers_44 : decode cX12_findCovers 44 = .ok (.iconst 0, 1) := by decide +kernel
theorem dX12_findCovers_45 : decode cX12_findCovers 45 = .ok (.istore 4, 2) := by decide +kernel
theorem dX12_findCovers_47 : decode cX12_findCovers 47 = .ok (.iconst 0, 1) := by decide +kernel
theorem dX12_findCovers_48 : decode cX12_findCovers 48 = .ok (.istore 5, 2) := by decide +kernel
theorem dX12_findCovers_50 : decode cX12_findCovers 50 = .ok (.iload 5, 2) := by decide +kernel
theorem dX12_findCovers_52 : decode cX12_findCovers 52 = .ok (.aload_n 0, 1) := by decide +kernel
theorem dX12_findCovers_53 : decode cX12_findCovers 53 = .ok (.invokevirtual 305, 3) := by decide +kernel
theorem dX12_findCovers_56 : decode cX12_findCovers 56 = .ok (.if_icmp .ge 51, 3) := by decide +kernel
theorem dX12_findCovers_59 : decode cX12_findCovers 59 = .ok (.iload 4, 2) := by decide +kernel
theorem dX12_findCovers_61 : decode cX12_findCovers 61 = .ok (.ifCond .ne 33, 3) := by decide +kernel
theorem dX12_findCovers_64 : decode cX12_findCovers 64 = .ok (.aload_n 0, 1) := by decide +kernel
theorem dX12_findCovers_65 : decode cX12_findCovers 65 = .ok (.iload_n 3, 1) := by decide +kernel
theorem dX12_findCovers_66 : decode cX12_findCovers 66 = .ok (.iload 5, 2) := by decide +kernel
theorem dX12_findCovers_68 : decode cX12_findCovers 68 = .ok (.invokevirtual 381, 3) := by decide +kernel
theorem dX12_findCovers_71 : decode cX12_findCovers 71 = .ok (.ifCond .eq 27, 3) := by decide +kernel
theorem dX12_findCovers_74 : decode cX12_findCovers 74 = .ok (.aload_n 0, 1) := by decide +kernel
theorem dX12_findCovers_75 : decode cX12_findCovers 75 = .ok (.getfield 48, 3) := by decide +kernel
theorem dX12_findCovers_78 : decode cX12_findCovers 78 = .ok (.iload 5, 2) := by decide +kernel
theorem dX12_findCovers_80 : decode cX12_findCovers 80 = .ok (.iaload, 1) := by decide +kernel
theorem dX12_findCovers_81 : decode cX12_findCovers 81 = .ok (.aload_n 0, 1) := by decide +kernel
theorem dX12_findCovers_82 : decode cX12_findCovers 82 = .ok (.getfield 35, 3) := by decide +kernel
theorem dX12_findCovers_85 : decode cX12_findCovers 85 = .ok (.bipush 28, 2) := by decide +kernel
theorem dX12_findCovers_87 : decode cX12_findCovers 87 = .ok (.iload 5, 2) := by decide +kernel
theorem dX12_findCovers_89 : decode cX12_findCovers 89 = .ok (.iadd, 1) := by decide +kernel
theorem dX12_findCovers_90 : decode cX12_findCovers 90 = .ok (.iaload, 1) := by decide +kernel
theorem dX12_findCovers_91 : decode cX12_findCovers 91 = .ok (.if_icmp .ne 7, 3) := by decide +kernel
theorem dX12_findCovers_94 : decode cX12_findCovers 94 = .ok (.iconst 1, 1) := by decide +kernel
theorem dX12_findCovers_95 : decode cX12_findCovers 95 = .ok (.goto 4, 3) := by decide +kernel
theorem dX12_findCovers_98 : decode cX12_findCovers 98 = .ok (.iconst 0, 1) := by decide +kernel
theorem dX12_findCovers_99 : decode cX12_findCovers 99 = .ok (.istore 4, 2) := by decide +kernel
theorem dX12_findCovers_101 : decode cX12_findCovers 101 = .ok (.iinc 5 1, 3) := by decide +kernel
theorem dX12_findCovers_104 : decode cX12_findCovers 104 = .ok (.goto (-54), 3) := by decide +kernel
theorem dX12_findCovers_107 : decode cX12_findCovers 107 = .ok (.iload 4, 2) := by decide +kernel
theorem dX12_findCovers_109 : decode cX12_findCovers 109 = .ok (.ifCond .eq 6, 3) := by decide +kernel
theorem dX12_findCovers_112 : decode cX12_findCovers 112 = .ok (.goto 23, 3) := by decide +kernel
theorem dX12_findCovers_115 : decode cX12_findCovers 115 = .ok (.aload_n 0, 1) := by decide +kernel
theorem dX12_findCovers_116 : decode cX12_findCovers 116 = .ok (.getfield 54, 3) := by decide +kernel
theorem dX12_findCovers_119 : decode cX12_findCovers 119 = .ok (.aload_n 0, 1) := by decide +kernel
theorem dX12_findCovers_120 : decode cX12_findCovers 120 = .ok (.getfield 378, 3) := by decide +kernel
theorem dX12_findCovers_123 : decode cX12_findCovers 123 = .ok (.iload_n 3, 1) := by decide +kernel
theorem dX12_findCovers_124 : decode cX12_findCovers 124 = .ok (.iastore, 1) := by decide +kernel
theorem dX12_findCovers_125 : decode cX12_findCovers 125 = .ok (.aload_n 0, 1) := by decide +kernel
theorem dX12_findCovers_126 : decode cX12_findCovers 126 = .ok (.dup, 1) := by decide +kernel
theorem dX12_findCovers_127 : decode cX12_findCovers 127 = .ok (.getfield 378, 3) := by decide +kernel
theorem dX12_findCovers_130 : decode cX12_findCovers 130 = .ok (.iconst 1, 1) := by decide +kernel
theorem dX12_findCovers_131 : decode cX12_findCovers 131 = .ok (.iadd, 1) := by decide +kernel
theorem dX12_findCovers_132 : decode cX12_findCovers 132 = .ok (.putfield 378, 3) := by decide +kernel
theorem dX12_findCovers_135 : decode cX12_findCovers 135 = .ok (.iinc 2 1, 3) := by decide +kernel
theorem dX12_findCovers_138 : decode cX12_findCovers 138 = .ok (.goto (-119), 3) := by decide +kernel
theorem dX12_findCovers_141 : decode cX12_findCovers 141 = .ok (.iinc 1 1, 3) := by decide +kernel
theorem dX12_findCovers_144 : decode cX12_findCovers 144 = .ok (.goto (-137), 3) := by decide +kernel
theorem dX12_findCovers_147 : decode cX12_findCovers 147 = .ok (.return_, 1) := by decide +kernel
theorem dX12_bits_0 : decode cX12_bits 0 = .ok (.iconst 0, 1) := by decide +kernel
theorem dX12_bits_1 : decode cX12_bits 1 = .ok (.istore_n 1, 1) := by decide +kernel
theorem dX12_bits_2 : decode cX12_bits 2 = .ok (.iconst 0, 1) := by decide +kernel
theorem dX12_bits_3 : decode cX12_bits 3 = .ok (.istore_n 2, 1) := by decide +kernel
theorem dX12_bits_4 : decode cX12_bits 4 = .ok (.iload_n 2, 1) := by decide +kernel
theorem dX12_bits_5 : decode cX12_bits 5 = .ok (.bipush 25, 2) := by decide +kernel
theorem dX12_bits_7 : decode cX12_bits 7 = .ok (.if_icmp .ge 17, 3) := by decide +kernel
theorem dX12_bits_10 : decode cX12_bits 10 = .ok (.iload_n 1, 1) := by decide +kernel
theorem dX12_bits_11 : decode cX12_bits 11 = .ok (.iload_n 0, 1) := by decide +kernel
theorem dX12_bits_12 : decode cX12_bits 12 = .ok (.iload_n 2, 1) := by decide +kernel
theorem dX12_bits_13 : decode cX12_bits 13 = .ok (.ishr, 1) := by decide +kernel
theorem dX12_bits_14 : decode cX12_bits 14 = .ok (.iconst 1, 1) := by decide +kernel
theorem dX12_bits_15 : decode cX12_bits 15 = .ok (.iand, 1) := by decide +kernel
theorem dX12_bits_16 : decode cX12_bits 16 = .ok (.iadd, 1) := by decide +kernel
theorem dX12_bits_17 : decode cX12_bits 17 = .ok (.istore_n 1, 1) := by decide +kernel
theorem dX12_bits_18 : decode cX12_bits 18 = .ok (.iinc 2 1, 3) := by decide +kernel
theorem dX12_bits_21 : decode cX12_bits 21 = .ok (.goto (-17), 3) := by decide +kernel
theorem dX12_bits_24 : decode cX12_bits 24 = .ok (.iload_n 1, 1) := by decide +kernel
theorem dX12_bits_25 : decode cX12_bits 25 = .ok (.ireturn, 1) := by decide +kernel
theorem dX12_cover_0 : decode cX12_cover 0 = .ok (.aload_n 0, 1) := by decide +kernel
theorem dX12_cover_1 : decode cX12_cover 1 = .ok (.getfield 384, 3) := by decide +kernel
theorem dX12_cover_4 : decode cX12_cover 4 = .ok (.ifCond .lt 12, 3) := by decide +kernel
theorem dX12_cover_7 : decode cX12_cover 7 = .ok (.iload_n 3, 1) := by decide +kernel
theorem dX12_cover_8 : decode cX12_cover 8 = .ok (.aload_n 0, 1) := by decide +kernel
theorem dX12_cover_9 : decode cX12_cover 9 = .ok (.getfield 384, 3) := by decide +kernel
theorem dX12_cover_12 : decode cX12_cover 12 = .ok (.if_icmp .lt 4, 3) := by decide +kernel
theorem dX12_cover_15 : decode cX12_cover 15 = .ok (.return_, 1) := by decide +kernel
theorem dX12_cover_16 : decode cX12_cover 16 = .ok (.iconst (-1), 1) := by decide +kernel
theorem dX12_cover_17 : decode cX12_cover 17 = .ok (.istore 4, 2) := by decide +kernel
theorem dX12_cover_19 : decode cX12_cover 19 = .ok (.iconst 0, 1) := by decide +kernel
theorem dX12_cover_20 : decode cX12_cover 20 = .ok (.istore 5, 2) := by decide +kernel
theorem dX12_cover_22 : decode cX12_cover 22 = .ok (.iload 5, 2) := by decide +kernel
theorem dX12_cover_24 : decode cX12_cover 24 = .ok (.aload_n 0, 1) := by decide +kernel
theorem dX12_cover_25 : decode cX12_cover 25 = .ok (.getfield 378, 3) := by decide +kernel
theorem dX12_cover_28 : decode cX12_cover 28 = .ok (.if_icmp .ge 70, 3) := by decide +kernel
theorem dX12_cover_31 : decode cX12_cover 31 = .ok (.aload_n 0, 1) := by decide +kernel
theorem dX12_cover_32 : decode cX12_cover 32 = .ok (.getfield 54, 3) := by decide +kernel
theorem dX12_cover_35 : decode cX12_cover 35 = .ok (.iload 5, 2) := by decide +kernel
theorem dX12_cover_37 : decode cX12_cover 37 = .ok (.iaload, 1) := by decide +kernel
theorem dX12_cover_38 : decode cX12_cover 38 = .ok (.iload_n 1, 1) := by decide +kernel
theorem dX12_cover_39 : decode cX12_cover 39 = .ok (.iand, 1) := by decide +kernel
theorem dX12_cover_40 : decode cX12_cover 40 = .ok (.ifCond .eq 6, 3) := by decide +kernel
theorem dX12_cover_43 : decode cX12_cover 43 = .ok (.goto 49, 3) := by decide +kernel
theorem dX12_cover_46 : decode cX12_cover 46 = .ok (.aload_n 0, 1) := by decide +kernel
theorem dX12_cover_47 : decode cX12_cover 47 = .ok (.getfield 54, 3) := by decide +kernel
theorem dX12_cover_50 : decode cX12_cover 50 = .ok (.iload 5, 2) := by decide +kernel
theorem dX12_cover_52 : decode cX12_cover 52 = .ok (.iaload, 1) := by decide +kernel
theorem dX12_cover_53 : decode cX12_cover 53 = .ok (.iload_n 2, 1) := by decide +kernel
theorem dX12_cover_54 : decode cX12_cover 54 = .ok (.iand, 1) := by decide +kernel
theorem dX12_cover_55 : decode cX12_cover 55 = .ok (.istore 6, 2) := by decide +kernel
theorem dX12_cover_57 : decode cX12_cover 57 = .ok (.iload 6, 2) := by decide +kernel
theorem dX12_cover_59 : decode cX12_cover 59 = .ok (.ifCond .ne 4, 3) := by decide +kernel
theorem dX12_cover_62 : decode cX12_cover 62 = .ok (.return_, 1) := by decide +kernel
theorem dX12_cover_63 : decode cX12_cover 63 = .ok (.iload 4, 2) := by decide +kernel
theorem dX12_cover_65 : decode cX12_cover 65 = .ok (.ifCond .lt 23, 3) := by decide +kernel
theorem dX12_cover_68 : decode cX12_cover 68 = .ok (.iload 6, 2) := by decide +kernel
theorem dX12_cover_70 : decode cX12_cover 70 = .ok (.invokestatic 387, 3) := by decide +kernel
theorem dX12_cover_73 : decode cX12_cover 73 = .ok (.aload_n 0, 1) := by decide +kernel
theorem dX12_cover_74 : decode cX12_cover 74 = .ok (.getfield 54, 3) := by decide +kernel
theorem dX12_cover_77 : decode cX12_cover 77 = .ok (.iload 4, 2) := by decide +kernel
theorem dX12_cover_79 : decode cX12_cover 79 = .ok (.iaload, 1) := by decide +kernel
theorem dX12_cover_80 : decode cX12_cover 80 = .ok (.iload_n 2, 1) := by decide +kernel
theorem dX12_cover_81 : decode cX12_cover 81 = .ok (.iand, 1) := by decide +kernel
theorem dX12_cover_82 : decode cX12_cover 82 = .ok (.invokestatic 387, 3) := by decide +kernel
theorem dX12_cover_85 : decode cX12_cover 85 = .ok (.if_icmp .ge 7, 3) := by decide +kernel
theorem dX12_cover_88 : decode cX12_cover 88 = .ok (.iload 5, 2) := by decide +kernel
theorem dX12_cover_90 : decode cX12_cover 90 = .ok (.istore 4, 2) := by decide +kernel
theorem dX12_cover_92 : decode cX12_cover 92 = .ok (.iinc 5 1, 3) := by decide +kernel
theorem dX12_cover_95 : decode cX12_cover 95 = .ok (.goto (-73), 3) := by decide +kernel
theorem dX12_cover_98 : decode cX12_cover 98 = .ok (.iload 4, 2) := by decide +kernel
theorem dX12_cover_100 : decode cX12_cover 100 = .ok (.ifCond .ge 9, 3) := by decide +kernel
theorem dX12_cover_103 : decode cX12_cover 103 = .ok (.aload_n 0, 1) := by decide +kernel
theorem dX12_cover_104 : decode cX12_cover 104 = .ok (.iload_n 3, 1) := by decide +kernel
theorem dX12_cover_105 : decode cX12_cover 105 = .ok (.putfield 384, 3) := by decide +kernel
theorem dX12_cover_108 : decode cX12_cover 108 = .ok (.return_, 1) := by decide +kernel
theorem dX12_cover_109 : decode cX12_cover 109 = .ok (.iload_n 2, 1) := by decide +kernel
theorem dX12_cover_110 : decode cX12_cover 110 = .ok (.istore 5, 2) := by decide +kernel
theorem dX12_cover_112 : decode cX12_cover 112 = .ok (.iconst 0, 1) := by decide +kernel
theorem dX12_cover_113 : decode cX12_cover 113 = .ok (.istore 6, 2) := by decide +kernel
theorem dX12_cover_115 : decode cX12_cover 115 = .ok (.iload 6, 2) := by decide +kernel
theorem dX12_cover_117 : decode cX12_cover 117 = .ok (.aload_n 0, 1) := by decide +kernel
theorem dX12_cover_118 : decode cX12_cover 118 = .ok (.invokevirtual 305, 3) := by decide +kernel
theorem dX12_cover_121 : decode cX12_cover 121 = .ok (.if_icmp .ge 62, 3) := by decide +kernel
theorem dX12_cover_124 : decode cX12_cover 124 = .ok (.aload_n 0, 1) := by decide +kernel
theorem dX12_cover_125 : decode cX12_cover 125 = .ok (.aload_n 0, 1) := by decide +kernel
theorem dX12_cover_126 : decode cX12_cover 126 = .ok (.getfield 54, 3) := by decide +kernel
theorem dX12_cover_129 : decode cX12_cover 129 = .ok (.iload 4, 2) := by decide +kernel
theorem dX12_cover_131 : decode cX12_cover 131 = .ok (.iaload, 1) := by decide +kernel
theorem dX12_cover_132 : decode cX12_cover 132 = .ok (.iload_n 2, 1) := by decide +kernel
theorem dX12_cover_133 : decode cX12_cover 133 = .ok (.iand, 1) := by decide +kernel
theorem dX12_cover_134 : decode cX12_cover 134 = .ok (.iload 6, 2) := by decide +kernel
theorem dX12_cover_136 : decode cX12_cover 136 = .ok (.invokevirtual 381, 3) := by decide +kernel
theorem dX12_cover_139 : decode cX12_cover 139 = .ok (.ifCond .ne 6, 3) := by decide +kernel
theorem dX12_cover_142 : decode cX12_cover 142 = .ok (.goto 35, 3) := by decide +kernel
theorem dX12_cover_145 : decode cX12_cover 145 = .ok (.iload 5, 2) := by decide +kernel
theorem dX12_cover_147 : decode cX12_cover 147 = .ok (.iconst 1, 1) := by decide +kernel
theorem dX12_cover_148 : decode cX12_cover 148 = .ok (.iload 6, 2) := by decide +kernel
theorem dX12_cover_150 : decode cX12_cover 150 = .ok (.ishl, 1) := by decide +kernel
theorem dX12_cover_151 : decode cX12_cover 151 = .ok (.iconst (-1), 1) := by decide +kernel
theorem dX12_cover_152 : decode cX12_cover 152 = .ok (.ixor, 1) := by decide +kernel
theorem dX12_cover_153 : decode cX12_cover 153 = .ok (.iand, 1) := by decide +kernel
theorem dX12_cover_154 : decode cX12_cover 154 = .ok (.istore 5, 2) := by decide +kernel
theorem dX12_cover_156 : decode cX12_cover 156 = .ok (.aload_n 0, 1) := by decide +kernel
theorem dX12_cover_157 : decode cX12_cover 157 = .ok (.iload_n 1, 1) := by decide +kernel
theorem dX12_cover_158 : decode cX12_cover 158 = .ok (.iconst 1, 1) := by decide +kernel
theorem dX12_cover_159 : decode cX12_cover 159 = .ok (.iload 6, 2) := by decide +kernel
theorem dX12_cover_161 : decode cX12_cover 161 = .ok (.ishl, 1) := by decide +kernel
theorem dX12_cover_162 : decode cX12_cover 162 = .ok (.ior, 1) := by decide +kernel
theorem dX12_cover_163 : decode cX12_cover 163 = .ok (.iload 5, 2) := by decide +kernel
theorem dX12_cover_165 : decode cX12_cover 165 = .ok (.iload_n 3, 1) := by decide +kernel
theorem dX12_cover_166 : decode cX12_cover 166 = .ok (.aload_n 0, 1) := by decide +kernel
theorem dX12_cover_167 : decode cX12_cover 167 = .ok (.getfield 51, 3) := by decide +kernel
theorem dX12_cover_170 : decode cX12_cover 170 = .ok (.iload 6, 2) := by decide +kernel
theorem dX12_cover_172 : decode cX12_cover 172 = .ok (.iaload, 1) := by decide +kernel
theorem dX12_cover_173 : decode cX12_cover 173 = .ok (.iadd, 1) := by decide +kernel
theorem dX12_cover_174 : decode cX12_cover 174 = .ok (.invokevirtual 390, 3) := by decide +kernel
theorem dX12_cover_177 : decode cX12_cover 177 = .ok (.iinc 6 1, 3) := by decide +kernel
theorem dX12_cover_180 : decode cX12_cover 180 = .ok (.goto (-65), 3) := by decide +kernel
theorem dX12_cover_183 : decode cX12_cover 183 = .ok (.return_, 1) := by decide +kernel
theorem dX12_leastCover_0 : decode cX12_leastCover 0 = .ok (.aload_n 0, 1) := by decide +kernel
theorem dX12_leastCover_1 : decode cX12_leastCover 1 = .ok (.iconst (-1), 1) := by decide +kernel
theorem dX12_leastCover_2 : decode cX12_leastCover 2 = .ok (.putfield 384, 3) := by decide +kernel
theorem dX12_leastCover_5 : decode cX12_leastCover 5 = .ok (.aload_n 0, 1) := by decide +kernel
theorem dX12_leastCover_6 : decode cX12_leastCover 6 = .ok (.iconst 0, 1) := by decide +kernel
theorem dX12_leastCover_7 : decode cX12_leastCover 7 = .ok (.iload_n 1, 1) := by decide +kernel
theorem dX12_leastCover_8 : decode cX12_leastCover 8 = .ok (.iconst 0, 1) := by decide +kernel
theorem dX12_leastCover_9 : decode cX12_leastCover 9 = .ok (.invokevirtual 390, 3) := by decide +kernel
theorem dX12_leastCover_12 : decode cX12_leastCover 12 = .ok (.aload_n 0, 1) := by decide +kernel
theorem dX12_leastCover_13 : decode cX12_leastCover 13 = .ok (.getfield 384, 3) := by decide +kernel
theorem dX12_leastCover_16 : decode cX12_leastCover 16 = .ok (.ireturn, 1) := by decide +kernel
theorem dX12_allCells_0 : decode cX12_allCells 0 = .ok (.iconst 1, 1) := by decide +kernel
theorem dX12_allCells_1 : decode cX12_allCells 1 = .ok (.aload_n 0, 1) := by decide +kernel
theorem dX12_allCells_2 : decode cX12_allCells 2 = .ok (.invokevirtual 305, 3) := by decide +kernel
theorem dX12_allCells_5 : decode cX12_allCells 5 = .ok (.ishl, 1) := by decide +kernel
theorem dX12_allCells_6 : decode cX12_allCells 6 = .ok (.iconst 1, 1) := by decide +kernel
theorem dX12_allCells_7 : decode cX12_allCells 7 = .ok (.isub, 1) := by decide +kernel
theorem dX12_allCells_8 : decode cX12_allCells 8 = .ok (.ireturn, 1) := by decide +kernel
theorem dX12_cheapestCost_0 : decode cX12_cheapestCost 0 = .ok (.aload_n 0, 1) := by decide +kernel
theorem dX12_cheapestCost_1 : decode cX12_cheapestCost 1 = .ok (.invokevirtual 394, 3) := by decide +kernel
theorem dX12_cheapestCost_4 : decode cX12_cheapestCost 4 = .ok (.iconst 0, 1) := by decide +kernel
theorem dX12_cheapestCost_5 : decode cX12_cheapestCost 5 = .ok (.istore_n 1, 1) := by decide +kernel
theorem dX12_cheapestCost_6 : decode cX12_cheapestCost 6 = .ok (.iload_n 1, 1) := by decide +kernel
theorem dX12_cheapestCost_7 : decode cX12_cheapestCost 7 = .ok (.aload_n 0, 1) := by decide +kernel
theorem dX12_cheapestCost_8 : decode cX12_cheapestCost 8 = .ok (.invokevirtual 305, 3) := by decide +kernel
theorem dX12_cheapestCost_11 : decode cX12_cheapestCost 11 = .ok (.if_icmp .ge 41, 3) := by decide +kernel
theorem dX12_cheapestCost_14 : decode cX12_cheapestCost 14 = .ok (.aload_n 0, 1) := by decide +kernel
theorem dX12_cheapestCost_15 : decode cX12_cheapestCost 15 = .ok (.getfield 51, 3) := by decide +kernel
theorem dX12_cheapestCost_18 : decode cX12_cheapestCost 18 = .ok (.iload_n 1, 1) := by decide +kernel
theorem dX12_cheapestCost_19 : decode cX12_cheapestCost 19 = .ok (.aload_n 0, 1) := by decide +kernel
theorem dX12_cheapestCost_20 : decode cX12_cheapestCost 20 = .ok (.getfield 48, 3) := by decide +kernel
theorem dX12_cheapestCost_23 : decode cX12_cheapestCost 23 = .ok (.iload_n 1, 1) := by decide +kernel
theorem dX12_cheapestCost_24 : decode cX12_cheapestCost 24 = .ok (.iaload, 1) := by decide +kernel
theorem dX12_cheapestCost_25 : decode cX12_cheapestCost 25 = .ok (.aload_n 0, 1) := by decide +kernel
theorem dX12_cheapestCost_26 : decode cX12_cheapestCost 26 = .ok (.getfield 35, 3) := by decide +kernel
theorem dX12_cheapestCost_29 : decode cX12_cheapestCost 29 = .ok (.bipush 28, 2) := by decide +kernel
theorem dX12_cheapestCost_31 : decode cX12_cheapestCost 31 = .ok (.iload_n 1, 1) := by decide +kernel
theorem dX12_cheapestCost_32 : decode cX12_cheapestCost 32 = .ok (.iadd, 1) := by decide +kernel
theorem dX12_cheapestCost_33 : decode cX12_cheapestCost 33 = .ok (.iaload, 1) := by decide +kernel
theorem dX12_cheapestCost_34 : decode cX12_cheapestCost 34 = .ok (.isub, 1) := by decide +kernel
theorem dX12_cheapestCost_35 : decode cX12_cheapestCost 35 = .ok (.aload_n 0, 1) := by decide +kernel
theorem dX12_cheapestCost_36 : decode cX12_cheapestCost 36 = .ok (.getfield 35, 3) := by decide +kernel
theorem dX12_cheapestCost_39 : decode cX12_cheapestCost 39 = .ok (.bipush 53, 2) := by decide +kernel
theorem dX12_cheapestCost_41 : decode cX12_cheapestCost 41 = .ok (.iload_n 1, 1) := by decide +kernel
theorem dX12_cheapestCost_42 : decode cX12_cheapestCost 42 = .ok (.iadd, 1) := by decide +kernel
theorem dX12_cheapestCost_43 : decode cX12_cheapestCost 43 = .ok (.iaload, 1) := by decide +kernel
theorem dX12_cheapestCost_44 : decode cX12_cheapestCost 44 = .ok (.imul, 1) := by decide +kernel
theorem dX12_cheapestCost_45 : decode cX12_cheapestCost 45 = .ok (.iastore, 1) := by decide +kernel
theorem dX12_cheapestCost_46 : decode cX12_cheapestCost 46 = .ok (.iinc 1 1, 3) := by decide +kernel
theorem dX12_cheapestCost_49 : decode cX12_cheapestCost 49 = .ok (.goto (-43), 3) := by decide +kernel
theorem dX12_cheapestCost_52 : decode cX12_cheapestCost 52 = .ok (.aload_n 0, 1) := by decide +kernel
theorem dX12_cheapestCost_53 : decode cX12_cheapestCost 53 = .ok (.aload_n 0, 1) := by decide +kernel
theorem dX12_cheapestCost_54 : decode cX12_cheapestCost 54 = .ok (.invokevirtual 397, 3) := by decide +kernel
theorem dX12_cheapestCost_57 : decode cX12_cheapestCost 57 = .ok (.invokevirtual 400, 3) := by decide +kernel
theorem dX12_cheapestCost_60 : decode cX12_cheapestCost 60 = .ok (.ireturn, 1) := by decide +kernel
theorem dX12_cheapest_0 : decode cX12_cheapest 0 = .ok (.aload_n 0, 1) := by decide +kernel
theorem dX12_cheapest_1 : decode cX12_cheapest 1 = .ok (.iconst 0, 1) := by decide +kernel
theorem dX12_cheapest_2 : decode cX12_cheapest 2 = .ok (.putfield 81, 3) := by decide +kernel
theorem dX12_cheapest_5 : decode cX12_cheapest 5 = .ok (.aload_n 0, 1) := by decide +kernel
theorem dX12_cheapest_6 : decode cX12_cheapest 6 = .ok (.iconst 0, 1) := by decide +kernel
theorem dX12_cheapest_7 : decode cX12_cheapest 7 = .ok (.putfield 84, 3) := by decide +kernel
theorem dX12_cheapest_10 : decode cX12_cheapest 10 = .ok (.aload_n 0, 1) := by decide +kernel
theorem dX12_cheapest_11 : decode cX12_cheapest 11 = .ok (.iload_n 1, 1) := by decide +kernel
theorem dX12_cheapest_12 : decode cX12_cheapest 12 = .ok (.invokevirtual 369, 3) := by decide +kernel
theorem dX12_cheapest_15 : decode cX12_cheapest 15 = .ok (.ifCond .ne 9, 3) := by decide +kernel
theorem dX12_cheapest_18 : decode cX12_cheapest 18 = .ok (.aload_n 0, 1) := by decide +kernel
theorem dX12_cheapest_19 : decode cX12_cheapest 19 = .ok (.iconst 2, 1) := by decide +kernel
theorem dX12_cheapest_20 : decode cX12_cheapest 20 = .ok (.invokevirtual 316, 3) := by decide +kernel
theorem dX12_cheapest_23 : decode cX12_cheapest 23 = .ok (.ireturn, 1) := by decide +kernel
theorem dX12_cheapest_24 : decode cX12_cheapest 24 = .ok (.aload_n 0, 1) := by decide +kernel
theorem dX12_cheapest_25 : decode cX12_cheapest 25 = .ok (.iload_n 1, 1) := by decide +kernel
theorem dX12_cheapest_26 : decode cX12_cheapest 26 = .ok (.invokevirtual 372, 3) := by decide +kernel
theorem dX12_cheapest_29 : decode cX12_cheapest 29 = .ok (.aload_n 0, 1) := by decide +kernel
theorem dX12_cheapest_30 : decode cX12_cheapest 30 = .ok (.invokevirtual 375, 3) := by decide +kernel
theorem dX12_cheapest_33 : decode cX12_cheapest 33 = .ok (.ifCond .ne 10, 3) := by decide +kernel
theorem dX12_cheapest_36 : decode cX12_cheapest 36 = .ok (.aload_n 0, 1) := by decide +kernel
theorem dX12_cheapest_37 : decode cX12_cheapest 37 = .ok (.bipush 9, 2) := by decide +kernel
theorem dX12_cheapest_39 : decode cX12_cheapest 39 = .ok (.invokevirtual 316, 3) := by decide +kernel
theorem dX12_cheapest_42 : decode cX12_cheapest 42 = .ok (.ireturn, 1) := by decide +kernel
theorem dX12_cheapest_43 : decode cX12_cheapest 43 = .ok (.aload_n 0, 1) := by decide +kernel
theorem dX12_cheapest_44 : decode cX12_cheapest 44 = .ok (.invokevirtual 403, 3) := by decide +kernel
theorem dX12_cheapest_47 : decode cX12_cheapest 47 = .ok (.istore_n 2, 1) := by decide +kernel
theorem dX12_cheapest_48 : decode cX12_cheapest 48 = .ok (.aload_n 0, 1) := by decide +kernel
theorem dX12_cheapest_49 : decode cX12_cheapest 49 = .ok (.invokevirtual 397, 3) := by decide +kernel
theorem dX12_cheapest_52 : decode cX12_cheapest 52 = .ok (.istore_n 3, 1) := by decide +kernel
theorem dX12_cheapest_53 : decode cX12_cheapest 53 = .ok (.iconst 0, 1) := by decide +kernel
theorem dX12_cheapest_54 : decode cX12_cheapest 54 = .ok (.istore 4, 2) := by decide +kernel
theorem dX12_cheapest_56 : decode cX12_cheapest 56 = .ok (.iload 4, 2) := by decide +kernel
theorem dX12_cheapest_58 : decode cX12_cheapest 58 = .ok (.aload_n 0, 1) := by decide +kernel
theorem dX12_cheapest_59 : decode cX12_cheapest 59 = .ok (.invokevirtual 305, 3) := by decide +kernel
theorem dX12_cheapest_62 : decode cX12_cheapest 62 = .ok (.if_icmp .ge 100, 3) := by decide +kernel
theorem dX12_cheapest_65 : decode cX12_cheapest 65 = .ok (.iload_n 3, 1) := by decide +kernel
theorem dX12_cheapest_66 : decode cX12_cheapest 66 = .ok (.iconst 1, 1) := by decide +kernel
theorem dX12_cheapest_67 : decode cX12_cheapest 67 = .ok (.iload 4, 2) := by decide +kernel
theorem dX12_cheapest_69 : decode cX12_cheapest 69 = .ok (.ishl, 1) := by decide +kernel
theorem dX12_cheapest_70 : decode cX12_cheapest 70 = .ok (.iconst (-1), 1) := by decide +kernel
theorem dX12_cheapest_71 : decode cX12_cheapest 71 = .ok (.ixor, 1) := by decide +kernel
theorem dX12_cheapest_72 : decode cX12_cheapest 72 = .ok (.iand, 1) := by decide +kernel
theorem dX12_cheapest_73 : decode cX12_cheapest 73 = .ok (.istore 5, 2) := by decide +kernel
theorem dX12_cheapest_75 : decode cX12_cheapest 75 = .ok (.aload_n 0, 1) := by decide +kernel
theorem dX12_cheapest_76 : decode cX12_cheapest 76 = .ok (.getfield 48, 3) := by decide +kernel
theorem dX12_cheapest_79 : decode cX12_cheapest 79 = .ok (.iload 4, 2) := by decide +kernel
theorem dX12_cheapest_81 : decode cX12_cheapest 81 = .ok (.iaload, 1) := by decide +kernel
theorem dX12_cheapest_82 : decode cX12_cheapest 82 = .ok (.aload_n 0, 1) := by decide +kernel
theorem dX12_cheapest_83 : decode cX12_cheapest 83 = .ok (.getfield 35, 3) := by decide +kernel
theorem dX12_cheapest_86 : decode cX12_cheapest 86 = .ok (.bipush 28, 2) := by decide +kernel
theorem dX12_cheapest_88 : decode cX12_cheapest 88 = .ok (.iload 4, 2) := by decide +kernel
theorem dX12_cheapest_90 : decode cX12_cheapest 90 = .ok (.iadd, 1) := by decide +kernel
theorem dX12_cheapest_91 : decode cX12_cheapest 91 = .ok (.iaload, 1) := by decide +kernel
theorem dX12_cheapest_92 : decode cX12_cheapest 92 = .ok (.if_icmp .eq 13, 3) := by decide +kernel
theorem dX12_cheapest_95 : decode cX12_cheapest 95 = .ok (.aload_n 0, 1) := by decide +kernel
theorem dX12_cheapest_96 : decode cX12_cheapest 96 = .ok (.iload 5, 2) := by decide +kernel
theorem dX12_cheapest_98 : decode cX12_cheapest 98 = .ok (.invokevirtual 400, 3) := by decide +kernel
theorem dX12_cheapest_101 : decode cX12_cheapest 101 = .ok (.iload_n 2, 1) := by decide +kernel
theorem dX12_cheapest_102 : decode cX12_cheapest 102 = .ok (.if_icmp .ne 7, 3) := by decide +kernel
theorem dX12_cheapest_105 : decode cX12_cheapest 105 = .ok (.iconst 1, 1) := by decide +kernel
theorem dX12_cheapest_106 : decode cX12_cheapest 106 = .ok (.goto 4, 3) := by decide +kernel
theorem dX12_cheapest_109 : decode cX12_cheapest 109 = .ok (.iconst 0, 1) := by decide +kernel
theorem dX12_cheapest_110 : decode cX12_cheapest 110 = .ok (.istore 6, 2) := by decide +kernel
theorem dX12_cheapest_112 : decode cX12_cheapest 112 = .ok (.iload 6, 2) := by decide +kernel
theorem dX12_cheapest_114 : decode cX12_cheapest 114 = .ok (.ifCond .eq 6, 3) := by decide +kernel
theorem dX12_cheapest_117 : decode cX12_cheapest 117 = .ok (.iload 5, 2) := by decide +kernel
theorem dX12_cheapest_119 : decode cX12_cheapest 119 = .ok (.istore_n 3, 1) := by decide +kernel
theorem dX12_cheapest_120 : decode cX12_cheapest 120 = .ok (.aload_n 0, 1) := by decide +kernel
theorem dX12_cheapest_121 : decode cX12_cheapest 121 = .ok (.getfield 35, 3) := by decide +kernel
theorem dX12_cheapest_124 : decode cX12_cheapest 124 = .ok (.sipush 144, 3) := by decide +kernel
theorem dX12_cheapest_127 : decode cX12_cheapest 127 = .ok (.iload 4, 2) := by decide +kernel
theorem dX12_cheapest_129 : decode cX12_cheapest 129 = .ok (.iadd, 1) := by decide +kernel
theorem dX12_cheapest_130 : decode cX12_cheapest 130 = .ok (.iload 6, 2) := by decide +kernel
theorem dX12_cheapest_132 : decode cX12_cheapest 132 = .ok (.ifCond .eq 16, 3) := by decide +kernel
theorem dX12_cheapest_135 : decode cX12_cheapest 135 = .ok (.aload_n 0, 1) := by decide +kernel
theorem dX12_cheapest_136 : decode cX12_cheapest 136 = .ok (.getfield 35, 3) := by decide +kernel
theorem dX12_cheapest_139 : decode cX12_cheapest 139 = .ok (.bipush 28, 2) := by decide +kernel
theorem dX12_cheapest_141 : decode cX12_cheapest 141 = .ok (.iload 4, 2) := by decide +kernel
theorem dX12_cheapest_143 : decode cX12_cheapest 143 = .ok (.iadd, 1) := by decide +kernel
theorem dX12_cheapest_144 : decode cX12_cheapest 144 = .ok (.iaload, 1) := by decide +kernel
theorem dX12_cheapest_145 : decode cX12_cheapest 145 = .ok (.goto 10, 3) := by decide +kernel
theorem dX12_cheapest_148 : decode cX12_cheapest 148 = .ok (.aload_n 0, 1) := by decide +kernel
theorem dX12_cheapest_149 : decode cX12_cheapest 149 = .ok (.getfield 48, 3) := by decide +kernel
theorem dX12_cheapest_152 : decode cX12_cheapest 152 = .ok (.iload 4, 2) := by decide +kernel
theorem dX12_cheapest_154 : decode cX12_cheapest 154 = .ok (.iaload, 1) := by decide +kernel
theorem dX12_cheapest_155 : decode cX12_cheapest 155 = .ok (.iastore, 1) := by decide +kernel
theorem dX12_cheapest_156 : decode cX12_cheapest 156 = .ok (.iinc 4 1, 3) := by decide +kernel
theorem dX12_cheapest_159 : decode cX12_cheapest 159 = .ok (.goto (-103), 3) := by decide +kernel
theorem dX12_cheapest_162 : decode cX12_cheapest 162 = .ok (.iload_n 2, 1) := by decide +kernel
theorem dX12_cheapest_163 : decode cX12_cheapest 163 = .ok (.ireturn, 1) := by decide +kernel
theorem dX12_least_0 : decode cX12_least 0 = .ok (.aload_n 0, 1) := by decide +kernel
theorem dX12_least_1 : decode cX12_least 1 = .ok (.iconst 0, 1) := by decide +kernel
theorem dX12_least_2 : decode cX12_least 2 = .ok (.putfield 81, 3) := by decide +kernel
theorem dX12_least_5 : decode cX12_least 5 = .ok (.aload_n 0, 1) := by decide +kernel
theorem dX12_least_6 : decode cX12_least 6 = .ok (.iconst 0, 1) := by decide +kernel
theorem dX12_least_7 : decode cX12_least 7 = .ok (.putfield 84, 3) := by decide +kernel
theorem dX12_least_10 : decode cX12_least 10 = .ok (.aload_n 0, 1) := by decide +kernel
theorem dX12_least_11 : decode cX12_least 11 = .ok (.iload_n 1, 1) := by decide +kernel
theorem dX12_least_12 : decode cX12_least 12 = .ok (.invokevirtual 369, 3) := by decide +kernel
theorem dX12_least_15 : decode cX12_least 15 = .ok (.ifCond .ne 9, 3) := by decide +kernel
theorem dX12_least_18 : decode cX12_least 18 = .ok (.aload_n 0, 1) := by decide +kernel
theorem dX12_least_19 : decode cX12_least 19 = .ok (.iconst 2, 1) := by decide +kernel
theorem dX12_least_20 : decode cX12_least 20 = .ok (.invokevirtual 316, 3) := by decide +kernel
theorem dX12_least_23 : decode cX12_least 23 = .ok (.ireturn, 1) := by decide +kernel
theorem dX12_least_24 : decode cX12_least 24 = .ok (.aload_n 0, 1) := by decide +kernel
theorem dX12_least_25 : decode cX12_least 25 = .ok (.iload_n 1, 1) := by decide +kernel
theorem dX12_least_26 : decode cX12_least 26 = .ok (.invokevirtual 372, 3) := by decide +kernel
theorem dX12_least_29 : decode cX12_least 29 = .ok (.aload_n 0, 1) := by decide +kernel
theorem dX12_least_30 : decode cX12_least 30 = .ok (.invokevirtual 375, 3) := by decide +kernel
theorem dX12_least_33 : decode cX12_least 33 = .ok (.ifCond .ne 10, 3) := by decide +kernel
theorem dX12_least_36 : decode cX12_least 36 = .ok (.aload_n 0, 1) := by decide +kernel
theorem dX12_least_37 : decode cX12_least 37 = .ok (.bipush 9, 2) := by decide +kernel
theorem dX12_least_39 : decode cX12_least 39 = .ok (.invokevirtual 316, 3) := by decide +kernel
theorem dX12_least_42 : decode cX12_least 42 = .ok (.ireturn, 1) := by decide +kernel
theorem dX12_least_43 : decode cX12_least 43 = .ok (.iconst 0, 1) := by decide +kernel
theorem dX12_least_44 : decode cX12_least 44 = .ok (.istore_n 2, 1) := by decide +kernel
theorem dX12_least_45 : decode cX12_least 45 = .ok (.iconst 0, 1) := by decide +kernel
theorem dX12_least_46 : decode cX12_least 46 = .ok (.istore_n 3, 1) := by decide +kernel
theorem dX12_least_47 : decode cX12_least 47 = .ok (.iload_n 3, 1) := by decide +kernel
theorem dX12_least_48 : decode cX12_least 48 = .ok (.aload_n 0, 1) := by decide +kernel
theorem dX12_least_49 : decode cX12_least 49 = .ok (.invokevirtual 305, 3) := by decide +kernel
theorem dX12_least_52 : decode cX12_least 52 = .ok (.if_icmp .ge 38, 3) := by decide +kernel
theorem dX12_least_55 : decode cX12_least 55 = .ok (.iload_n 2, 1) := by decide +kernel
theorem dX12_least_56 : decode cX12_least 56 = .ok (.aload_n 0, 1) := by decide +kernel
theorem dX12_least_57 : decode cX12_least 57 = .ok (.getfield 48, 3) := by decide +kernel
theorem dX12_least_60 : decode cX12_least 60 = .ok (.iload_n 3, 1) := by decide +kernel
theorem dX12_least_61 : decode cX12_least 61 = .ok (.iaload, 1) := by decide +kernel
theorem dX12_least_62 : decode cX12_least 62 = .ok (.aload_n 0, 1) := by decide +kernel
theorem dX12_least_63 : decode cX12_least 63 = .ok (.getfield 35, 3) := by decide +kernel
theorem dX12_least_66 : decode cX12_least 66 = .ok (.bipush 28, 2) := by decide +kernel
theorem dX12_least_68 : decode cX12_least 68 = .ok (.iload_n 3, 1) := by decide +kernel
theorem dX12_least_69 : decode cX12_least 69 = .ok (.iadd, 1) := by decide +kernel
theorem dX12_least_70 : decode cX12_least 70 = .ok (.iaload, 1) := by decide +kernel
theorem dX12_least_71 : decode cX12_least 71 = .ok (.isub, 1) := by decide +kernel
theorem dX12_least_72 : decode cX12_least 72 = .ok (.aload_n 0, 1) := by decide +kernel
theorem dX12_least_73 : decode cX12_least 73 = .ok (.getfield 35, 3) := by decide +kernel
theorem dX12_least_76 : decode cX12_least 76 = .ok (.bipush 53, 2) := by decide +kernel
theorem dX12_least_78 : decode cX12_least 78 = .ok (.iload_n 3, 1) := by decide +kernel
theorem dX12_least_79 : decode cX12_least 79 = .ok (.iadd, 1) := by decide +kernel
theorem dX12_least_80 : decode cX12_least 80 = .ok (.iaload, 1) := by decide +kernel
theorem dX12_least_81 : decode cX12_least 81 = .ok (.imul, 1) := by decide +kernel
theorem dX12_least_82 : decode cX12_least 82 = .ok (.iadd, 1) := by decide +kernel
theorem dX12_least_83 : decode cX12_least 83 = .ok (.istore_n 2, 1) := by decide +kernel
theorem dX12_least_84 : decode cX12_least 84 = .ok (.iinc 3 1, 3) := by decide +kernel
theorem dX12_least_87 : decode cX12_least 87 = .ok (.goto (-40), 3) := by decide +kernel
theorem dX12_least_90 : decode cX12_least 90 = .ok (.aload_n 0, 1) := by decide +kernel
theorem dX12_least_91 : decode cX12_least 91 = .ok (.invokevirtual 403, 3) := by decide +kernel
theorem dX12_least_94 : decode cX12_least 94 = .ok (.istore_n 3, 1) := by decide +kernel
theorem dX12_least_95 : decode cX12_least 95 = .ok (.iload_n 2, 1) := by decide +kernel
theorem dX12_least_96 : decode cX12_least 96 = .ok (.ifCond .le 12, 3) := by decide +kernel
theorem dX12_least_99 : decode cX12_least 99 = .ok (.aload_n 0, 1) := by decide +kernel
theorem dX12_least_100 : decode cX12_least 100 = .ok (.iload_n 3, 1) := by decide +kernel
theorem dX12_least_101 : decode cX12_least 101 = .ok (.i2l, 1) := by decide +kernel
theorem dX12_least_102 : decode cX12_least 102 = .ok (.iload_n 2, 1) := by decide +kernel
theorem dX12_least_103 : decode cX12_least 103 = .ok (.i2l, 1) := by decide +kernel
theorem dX12_least_104 : decode cX12_least 104 = .ok (.invokevirtual 406, 3) := by decide +kernel
theorem dX12_least_107 : decode cX12_least 107 = .ok (.pop, 1) := by decide +kernel
theorem dX12_least_108 : decode cX12_least 108 = .ok (.iload_n 3, 1) := by decide +kernel
theorem dX12_least_109 : decode cX12_least 109 = .ok (.ireturn, 1) := by decide +kernel
theorem dX12_courts_0 : decode cX12_courts 0 = .ok (.aload_n 0, 1) := by decide +kernel
theorem dX12_courts_1 : decode cX12_courts 1 = .ok (.iconst 0, 1) := by decide +kernel
theorem dX12_courts_2 : decode cX12_courts 2 = .ok (.putfield 81, 3) := by decide +kernel
theorem dX12_courts_5 : decode cX12_courts 5 = .ok (.aload_n 0, 1) := by decide +kernel
theorem dX12_courts_6 : decode cX12_courts 6 = .ok (.iconst 0, 1) := by decide +kernel
theorem dX12_courts_7 : decode cX12_courts 7 = .ok (.putfield 84, 3) := by decide +kernel
theorem dX12_courts_10 : decode cX12_courts 10 = .ok (.aload_n 0, 1) := by decide +kernel
theorem dX12_courts_11 : decode cX12_courts 11 = .ok (.iload_n 1, 1) := by decide +kernel
theorem dX12_courts_12 : decode cX12_courts 12 = .ok (.invokevirtual 369, 3) := by decide +kernel
theorem dX12_courts_15 : decode cX12_courts 15 = .ok (.ifCond .ne 9, 3) := by decide +kernel
theorem dX12_courts_18 : decode cX12_courts 18 = .ok (.aload_n 0, 1) := by decide +kernel
theorem dX12_courts_19 : decode cX12_courts 19 = .ok (.iconst 2, 1) := by decide +kernel
theorem dX12_courts_20 : decode cX12_courts 20 = .ok (.invokevirtual 316, 3) := by decide +kernel
theorem dX12_courts_23 : decode cX12_courts 23 = .ok (.ireturn, 1) := by decide +kernel
theorem dX12_courts_24 : decode cX12_courts 24 = .ok (.aload_n 0, 1) := by decide +kernel
theorem dX12_courts_25 : decode cX12_courts 25 = .ok (.iload_n 1, 1) := by decide +kernel
theorem dX12_courts_26 : decode cX12_courts 26 = .ok (.invokevirtual 372, 3) := by decide +kernel
theorem dX12_courts_29 : decode cX12_courts 29 = .ok (.aload_n 0, 1) := by decide +kernel
theorem dX12_courts_30 : decode cX12_courts 30 = .ok (.invokevirtual 375, 3) := by decide +kernel
theorem dX12_courts_33 : decode cX12_courts 33 = .ok (.ifCond .ne 10, 3) := by decide +kernel
theorem dX12_courts_36 : decode cX12_courts 36 = .ok (.aload_n 0, 1) := by decide +kernel
theorem dX12_courts_37 : decode cX12_courts 37 = .ok (.bipush 9, 2) := by decide +kernel
theorem dX12_courts_39 : decode cX12_courts 39 = .ok (.invokevirtual 316, 3) := by decide +kernel
theorem dX12_courts_42 : decode cX12_courts 42 = .ok (.ireturn, 1) := by decide +kernel
theorem dX12_courts_43 : decode cX12_courts 43 = .ok (.aload_n 0, 1) := by decide +kernel
theorem dX12_courts_44 : decode cX12_courts 44 = .ok (.invokevirtual 394, 3) := by decide +kernel
theorem dX12_courts_47 : decode cX12_courts 47 = .ok (.iconst 0, 1) := by decide +kernel
theorem dX12_courts_48 : decode cX12_courts 48 = .ok (.istore_n 2, 1) := by decide +kernel
theorem dX12_courts_49 : decode cX12_courts 49 = .ok (.iload_n 2, 1) := by decide +kernel
theorem dX12_courts_50 : decode cX12_courts 50 = .ok (.aload_n 0, 1) := by decide +kernel
theorem dX12_courts_51 : decode cX12_courts 51 = .ok (.invokevirtual 305, 3) := by decide +kernel
theorem dX12_courts_54 : decode cX12_courts 54 = .ok (.if_icmp .ge 16, 3) := by decide +kernel
theorem dX12_courts_57 : decode cX12_courts 57 = .ok (.aload_n 0, 1) := by decide +kernel
theorem dX12_courts_58 : decode cX12_courts 58 = .ok (.getfield 51, 3) := by decide +kernel
theorem dX12_courts_61 : decode cX12_courts 61 = .ok (.iload_n 2, 1) := by decide +kernel
theorem dX12_courts_62 : decode cX12_courts 62 = .ok (.iconst 1, 1) := by decide +kernel
theorem dX12_courts_63 : decode cX12_courts 63 = .ok (.iastore, 1) := by decide +kernel
theorem dX12_courts_64 : decode cX12_courts 64 = .ok (.iinc 2 1, 3) := by decide +kernel
theorem dX12_courts_67 : decode cX12_courts 67 = .ok (.goto (-18), 3) := by decide +kernel
theorem dX12_courts_70 : decode cX12_courts 70 = .ok (.aload_n 0, 1) := by decide +kernel
theorem dX12_courts_71 : decode cX12_courts 71 = .ok (.invokevirtual 305, 3) := by decide +kernel
theorem dX12_courts_74 : decode cX12_courts 74 = .ok (.aload_n 0, 1) := by decide +kernel
theorem dX12_courts_75 : decode cX12_courts 75 = .ok (.aload_n 0, 1) := by decide +kernel
theorem dX12_courts_76 : decode cX12_courts 76 = .ok (.invokevirtual 397, 3) := by decide +kernel
theorem dX12_courts_79 : decode cX12_courts 79 = .ok (.invokevirtual 400, 3) := by decide +kernel
theorem dX12_courts_82 : decode cX12_courts 82 = .ok (.isub, 1) := by decide +kernel
theorem dX12_courts_83 : decode cX12_courts 83 = .ok (.ireturn, 1) := by decide +kernel
theorem dX12_townsWithout_0 : decode cX12_townsWithout 0 = .ok (.lconst 1, 1) := by decide +kernel
theorem dX12_townsWithout_1 : decode cX12_townsWithout 1 = .ok (.lstore_n 3, 1) := by decide +kernel
theorem dX12_townsWithout_2 : decode cX12_townsWithout 2 = .ok (.iconst 0, 1) := by decide +kernel
theorem dX12_townsWithout_3 : decode cX12_townsWithout 3 = .ok (.istore 5, 2) := by decide +kernel
theorem dX12_townsWithout_5 : decode cX12_townsWithout 5 = .ok (.iload 5, 2) := by decide +kernel
theorem dX12_townsWithout_7 : decode cX12_townsWithout 7 = .ok (.aload_n 0, 1) := by decide +kernel
theorem dX12_townsWithout_8 : decode cX12_townsWithout 8 = .ok (.invokevirtual 305, 3) := by decide +kernel
theorem dX12_townsWithout_11 : decode cX12_townsWithout 11 = .ok (.if_icmp .ge 133, 3) := by decide +kernel
theorem dX12_townsWithout_14 : decode cX12_townsWithout 14 = .ok (.aload_n 0, 1) := by decide +kernel
theorem dX12_townsWithout_15 : decode cX12_townsWithout 15 = .ok (.getfield 48, 3) := by decide +kernel
theorem dX12_townsWithout_18 : decode cX12_townsWithout 18 = .ok (.iload 5, 2) := by decide +kernel
theorem dX12_townsWithout_20 : decode cX12_townsWithout 20 = .ok (.iaload, 1) := by decide +kernel
theorem dX12_townsWithout_21 : decode cX12_townsWithout 21 = .ok (.istore 6, 2) := by decide +kernel
theorem dX12_townsWithout_23 : decode cX12_townsWithout 23 = .ok (.iconst 0, 1) := by decide +kernel
theorem dX12_townsWithout_24 : decode cX12_townsWithout 24 = .ok (.istore 7, 2) := by decide +kernel
theorem dX12_townsWithout_26 : decode cX12_townsWithout 26 = .ok (.iload 7, 2) := by decide +kernel
theorem dX12_townsWithout_28 : decode cX12_townsWithout 28 = .ok (.iload_n 2, 1) := by decide +kernel
theorem dX12_townsWithout_29 : decode cX12_townsWithout 29 = .ok (.if_icmp .ge 82, 3) := by decide +kernel
theorem dX12_townsWithout_32 : decode cX12_townsWithout 32 = .ok (.aload_n 0, 1) := by decide +kernel
theorem dX12_townsWithout_33 : decode cX12_townsWithout 33 = .ok (.iload_n 1, 1) := by decide +kernel
theorem dX12_townsWithout_34 : decode cX12_townsWithout 34 = .ok (.iload 7, 2) := by decide +kernel
theorem dX12_townsWithout_36 : decode cX12_townsWithout 36 = .ok (.invokevirtual 381, 3) := by decide +kernel
theorem dX12_townsWithout_39 : decode cX12_townsWithout 39 = .ok (.ifCond .eq 66, 3) := by decide +kernel
theorem dX12_townsWithout_42 : decode cX12_townsWithout 42 = .ok (.aload_n 0, 1) := by decide +kernel
theorem dX12_townsWithout_43 : decode cX12_townsWithout 43 = .ok (.aload_n 0, 1) := by decide +kernel
theorem dX12_townsWithout_44 : decode cX12_townsWithout 44 = .ok (.getfield 35, 3) := by decide +kernel
theorem dX12_townsWithout_47 : decode cX12_townsWithout 47 = .ok (.bipush 78, 2) := by decide +kernel
theorem dX12_townsWithout_49 : decode cX12_townsWithout 49 = .ok (.aload_n 0, 1) := by decide +kernel
theorem dX12_townsWithout_50 : decode cX12_townsWithout 50 = .ok (.getfield 75, 3) := by decide +kernel
theorem dX12_townsWithout_53 : decode cX12_townsWithout 53 = .ok (.iload 7, 2) := by decide +kernel
theorem dX12_townsWithout_55 : decode cX12_townsWithout 55 = .ok (.iaload, 1) := by decide +kernel
theorem dX12_townsWithout_56 : decode cX12_townsWithout 56 = .ok (.iadd, 1) := by decide +kernel
theorem dX12_townsWithout_57 : decode cX12_townsWithout 57 = .ok (.iaload, 1) := by decide +kernel
theorem dX12_townsWithout_58 : decode cX12_townsWithout 58 = .ok (.iload 5, 2) := by decide +kernel
theorem dX12_townsWithout_60 : decode cX12_townsWithout 60 = .ok (.invokevirtual 327, 3) := by decide +kernel
theorem dX12_townsWithout_63 : decode cX12_townsWithout 63 = .ok (.aload_n 0, 1) := by decide +kernel
theorem dX12_townsWithout_64 : decode cX12_townsWithout 64 = .ok (.getfield 78, 3) := by decide +kernel
theorem dX12_townsWithout_67 : decode cX12_townsWithout 67 = .ok (.iload 7, 2) := by decide +kernel
theorem dX12_townsWithout_69 : decode cX12_townsWithout 69 = .ok (.iaload, 1) := by decide +kernel
theorem dX12_townsWithout_70 : decode cX12_townsWithout 70 = .ok (.if_icmp .ne 35, 3) := by decide +kernel
theorem dX12_townsWithout_73 : decode cX12_townsWithout 73 = .ok (.iload 6, 2) := by decide +kernel
theorem dX12_townsWithout_75 : decode cX12_townsWithout 75 = .ok (.aload_n 0, 1) := by decide +kernel
theorem dX12_townsWithout_76 : decode cX12_townsWithout 76 = .ok (.getfield 45, 3) := by decide +kernel
theorem dX12_townsWithout_79 : decode cX12_townsWithout 79 = .ok (.bipush 9, 2) := by decide +kernel
theorem dX12_townsWithout_81 : decode cX12_townsWithout 81 = .ok (.aload_n 0, 1) := by decide +kernel
theorem dX12_townsWithout_82 : decode cX12_townsWithout 82 = .ok (.getfield 75, 3) := by decide +kernel
theorem dX12_townsWithout_85 : decode cX12_townsWithout 85 = .ok (.iload 7, 2) := by decide +kernel
theorem dX12_townsWithout_87 : decode cX12_townsWithout 87 = .ok (.iaload, 1) := by decide +kernel
theorem dX12_townsWithout_88 : decode cX12_townsWithout 88 = .ok (.imul, 1) := by decide +kernel
theorem dX12_townsWithout_89 : decode cX12_townsWithout 89 = .ok (.aload_n 0, 1) := by decide +kernel
theorem dX12_townsWithout_90 : decode cX12_townsWithout 90 = .ok (.getfield 78, 3) := by decide +kernel
theorem dX12_townsWithout_93 : decode cX12_townsWithout 93 = .ok (.iload 7, 2) := by decide +kernel
theorem dX12_townsWithout_95 : decode cX12_townsWithout 95 = .ok (.iaload, 1) := by decide +kernel
theorem dX12_townsWithout_96 : decode cX12_townsWithout 96 = .ok (.iadd, 1) := by decide +kernel
theorem dX12_townsWithout_97 : decode cX12_townsWithout 97 = .ok (.iaload, 1) := by decide +kernel
theorem dX12_townsWithout_98 : decode cX12_townsWithout 98 = .ok (.iconst 1, 1) := by decide +kernel
theorem dX12_townsWithout_99 : decode cX12_townsWithout 99 = .ok (.isub, 1) := by decide +kernel
theorem dX12_townsWithout_100 : decode cX12_townsWithout 100 = .ok (.invokestatic 354, 3) := by decide +kernel
theorem dX12_townsWithout_103 : decode cX12_townsWithout 103 = .ok (.istore 6, 2) := by decide +kernel
theorem dX12_townsWithout_105 : decode cX12_townsWithout 105 = .ok (.iinc 7 1, 3) := by decide +kernel
theorem dX12_townsWithout_108 : decode cX12_townsWithout 108 = .ok (.goto (-82), 3) := by decide +kernel
theorem dX12_townsWithout_111 : decode cX12_townsWithout 111 = .ok (.lload_n 3, 1) := by decide +kernel
theorem dX12_townsWithout_112 : decode cX12_townsWithout 112 = .ok (.iconst 0, 1) := by decide +kernel
theorem dX12_townsWithout_113 : decode cX12_townsWithout 113 = .ok (.iload 6, 2) := by decide +kernel
theorem dX12_townsWithout_115 : decode cX12_townsWithout 115 = .ok (.aload_n 0, 1) := by decide +kernel
theorem dX12_townsWithout_116 : decode cX12_townsWithout 116 = .ok (.getfield 35, 3) := by decide +kernel
theorem dX12_townsWithout_119 : decode cX12_townsWithout 119 = .ok (.bipush 28, 2) := by decide +kernel
theorem dX12_townsWithout_121 : decode cX12_townsWithout 121 = .ok (.iload 5, 2) := by decide +kernel
theorem dX12_townsWithout_123 : decode cX12_townsWithout 123 = .ok (.iadd, 1) := by decide +kernel
theorem dX12_townsWithout_124 : decode cX12_townsWithout 124 = .ok (.iaload, 1) := by decide +kernel
theorem dX12_townsWithout_125 : decode cX12_townsWithout 125 = .ok (.isub, 1) := by decide +kernel
theorem dX12_townsWithout_126 : decode cX12_townsWithout 126 = .ok (.iconst 1, 1) := by decide +kernel
theorem dX12_townsWithout_127 : decode cX12_townsWithout 127 = .ok (.iadd, 1) := by decide +kernel
theorem dX12_townsWithout_128 : decode cX12_townsWithout 128 = .ok (.invokestatic 342, 3) := by decide +kernel
theorem dX12_townsWithout_131 : decode cX12_townsWithout 131 = .ok (.i2l, 1) := by decide +kernel
theorem dX12_townsWithout_132 : decode cX12_townsWithout 132 = .ok (.lmul, 1) := by decide +kernel
theorem dX12_townsWithout_133 : decode cX12_townsWithout 133 = .ok (.ldc2_w 410, 3) := by decide +kernel
theorem dX12_townsWithout_136 : decode cX12_townsWithout 136 = .ok (.lrem, 1) := by decide +kernel
theorem dX12_townsWithout_137 : decode cX12_townsWithout 137 = .ok (.lstore_n 3, 1) := by decide +kernel
theorem dX12_townsWithout_138 : decode cX12_townsWithout 138 = .ok (.iinc 5 1, 3) := by decide +kernel
theorem dX12_townsWithout_141 : decode cX12_townsWithout 141 = .ok (.goto (-136), 3) := by decide +kernel
theorem dX12_townsWithout_144 : decode cX12_townsWithout 144 = .ok (.lload_n 3, 1) := by decide +kernel
theorem dX12_townsWithout_145 : decode cX12_townsWithout 145 = .ok (.lreturn, 1) := by decide +kernel
theorem dX12_towns_0 : decode cX12_towns 0 = .ok (.aload_n 0, 1) := by decide +kernel
theorem dX12_towns_1 : decode cX12_towns 1 = .ok (.iconst 0, 1) := by decide +kernel
theorem dX12_towns_2 : decode cX12_towns 2 = .ok (.putfield 81, 3) := by decide +kernel
theorem dX12_towns_5 : decode cX12_towns 5 = .ok (.aload_n 0, 1) := by decide +kernel
theorem dX12_towns_6 : decode cX12_towns 6 = .ok (.iconst 0, 1) := by decide +kernel
theorem dX12_towns_7 : decode cX12_towns 7 = .ok (.putfield 84, 3) := by decide +kernel
theorem dX12_towns_10 : decode cX12_towns 10 = .ok (.aload_n 0, 1) := by decide +kernel
theorem dX12_towns_11 : decode cX12_towns 11 = .ok (.iload_n 1, 1) := by decide +kernel
theorem dX12_towns_12 : decode cX12_towns 12 = .ok (.invokevirtual 369, 3) := by decide +kernel
theorem dX12_towns_15 : decode cX12_towns 15 = .ok (.ifCond .ne 9, 3) := by decide +kernel
theorem dX12_towns_18 : decode cX12_towns 18 = .ok (.aload_n 0, 1) := by decide +kernel
theorem dX12_towns_19 : decode cX12_towns 19 = .ok (.iconst 2, 1) := by decide +kernel
theorem dX12_towns_20 : decode cX12_towns 20 = .ok (.invokevirtual 316, 3) := by decide +kernel
theorem dX12_towns_23 : decode cX12_towns 23 = .ok (.ireturn, 1) := by decide +kernel
theorem dX12_towns_24 : decode cX12_towns 24 = .ok (.aload_n 0, 1) := by decide +kernel
theorem dX12_towns_25 : decode cX12_towns 25 = .ok (.iload_n 1, 1) := by decide +kernel
theorem dX12_towns_26 : decode cX12_towns 26 = .ok (.invokevirtual 372, 3) := by decide +kernel
theorem dX12_towns_29 : decode cX12_towns 29 = .ok (.iconst 0, 1) := by decide +kernel
theorem dX12_towns_30 : decode cX12_towns 30 = .ok (.istore_n 2, 1) := by decide +kernel
theorem dX12_towns_31 : decode cX12_towns 31 = .ok (.iconst 0, 1) := by decide +kernel
theorem dX12_towns_32 : decode cX12_towns 32 = .ok (.istore_n 3, 1) := by decide +kernel
theorem dX12_towns_33 : decode cX12_towns 33 = .ok (.iload_n 3, 1) := by decide +kernel
theorem dX12_towns_34 : decode cX12_towns 34 = .ok (.aload_n 0, 1) := by decide +kernel
theorem dX12_towns_35 : decode cX12_towns 35 = .ok (.getfield 35, 3) := by decide +kernel
theorem dX12_towns_38 : decode cX12_towns 38 = .ok (.iconst 2, 1) := by decide +kernel
theorem dX12_towns_39 : decode cX12_towns 39 = .ok (.iaload, 1) := by decide +kernel
theorem dX12_towns_40 : decode cX12_towns 40 = .ok (.if_icmp .ge 68, 3) := by decide +kernel
theorem dX12_towns_43 : decode cX12_towns 43 = .ok (.iconst 0, 1) := by decide +kernel
theorem dX12_towns_44 : decode cX12_towns 44 = .ok (.istore 4, 2) := by decide +kernel
theorem dX12_towns_46 : decode cX12_towns 46 = .ok (.iload 4, 2) := by decide +kernel
theorem dX12_towns_48 : decode cX12_towns 48 = .ok (.aload_n 0, 1) := by decide +kernel
theorem dX12_towns_49 : decode cX12_towns 49 = .ok (.iload_n 3, 1) := by decide +kernel
theorem dX12_towns_50 : decode cX12_towns 50 = .ok (.invokevirtual 311, 3) := by decide +kernel
theorem dX12_towns_53 : decode cX12_towns 53 = .ok (.if_icmp .ge 49, 3) := by decide +kernel
theorem dX12_towns_56 : decode cX12_towns 56 = .ok (.aload_n 0, 1) := by decide +kernel
theorem dX12_towns_57 : decode cX12_towns 57 = .ok (.getfield 41, 3) := by decide +kernel
theorem dX12_towns_60 : decode cX12_towns 60 = .ok (.iload_n 3, 1) := by decide +kernel
theorem dX12_towns_61 : decode cX12_towns 61 = .ok (.baload, 1) := by decide +kernel
theorem dX12_towns_62 : decode cX12_towns 62 = .ok (.ifCond .eq 40, 3) := by decide +kernel
theorem dX12_towns_65 : decode cX12_towns 65 = .ok (.iload_n 2, 1) := by decide +kernel
theorem dX12_towns_66 : decode cX12_towns 66 = .ok (.bipush 16, 2) := by decide +kernel
theorem dX12_towns_68 : decode cX12_towns 68 = .ok (.if_icmp .ne 10, 3) := by decide +kernel
theorem dX12_towns_71 : decode cX12_towns 71 = .ok (.aload_n 0, 1) := by decide +kernel
theorem dX12_towns_72 : decode cX12_towns 72 = .ok (.bipush 7, 2) := by decide +kernel
theorem dX12_towns_74 : decode cX12_towns 74 = .ok (.invokevirtual 316, 3) := by decide +kernel
theorem dX12_towns_77 : decode cX12_towns 77 = .ok (.ireturn, 1) := by decide +kernel
theorem dX12_towns_78 : decode cX12_towns 78 = .ok (.aload_n 0, 1) := by decide +kernel
theorem dX12_towns_79 : decode cX12_towns 79 = .ok (.getfield 75, 3) := by decide +kernel
theorem dX12_towns_82 : decode cX12_towns 82 = .ok (.iload_n 2, 1) := by decide +kernel
theorem dX12_towns_83 : decode cX12_towns 83 = .ok (.iload_n 3, 1) := by decide +kernel
theorem dX12_towns_84 : decode cX12_towns 84 = .ok (.iastore, 1) := by decide +kernel
theorem dX12_towns_85 : decode cX12_towns 85 = .ok (.aload_n 0, 1) := by decide +kernel
theorem dX12_towns_86 : decode cX12_towns 86 = .ok (.getfield 78, 3) := by decide +kernel
theorem dX12_towns_89 : decode cX12_towns 89 = .ok (.iload_n 2, 1) := by decide +kernel
theorem dX12_towns_90 : decode cX12_towns 90 = .ok (.iload 4, 2) := by decide +kernel
theorem dX12_towns_92 : decode cX12_towns 92 = .ok (.iastore, 1) := by decide +kernel
theorem dX12_towns_93 : decode cX12_towns 93 = .ok (.iinc 2 1, 3) := by decide +kernel
theorem dX12_towns_96 : decode cX12_towns 96 = .ok (.iinc 4 1, 3) := by decide +kernel
theorem dX12_towns_99 : decode cX12_towns 99 = .ok (.goto (-53), 3) := by decide +kernel
theorem dX12_towns_102 : decode cX12_towns 102 = .ok (.iinc 3 1, 3) := by decide +kernel
theorem dX12_towns_105 : decode cX12_towns 105 = .ok (.goto (-72), 3) := by decide +kernel
theorem dX12_towns_108 : decode cX12_towns 108 = .ok (.lconst 0, 1) := by decide +kernel
theorem dX12_towns_109 : decode cX12_towns 109 = .ok (.lstore_n 3, 1) := by decide +kernel
theorem dX12_towns_110 : decode cX12_towns 110 = .ok (.iconst 0, 1) := by decide +kernel
theorem dX12_towns_111 : decode cX12_towns 111 = .ok (.istore 5, 2) := by decide +kernel
theorem dX12_towns_113 : decode cX12_towns 113 = .ok (.iload 5, 2) := by decide +kernel
theorem dX12_towns_115 : decode cX12_towns 115 = .ok (.iconst 1, 1) := by decide +kernel
theorem dX12_towns_116 : decode cX12_towns 116 = .ok (.iload_n 2, 1) := by decide +kernel
theorem dX12_towns_117 : decode cX12_towns 117 = .ok (.ishl, 1) := by decide +kernel
theorem dX12_towns_118 : decode cX12_towns 118 = .ok (.if_icmp .ge 43, 3) := by decide +kernel
theorem dX12_towns_121 : decode cX12_towns 121 = .ok (.lload_n 3, 1) := by decide +kernel
theorem dX12_towns_122 : decode cX12_towns 122 = .ok (.iload 5, 2) := by decide +kernel
theorem dX12_towns_124 : decode cX12_towns 124 = .ok (.invokestatic 387, 3) := by decide +kernel
theorem dX12_towns_127 : decode cX12_towns 127 = .ok (.iconst 2, 1) := by decide +kernel
theorem dX12_towns_128 : decode cX12_towns 128 = .ok (.irem, 1) := by decide +kernel
theorem dX12_towns_129 : decode cX12_towns 129 = .ok (.ifCond .ne 13, 3) := by decide +kernel
theorem dX12_towns_132 : decode cX12_towns 132 = .ok (.aload_n 0, 1) := by decide +kernel
theorem dX12_towns_133 : decode cX12_towns 133 = .ok (.iload 5, 2) := by decide +kernel
theorem dX12_towns_135 : decode cX12_towns 135 = .ok (.iload_n 2, 1) := by decide +kernel
theorem dX12_towns_136 : decode cX12_towns 136 = .ok (.invokevirtual 412, 3) := by decide +kernel
theorem dX12_towns_139 : decode cX12_towns 139 = .ok (.goto 14, 3) := by decide +kernel
theorem dX12_towns_142 : decode cX12_towns 142 = .ok (.ldc2_w 410, 3) := by decide +kernel
theorem dX12_towns_145 : decode cX12_towns 145 = .ok (.aload_n 0, 1) := by decide +kernel
theorem dX12_towns_146 : decode cX12_towns 146 = .ok (.iload 5, 2) := by decide +kernel
theorem dX12_towns_148 : decode cX12_towns 148 = .ok (.iload_n 2, 1) := by decide +kernel
theorem dX12_towns_149 : decode cX12_towns 149 = .ok (.invokevirtual 412, 3) := by decide +kernel
theorem dX12_towns_152 : decode cX12_towns 152 = .ok (.lsub, 1) := by decide +kernel
theorem dX12_towns_153 : decode cX12_towns 153 = .ok (.ladd, 1) := by decide +kernel
theorem dX12_towns_154 : decode cX12_towns 154 = .ok (.lstore_n 3, 1) := by decide +kernel
theorem dX12_towns_155 : decode cX12_towns 155 = .ok (.iinc 5 1, 3) := by decide +kernel
theorem dX12_towns_158 : decode cX12_towns 158 = .ok (.goto (-45), 3) := by decide +kernel
theorem dX12_towns_161 : decode cX12_towns 161 = .ok (.lload_n 3, 1) := by decide +kernel
theorem dX12_towns_162 : decode cX12_towns 162 = .ok (.ldc2_w 410, 3) := by decide +kernel
theorem dX12_towns_165 : decode cX12_towns 165 = .ok (.lrem, 1) := by decide +kernel
theorem dX12_towns_166 : decode cX12_towns 166 = .ok (.l2i, 1) := by decide +kernel
theorem dX12_towns_167 : decode cX12_towns 167 = .ok (.ireturn, 1) := by decide +kernel
theorem dX12_sure_0 : decode cX12_sure 0 = .ok (.aload_n 0, 1) := by decide +kernel
theorem dX12_sure_1 : decode cX12_sure 1 = .ok (.iconst 0, 1) := by decide +kernel
theorem dX12_sure_2 : decode cX12_sure 2 = .ok (.putfield 81, 3) := by decide +kernel
theorem dX12_sure_5 : decode cX12_sure 5 = .ok (.aload_n 0, 1) := by decide +kernel
theorem dX12_sure_6 : decode cX12_sure 6 = .ok (.iconst 0, 1) := by decide +kernel
theorem dX12_sure_7 : decode cX12_sure 7 = .ok (.putfield 84, 3) := by decide +kernel
theorem dX12_sure_10 : decode cX12_sure 10 = .ok (.aload_n 0, 1) := by decide +kernel
theorem dX12_sure_11 : decode cX12_sure 11 = .ok (.iload_n 1, 1) := by decide +kernel
theorem dX12_sure_12 : decode cX12_sure 12 = .ok (.invokevirtual 369, 3) := by decide +kernel
theorem dX12_sure_15 : decode cX12_sure 15 = .ok (.ifCond .eq 11, 3) := by decide +kernel
theorem dX12_sure_18 : decode cX12_sure 18 = .ok (.aload_n 0, 1) := by decide +kernel
theorem dX12_sure_19 : decode cX12_sure 19 = .ok (.iload_n 2, 1) := by decide +kernel
theorem dX12_sure_20 : decode cX12_sure 20 = .ok (.invokevirtual 319, 3) := by decide +kernel
theorem dX12_sure_23 : decode cX12_sure 23 = .ok (.ifCond .ne 9, 3) := by decide +kernel
theorem dX12_sure_26 : decode cX12_sure 26 = .ok (.aload_n 0, 1) := by decide +kernel
theorem dX12_sure_27 : decode cX12_sure 27 = .ok (.iconst 2, 1) := by decide +kernel
theorem dX12_sure_28 : decode cX12_sure 28 = .ok (.invokevirtual 316, 3) := by decide +kernel
theorem dX12_sure_31 : decode cX12_sure 31 = .ok (.ireturn, 1) := by decide +kernel
theorem dX12_sure_32 : decode cX12_sure 32 = .ok (.iload_n 3, 1) := by decide +kernel
theorem dX12_sure_33 : decode cX12_sure 33 = .ok (.i2l, 1) := by decide +kernel
theorem dX12_sure_34 : decode cX12_sure 34 = .ok (.lconst 0, 1) := by decide +kernel
theorem dX12_sure_35 : decode cX12_sure 35 = .ok (.lconst 1, 1) := by decide +kernel
theorem dX12_sure_36 : decode cX12_sure 36 = .ok (.invokestatic 116, 3) := by decide +kernel
theorem dX12_sure_39 : decode cX12_sure 39 = .ok (.ifCond .ne 9, 3) := by decide +kernel
theorem dX12_sure_42 : decode cX12_sure 42 = .ok (.aload_n 0, 1) := by decide +kernel
theorem dX12_sure_43 : decode cX12_sure 43 = .ok (.iconst 5, 1) := by decide +kernel
theorem dX12_sure_44 : decode cX12_sure 44 = .ok (.invokevirtual 316, 3) := by decide +kernel
theorem dX12_sure_47 : decode cX12_sure 47 = .ok (.ireturn, 1) := by decide +kernel
theorem dX12_sure_48 : decode cX12_sure 48 = .ok (.aload_n 0, 1) := by decide +kernel
theorem dX12_sure_49 : decode cX12_sure 49 = .ok (.iload_n 1, 1) := by decide +kernel
theorem dX12_sure_50 : decode cX12_sure 50 = .ok (.invokevirtual 372, 3) := by decide +kernel
theorem dX12_sure_53 : decode cX12_sure 53 = .ok (.aload_n 0, 1) := by decide +kernel
theorem dX12_sure_54 : decode cX12_sure 54 = .ok (.invokevirtual 375, 3) := by decide +kernel
theorem dX12_sure_57 : decode cX12_sure 57 = .ok (.ifCond .ne 10, 3) := by decide +kernel
theorem dX12_sure_60 : decode cX12_sure 60 = .ok (.aload_n 0, 1) := by decide +kernel
theorem dX12_sure_61 : decode cX12_sure 61 = .ok (.bipush 9, 2) := by decide +kernel
theorem dX12_sure_63 : decode cX12_sure 63 = .ok (.invokevirtual 316, 3) := by decide +kernel
theorem dX12_sure_66 : decode cX12_sure 66 = .ok (.ireturn, 1) := by decide +kernel
theorem dX12_sure_67 : decode cX12_sure 67 = .ok (.iload_n 3, 1) := by decide +kernel
theorem dX12_sure_68 : decode cX12_sure 68 = .ok (.iconst 1, 1) := by decide +kernel
theorem dX12_sure_69 : decode cX12_sure 69 = .ok (.if_icmp .ne 10, 3) := by decide +kernel
theorem dX12_sure_72 : decode cX12_sure 72 = .ok (.aload_n 0, 1) := by decide +kernel
theorem dX12_sure_73 : decode cX12_sure 73 = .ok (.getfield 48, 3) := by decide +kernel
theorem dX12_sure_76 : decode cX12_sure 76 = .ok (.iload_n 2, 1) := by decide +kernel
theorem dX12_sure_77 : decode cX12_sure 77 = .ok (.iaload, 1) := by decide +kernel
theorem dX12_sure_78 : decode cX12_sure 78 = .ok (.ireturn, 1) := by decide +kernel
theorem dX12_sure_79 : decode cX12_sure 79 = .ok (.iconst 0, 1) := by decide +kernel
theorem dX12_sure_80 : decode cX12_sure 80 = .ok (.istore 4, 2) := by decide +kernel
theorem dX12_sure_82 : decode cX12_sure 82 = .ok (.iload 4, 2) := by decide +kernel
theorem dX12_sure_84 : decode cX12_sure 84 = .ok (.aload_n 0, 1) := by decide +kernel
theorem dX12_sure_85 : decode cX12_sure 85 = .ok (.getfield 35, 3) := by decide +kernel
theorem dX12_sure_88 : decode cX12_sure 88 = .ok (.iconst 2, 1) := by decide +kernel
theorem dX12_sure_89 : decode cX12_sure 89 = .ok (.iaload, 1) := by decide +kernel
theorem dX12_sure_90 : decode cX12_sure 90 = .ok (.if_icmp .ge 53, 3) := by decide +kernel
theorem dX12_sure_93 : decode cX12_sure 93 = .ok (.aload_n 0, 1) := by decide +kernel
theorem dX12_sure_94 : decode cX12_sure 94 = .ok (.getfield 41, 3) := by decide +kernel
theorem dX12_sure_97 : decode cX12_sure 97 = .ok (.iload 4, 2) := by decide +kernel
theorem dX12_sure_99 : decode cX12_sure 99 = .ok (.baload, 1) := by decide +kernel
theorem dX12_sure_100 : decode cX12_sure 100 = .ok (.ifCond .eq 37, 3) := by decide +kernel
theorem dX12_sure_103 : decode cX12_sure 103 = .ok (.aload_n 0, 1) := by decide +kernel
theorem dX12_sure_104 : decode cX12_sure 104 = .ok (.iload 4, 2) := by decide +kernel
theorem dX12_sure_106 : decode cX12_sure 106 = .ok (.aload_n 0, 1) := by decide +kernel
theorem dX12_sure_107 : decode cX12_sure 107 = .ok (.aload_n 0, 1) := by decide +kernel
theorem dX12_sure_108 : decode cX12_sure 108 = .ok (.getfield 35, 3) := by decide +kernel
theorem dX12_sure_111 : decode cX12_sure 111 = .ok (.bipush 78, 2) := by decide +kernel
theorem dX12_sure_113 : decode cX12_sure 113 = .ok (.iload 4, 2) := by decide +kernel
theorem dX12_sure_115 : decode cX12_sure 115 = .ok (.iadd, 1) := by decide +kernel
theorem dX12_sure_116 : decode cX12_sure 116 = .ok (.iaload, 1) := by decide +kernel
theorem dX12_sure_117 : decode cX12_sure 117 = .ok (.iload_n 2, 1) := by decide +kernel
theorem dX12_sure_118 : decode cX12_sure 118 = .ok (.invokevirtual 327, 3) := by decide +kernel
theorem dX12_sure_121 : decode cX12_sure 121 = .ok (.invokevirtual 366, 3) := by decide +kernel
theorem dX12_sure_124 : decode cX12_sure 124 = .ok (.iconst 1, 1) := by decide +kernel
theorem dX12_sure_125 : decode cX12_sure 125 = .ok (.iload_n 2, 1) := by decide +kernel
theorem dX12_sure_126 : decode cX12_sure 126 = .ok (.ishl, 1) := by decide +kernel
theorem dX12_sure_127 : decode cX12_sure 127 = .ok (.if_icmp .ne 10, 3) := by decide +kernel
theorem dX12_sure_130 : decode cX12_sure 130 = .ok (.aload_n 0, 1) := by decide +kernel
theorem dX12_sure_131 : decode cX12_sure 131 = .ok (.getfield 48, 3) := by decide +kernel
theorem dX12_sure_134 : decode cX12_sure 134 = .ok (.iload_n 2, 1) := by decide +kernel
theorem dX12_sure_135 : decode cX12_sure 135 = .ok (.iaload, 1) := by decide +kernel
theorem dX12_sure_136 : decode cX12_sure 136 = .ok (.ireturn, 1) := by decide +kernel
theorem dX12_sure_137 : decode cX12_sure 137 = .ok (.iinc 4 1, 3) := by decide +kernel
theorem dX12_sure_140 : decode cX12_sure 140 = .ok (.goto (-58), 3) := by decide +kernel
theorem dX12_sure_143 : decode cX12_sure 143 = .ok (.aload_n 0, 1) := by decide +kernel
theorem dX12_sure_144 : decode cX12_sure 144 = .ok (.getfield 35, 3) := by decide +kernel
theorem dX12_sure_147 : decode cX12_sure 147 = .ok (.bipush 28, 2) := by decide +kernel
theorem dX12_sure_149 : decode cX12_sure 149 = .ok (.iload_n 2, 1) := by decide +kernel
theorem dX12_sure_150 : decode cX12_sure 150 = .ok (.iadd, 1) := by decide +kernel
theorem dX12_sure_151 : decode cX12_sure 151 = .ok (.iaload, 1) := by decide +kernel
theorem dX12_sure_152 : decode cX12_sure 152 = .ok (.ireturn, 1) := by decide +kernel
theorem dX12_struck_0 : decode cX12_struck 0 = .ok (.aload_n 0, 1) := by decide +kernel
theorem dX12_struck_1 : decode cX12_struck 1 = .ok (.iconst 0, 1) := by decide +kernel
theorem dX12_struck_2 : decode cX12_struck 2 = .ok (.putfield 81, 3) := by decide +kernel
theorem dX12_struck_5 : decode cX12_struck 5 = .ok (.aload_n 0, 1) := by decide +kernel
theorem dX12_struck_6 : decode cX12_struck 6 = .ok (.iconst 0, 1) := by decide +kernel
theorem dX12_struck_7 : decode cX12_struck 7 = .ok (.putfield 84, 3) := by decide +kernel
theorem dX12_struck_10 : decode cX12_struck 10 = .ok (.iconst 0, 1) := by decide +kernel
theorem dX12_struck_11 : decode cX12_struck 11 = .ok (.istore_n 1, 1) := by decide +kernel
theorem dX12_struck_12 : decode cX12_struck 12 = .ok (.iconst 0, 1) := by decide +kernel
theorem dX12_struck_13 : decode cX12_struck 13 = .ok (.istore_n 2, 1) := by decide +kernel
theorem dX12_struck_14 : decode cX12_struck 14 = .ok (.iload_n 2, 1) := by decide +kernel
theorem dX12_struck_15 : decode cX12_struck 15 = .ok (.aload_n 0, 1) := by decide +kernel
theorem dX12_struck_16 : decode cX12_struck 16 = .ok (.getfield 35, 3) := by decide +kernel
theorem dX12_struck_19 : decode cX12_struck 19 = .ok (.iconst 2, 1) := by decide +kernel
theorem dX12_struck_20 : decode cX12_struck 20 = .ok (.iaload, 1) := by decide +kernel
theorem dX12_struck_21 : decode cX12_struck 21 = .ok (.if_icmp .ge 23, 3) := by decide +kernel
theorem dX12_struck_24 : decode cX12_struck 24 = .ok (.iload_n 1, 1) := by decide +kernel
theorem dX12_struck_25 : decode cX12_struck 25 = .ok (.aload_n 0, 1) := by decide +kernel
theorem dX12_struck_26 : decode cX12_struck 26 = .ok (.getfield 35, 3) := by decide +kernel
theorem dX12_struck_29 : decode cX12_struck 29 = .ok (.bipush 84, 2) := by decide +kernel
theorem dX12_struck_31 : decode cX12_struck 31 = .ok (.iload_n 2, 1) := by decide +kernel
theorem dX12_struck_32 : decode cX12_struck 32 = .ok (.iadd, 1) := by decide +kernel
theorem dX12_struck_33 : decode cX12_struck 33 = .ok (.iaload, 1) := by decide +kernel
theorem dX12_struck_34 : decode cX12_struck 34 = .ok (.iload_n 2, 1) := by decide +kernel
theorem dX12_struck_35 : decode cX12_struck 35 = .ok (.ishl, 1) := by decide +kernel
theorem dX12_struck_36 : decode cX12_struck 36 = .ok (.ior, 1) := by decide +kernel
theorem dX12_struck_37 : decode cX12_struck 37 = .ok (.istore_n 1, 1) := by decide +kernel
theorem dX12_struck_38 : decode cX12_struck 38 = .ok (.iinc 2 1, 3) := by decide +kernel
theorem dX12_struck_41 : decode cX12_struck 41 = .ok (.goto (-27), 3) := by decide +kernel
theorem dX12_struck_44 : decode cX12_struck 44 = .ok (.iconst (-1), 1) := by decide +kernel
theorem dX12_struck_45 : decode cX12_struck 45 = .ok (.istore_n 2, 1) := by decide +kernel
theorem dX12_struck_46 : decode cX12_struck 46 = .ok (.iconst 0, 1) := by decide +kernel
theorem dX12_struck_47 : decode cX12_struck 47 = .ok (.istore_n 3, 1) := by decide +kernel
theorem dX12_struck_48 : decode cX12_struck 48 = .ok (.iload_n 3, 1) := by decide +kernel
theorem dX12_struck_49 : decode cX12_struck 49 = .ok (.iload_n 1, 1) := by decide +kernel
theorem dX12_struck_50 : decode cX12_struck 50 = .ok (.if_icmp .gt 53, 3) := by decide +kernel
theorem dX12_struck_53 : decode cX12_struck 53 = .ok (.iload_n 3, 1) := by decide +kernel
theorem dX12_struck_54 : decode cX12_struck 54 = .ok (.iload_n 1, 1) := by decide +kernel
theorem dX12_struck_55 : decode cX12_struck 55 = .ok (.iconst (-1), 1) := by decide +kernel
theorem dX12_struck_56 : decode cX12_struck 56 = .ok (.ixor, 1) := by decide +kernel
theorem dX12_struck_57 : decode cX12_struck 57 = .ok (.iand, 1) := by decide +kernel
theorem dX12_struck_58 : decode cX12_struck 58 = .ok (.ifCond .ne 39, 3) := by decide +kernel
theorem dX12_struck_61 : decode cX12_struck 61 = .ok (.iload_n 2, 1) := by decide +kernel
theorem dX12_struck_62 : decode cX12_struck 62 = .ok (.ifCond .lt 17, 3) := by decide +kernel
theorem dX12_struck_65 : decode cX12_struck 65 = .ok (.iload_n 3, 1) := by decide +kernel
theorem dX12_struck_66 : decode cX12_struck 66 = .ok (.invokestatic 387, 3) := by decide +kernel
theorem dX12_struck_69 : decode cX12_struck 69 = .ok (.iload_n 2, 1) := by decide +kernel
theorem dX12_struck_70 : decode cX12_struck 70 = .ok (.invokestatic 387, 3) := by decide +kernel
theorem dX12_struck_73 : decode cX12_struck 73 = .ok (.if_icmp .lt 6, 3) := by decide +kernel
theorem dX12_struck_76 : decode cX12_struck 76 = .ok (.goto 21, 3) := by decide +kernel
theorem dX12_struck_79 : decode cX12_struck 79 = .ok (.aload_n 0, 1) := by decide +kernel
theorem dX12_struck_80 : decode cX12_struck 80 = .ok (.iload_n 1, 1) := by decide +kernel
theorem dX12_struck_81 : decode cX12_struck 81 = .ok (.iload_n 3, 1) := by decide +kernel
theorem dX12_struck_82 : decode cX12_struck 82 = .ok (.iconst (-1), 1) := by decide +kernel
theorem dX12_struck_83 : decode cX12_struck 83 = .ok (.ixor, 1) := by decide +kernel
theorem dX12_struck_84 : decode cX12_struck 84 = .ok (.iand, 1) := by decide +kernel
theorem dX12_struck_85 : decode cX12_struck 85 = .ok (.invokevirtual 372, 3) := by decide +kernel
theorem dX12_struck_88 : decode cX12_struck 88 = .ok (.aload_n 0, 1) := by decide +kernel
theorem dX12_struck_89 : decode cX12_struck 89 = .ok (.invokevirtual 375, 3) := by decide +kernel
theorem dX12_struck_92 : decode cX12_struck 92 = .ok (.ifCond .eq 5, 3) := by decide +kernel
theorem dX12_struck_95 : decode cX12_struck 95 = .ok (.iload_n 3, 1) := by decide +kernel
theorem dX12_struck_96 : decode cX12_struck 96 = .ok (.istore_n 2, 1) := by decide +kernel
theorem dX12_struck_97 : decode cX12_struck 97 = .ok (.iinc 3 1, 3) := by decide +kernel
theorem dX12_struck_100 : decode cX12_struck 100 = .ok (.goto (-52), 3) := by decide +kernel
theorem dX12_struck_103 : decode cX12_struck 103 = .ok (.iload_n 2, 1) := by decide +kernel
theorem dX12_struck_104 : decode cX12_struck 104 = .ok (.ifCond .ge 12, 3) := by decide +kernel
theorem dX12_struck_107 : decode cX12_struck 107 = .ok (.aload_n 0, 1) := by decide +kernel
theorem dX12_struck_108 : decode cX12_struck 108 = .ok (.bipush 9, 2) := by decide +kernel
theorem dX12_struck_110 : decode cX12_struck 110 = .ok (.invokevirtual 316, 3) := by decide +kernel
theorem dX12_struck_113 : decode cX12_struck 113 = .ok (.goto 4, 3) := by decide +kernel
theorem dX12_struck_116 : decode cX12_struck 116 = .ok (.iload_n 2, 1) := by decide +kernel
theorem dX12_struck_117 : decode cX12_struck 117 = .ok (.ireturn, 1) := by decide +kernel
theorem dX12_down_0 : decode cX12_down 0 = .ok (.aload_n 0, 1) := by decide +kernel
theorem dX12_down_1 : decode cX12_down 1 = .ok (.iconst 0, 1) := by decide +kernel
theorem dX12_down_2 : decode cX12_down 2 = .ok (.putfield 81, 3) := by decide +kernel
theorem dX12_down_5 : decode cX12_down 5 = .ok (.aload_n 0, 1) := by decide +kernel
theorem dX12_down_6 : decode cX12_down 6 = .ok (.iconst 0, 1) := by decide +kernel
theorem dX12_down_7 : decode cX12_down 7 = .ok (.putfield 84, 3) := by decide +kernel
theorem dX12_down_10 : decode cX12_down 10 = .ok (.aload_n 0, 1) := by decide +kernel
theorem dX12_down_11 : decode cX12_down 11 = .ok (.iload_n 1, 1) := by decide +kernel
theorem dX12_down_12 : decode cX12_down 12 = .ok (.invokevirtual 319, 3) := by decide +kernel
theorem dX12_down_15 : decode cX12_down 15 = .ok (.ifCond .ne 9, 3) := by decide +kernel
theorem dX12_down_18 : decode cX12_down 18 = .ok (.aload_n 0, 1) := by decide +kernel
theorem dX12_down_19 : decode cX12_down 19 = .ok (.iconst 2, 1) := by decide +kernel
theorem dX12_down_20 : decode cX12_down 20 = .ok (.invokevirtual 316, 3) := by decide +kernel
theorem dX12_down_23 : decode cX12_down 23 = .ok (.ireturn, 1) := by decide +kernel
theorem dX12_down_24 : decode cX12_down 24 = .ok (.aload_n 0, 1) := by decide +kernel
theorem dX12_down_25 : decode cX12_down 25 = .ok (.getfield 35, 3) := by decide +kernel
theorem dX12_down_28 : decode cX12_down 28 = .ok (.sipush 144, 3) := by decide +kernel
theorem dX12_down_31 : decode cX12_down 31 = .ok (.iload_n 1, 1) := by decide +kernel
theorem dX12_down_32 : decode cX12_down 32 = .ok (.iadd, 1) := by decide +kernel
theorem dX12_down_33 : decode cX12_down 33 = .ok (.iaload, 1) := by decide +kernel
theorem dX12_down_34 : decode cX12_down 34 = .ok (.istore_n 2, 1) := by decide +kernel
theorem dX12_down_35 : decode cX12_down 35 = .ok (.iconst 0, 1) := by decide +kernel
theorem dX12_down_36 : decode cX12_down 36 = .ok (.istore_n 3, 1) := by decide +kernel
theorem dX12_down_37 : decode cX12_down 37 = .ok (.iconst 0, 1) := by decide +kernel
theorem dX12_down_38 : decode cX12_down 38 = .ok (.istore 4, 2) := by decide +kernel
theorem dX12_down_40 : decode cX12_down 40 = .ok (.iload 4, 2) := by decide +kernel
theorem dX12_down_42 : decode cX12_down 42 = .ok (.aload_n 0, 1) := by decide +kernel
theorem dX12_down_43 : decode cX12_down 43 = .ok (.getfield 35, 3) := by decide +kernel
theorem dX12_down_46 : decode cX12_down 46 = .ok (.iconst 2, 1) := by decide +kernel
theorem dX12_down_47 : decode cX12_down 47 = .ok (.iaload, 1) := by decide +kernel
theorem dX12_down_48 : decode cX12_down 48 = .ok (.if_icmp .ge 107, 3) := by decide +kernel
theorem dX12_down_51 : decode cX12_down 51 = .ok (.aload_n 0, 1) := by decide +kernel
theorem dX12_down_52 : decode cX12_down 52 = .ok (.aload_n 0, 1) := by decide +kernel
theorem dX12_down_53 : decode cX12_down 53 = .ok (.getfield 35, 3) := by decide +kernel
theorem dX12_down_56 : decode cX12_down 56 = .ok (.bipush 78, 2) := by decide +kernel
theorem dX12_down_58 : decode cX12_down 58 = .ok (.iload 4, 2) := by decide +kernel
theorem dX12_down_60 : decode cX12_down 60 = .ok (.iadd, 1) := by decide +kernel
theorem dX12_down_61 : decode cX12_down 61 = .ok (.iaload, 1) := by decide +kernel
theorem dX12_down_62 : decode cX12_down 62 = .ok (.iload_n 1, 1) := by decide +kernel
theorem dX12_down_63 : decode cX12_down 63 = .ok (.invokevirtual 327, 3) := by decide +kernel
theorem dX12_down_66 : decode cX12_down 66 = .ok (.istore 5, 2) := by decide +kernel
theorem dX12_down_68 : decode cX12_down 68 = .ok (.aload_n 0, 1) := by decide +kernel
theorem dX12_down_69 : decode cX12_down 69 = .ok (.aload_n 0, 1) := by decide +kernel
theorem dX12_down_70 : decode cX12_down 70 = .ok (.getfield 35, 3) := by decide +kernel
theorem dX12_down_73 : decode cX12_down 73 = .ok (.bipush 78, 2) := by decide +kernel
theorem dX12_down_75 : decode cX12_down 75 = .ok (.iload 4, 2) := by decide +kernel
theorem dX12_down_77 : decode cX12_down 77 = .ok (.iadd, 1) := by decide +kernel
theorem dX12_down_78 : decode cX12_down 78 = .ok (.iaload, 1) := by decide +kernel
theorem dX12_down_79 : decode cX12_down 79 = .ok (.iload 5, 2) := by decide +kernel
theorem dX12_down_81 : decode cX12_down 81 = .ok (.invokevirtual 345, 3) := by decide +kernel
theorem dX12_down_84 : decode cX12_down 84 = .ok (.istore 6, 2) := by decide +kernel
theorem dX12_down_86 : decode cX12_down 86 = .ok (.aload_n 0, 1) := by decide +kernel
theorem dX12_down_87 : decode cX12_down 87 = .ok (.getfield 35, 3) := by decide +kernel
theorem dX12_down_90 : decode cX12_down 90 = .ok (.sipush 144, 3) := by decide +kernel
theorem dX12_down_93 : decode cX12_down 93 = .ok (.iload_n 1, 1) := by decide +kernel
theorem dX12_down_94 : decode cX12_down 94 = .ok (.iadd, 1) := by decide +kernel
theorem dX12_down_95 : decode cX12_down 95 = .ok (.iload_n 2, 1) := by decide +kernel
theorem dX12_down_96 : decode cX12_down 96 = .ok (.aload_n 0, 1) := by decide +kernel
theorem dX12_down_97 : decode cX12_down 97 = .ok (.getfield 35, 3) := by decide +kernel
theorem dX12_down_100 : decode cX12_down 100 = .ok (.bipush 28, 2) := by decide +kernel
theorem dX12_down_102 : decode cX12_down 102 = .ok (.iload_n 1, 1) := by decide +kernel
theorem dX12_down_103 : decode cX12_down 103 = .ok (.iadd, 1) := by decide +kernel
theorem dX12_down_104 : decode cX12_down 104 = .ok (.iaload, 1) := by decide +kernel
theorem dX12_down_105 : decode cX12_down 105 = .ok (.invokestatic 354, 3) := by decide +kernel
theorem dX12_down_108 : decode cX12_down 108 = .ok (.iastore, 1) := by decide +kernel
theorem dX12_down_109 : decode cX12_down 109 = .ok (.iload_n 3, 1) := by decide +kernel
theorem dX12_down_110 : decode cX12_down 110 = .ok (.aload_n 0, 1) := by decide +kernel
theorem dX12_down_111 : decode cX12_down 111 = .ok (.aload_n 0, 1) := by decide +kernel
theorem dX12_down_112 : decode cX12_down 112 = .ok (.getfield 35, 3) := by decide +kernel
theorem dX12_down_115 : decode cX12_down 115 = .ok (.bipush 78, 2) := by decide +kernel
theorem dX12_down_117 : decode cX12_down 117 = .ok (.iload 4, 2) := by decide +kernel
theorem dX12_down_119 : decode cX12_down 119 = .ok (.iadd, 1) := by decide +kernel
theorem dX12_down_120 : decode cX12_down 120 = .ok (.iaload, 1) := by decide +kernel
theorem dX12_down_121 : decode cX12_down 121 = .ok (.iload 5, 2) := by decide +kernel
theorem dX12_down_123 : decode cX12_down 123 = .ok (.invokevirtual 345, 3) := by decide +kernel
theorem dX12_down_126 : decode cX12_down 126 = .ok (.iload 6, 2) := by decide +kernel
theorem dX12_down_128 : decode cX12_down 128 = .ok (.if_icmp .ne 7, 3) := by decide +kernel
theorem dX12_down_131 : decode cX12_down 131 = .ok (.iconst 0, 1) := by decide +kernel
theorem dX12_down_132 : decode cX12_down 132 = .ok (.goto 4, 3) := by decide +kernel
theorem dX12_down_135 : decode cX12_down 135 = .ok (.iconst 1, 1) := by decide +kernel
theorem dX12_down_136 : decode cX12_down 136 = .ok (.iadd, 1) := by decide +kernel
theorem dX12_down_137 : decode cX12_down 137 = .ok (.istore_n 3, 1) := by decide +kernel
theorem dX12_down_138 : decode cX12_down 138 = .ok (.aload_n 0, 1) := by decide +kernel
theorem dX12_down_139 : decode cX12_down 139 = .ok (.getfield 35, 3) := by decide +kernel
theorem dX12_down_142 : decode cX12_down 142 = .ok (.sipush 144, 3) := by decide +kernel
theorem dX12_down_145 : decode cX12_down 145 = .ok (.iload_n 1, 1) := by decide +kernel
theorem dX12_down_146 : decode cX12_down 146 = .ok (.iadd, 1) := by decide +kernel
theorem dX12_down_147 : decode cX12_down 147 = .ok (.iload_n 2, 1) := by decide +kernel
theorem dX12_down_148 : decode cX12_down 148 = .ok (.iastore, 1) := by decide +kernel
theorem dX12_down_149 : decode cX12_down 149 = .ok (.iinc 4 1, 3) := by decide +kernel
theorem dX12_down_152 : decode cX12_down 152 = .ok (.goto (-112), 3) := by decide +kernel
theorem dX12_down_155 : decode cX12_down 155 = .ok (.iload_n 3, 1) := by decide +kernel
theorem dX12_down_156 : decode cX12_down 156 = .ok (.ireturn, 1) := by decide +kernel
theorem dX12_askAsSeen_0 : decode cX12_askAsSeen 0 = .ok (.iconst 0, 1) := by decide +kernel
theorem dX12_askAsSeen_1 : decode cX12_askAsSeen 1 = .ok (.istore_n 1, 1) := by decide +kernel
theorem dX12_askAsSeen_2 : decode cX12_askAsSeen 2 = .ok (.iload_n 1, 1) := by decide +kernel
theorem dX12_askAsSeen_3 : decode cX12_askAsSeen 3 = .ok (.aload_n 0, 1) := by decide +kernel
theorem dX12_askAsSeen_4 : decode cX12_askAsSeen 4 = .ok (.getfield 35, 3) := by decide +kernel
theorem dX12_askAsSeen_7 : decode cX12_askAsSeen 7 = .ok (.iconst 2, 1) := by decide +kernel
theorem dX12_askAsSeen_8 : decode cX12_askAsSeen 8 = .ok (.iaload, 1) := by decide +kernel
theorem dX12_askAsSeen_9 : decode cX12_askAsSeen 9 = .ok (.if_icmp .ge 58, 3) := by decide +kernel
theorem dX12_askAsSeen_12 : decode cX12_askAsSeen 12 = .ok (.aload_n 0, 1) := by decide +kernel
theorem dX12_askAsSeen_13 : decode cX12_askAsSeen 13 = .ok (.getfield 41, 3) := by decide +kernel
theorem dX12_askAsSeen_16 : decode cX12_askAsSeen 16 = .ok (.iload_n 1, 1) := by decide +kernel
theorem dX12_askAsSeen_17 : decode cX12_askAsSeen 17 = .ok (.iconst 1, 1) := by decide +kernel
theorem dX12_askAsSeen_18 : decode cX12_askAsSeen 18 = .ok (.bastore, 1) := by decide +kernel
theorem dX12_askAsSeen_19 : decode cX12_askAsSeen 19 = .ok (.iconst 0, 1) := by decide +kernel
theorem dX12_askAsSeen_20 : decode cX12_askAsSeen 20 = .ok (.istore_n 2, 1) := by decide +kernel
theorem dX12_askAsSeen_21 : decode cX12_askAsSeen 21 = .ok (.iload_n 2, 1) := by decide +kernel
theorem dX12_askAsSeen_22 : decode cX12_askAsSeen 22 = .ok (.aload_n 0, 1) := by decide +kernel
theorem dX12_askAsSeen_23 : decode cX12_askAsSeen 23 = .ok (.iload_n 1, 1) := by decide +kernel
theorem dX12_askAsSeen_24 : decode cX12_askAsSeen 24 = .ok (.invokevirtual 311, 3) := by decide +kernel
theorem dX12_askAsSeen_27 : decode cX12_askAsSeen 27 = .ok (.if_icmp .ge 34, 3) := by decide +kernel
theorem dX12_askAsSeen_30 : decode cX12_askAsSeen 30 = .ok (.aload_n 0, 1) := by decide +kernel
theorem dX12_askAsSeen_31 : decode cX12_askAsSeen 31 = .ok (.getfield 45, 3) := by decide +kernel
theorem dX12_askAsSeen_34 : decode cX12_askAsSeen 34 = .ok (.bipush 9, 2) := by decide +kernel
theorem dX12_askAsSeen_36 : decode cX12_askAsSeen 36 = .ok (.iload_n 1, 1) := by decide +kernel
theorem dX12_askAsSeen_37 : decode cX12_askAsSeen 37 = .ok (.imul, 1) := by decide +kernel
theorem dX12_askAsSeen_38 : decode cX12_askAsSeen 38 = .ok (.iload_n 2, 1) := by decide +kernel
theorem dX12_askAsSeen_39 : decode cX12_askAsSeen 39 = .ok (.iadd, 1) := by decide +kernel
theorem dX12_askAsSeen_40 : decode cX12_askAsSeen 40 = .ok (.aload_n 0, 1) := by decide +kernel
theorem dX12_askAsSeen_41 : decode cX12_askAsSeen 41 = .ok (.aload_n 0, 1) := by decide +kernel
theorem dX12_askAsSeen_42 : decode cX12_askAsSeen 42 = .ok (.getfield 35, 3) := by decide +kernel
theorem dX12_askAsSeen_45 : decode cX12_askAsSeen 45 = .ok (.bipush 78, 2) := by decide +kernel
theorem dX12_askAsSeen_47 : decode cX12_askAsSeen 47 = .ok (.iload_n 1, 1) := by decide +kernel
theorem dX12_askAsSeen_48 : decode cX12_askAsSeen 48 = .ok (.iadd, 1) := by decide +kernel
theorem dX12_askAsSeen_49 : decode cX12_askAsSeen 49 = .ok (.iaload, 1) := by decide +kernel
theorem dX12_askAsSeen_50 : decode cX12_askAsSeen 50 = .ok (.iload_n 2, 1) := by decide +kernel
theorem dX12_askAsSeen_51 : decode cX12_askAsSeen 51 = .ok (.invokevirtual 345, 3) := by decide +kernel
theorem dX12_askAsSeen_54 : decode cX12_askAsSeen 54 = .ok (.iastore, 1) := by decide +kernel
theorem dX12_askAsSeen_55 : decode cX12_askAsSeen 55 = .ok (.iinc 2 1, 3) := by decide +kernel
theorem dX12_askAsSeen_58 : decode cX12_askAsSeen 58 = .ok (.goto (-37), 3) := by decide +kernel
theorem dX12_askAsSeen_61 : decode cX12_askAsSeen 61 = .ok (.iinc 1 1, 3) := by decide +kernel
theorem dX12_askAsSeen_64 : decode cX12_askAsSeen 64 = .ok (.goto (-62), 3) := by decide +kernel
theorem dX12_askAsSeen_67 : decode cX12_askAsSeen 67 = .ok (.return_, 1) := by decide +kernel
theorem dX12_instead_0 : decode cX12_instead 0 = .ok (.aload_n 0, 1) := by decide +kernel
theorem dX12_instead_1 : decode cX12_instead 1 = .ok (.iconst 0, 1) := by decide +kernel
theorem dX12_instead_2 : decode cX12_instead 2 = .ok (.putfield 81, 3) := by decide +kernel
theorem dX12_instead_5 : decode cX12_instead 5 = .ok (.aload_n 0, 1) := by decide +kernel
theorem dX12_instead_6 : decode cX12_instead 6 = .ok (.iconst 0, 1) := by decide +kernel
theorem dX12_instead_7 : decode cX12_instead 7 = .ok (.putfield 84, 3) := by decide +kernel
theorem dX12_instead_10 : decode cX12_instead 10 = .ok (.aload_n 0, 1) := by decide +kernel
theorem dX12_instead_11 : decode cX12_instead 11 = .ok (.iload_n 1, 1) := by decide +kernel
theorem dX12_instead_12 : decode cX12_instead 12 = .ok (.invokevirtual 319, 3) := by decide +kernel
theorem dX12_instead_15 : decode cX12_instead 15 = .ok (.ifCond .ne 9, 3) := by decide +kernel
theorem dX12_instead_18 : decode cX12_instead 18 = .ok (.aload_n 0, 1) := by decide +kernel
theorem dX12_instead_19 : decode cX12_instead 19 = .ok (.iconst 2, 1) := by decide +kernel
theorem dX12_instead_20 : decode cX12_instead 20 = .ok (.invokevirtual 316, 3) := by decide +kernel
theorem dX12_instead_23 : decode cX12_instead 23 = .ok (.ireturn, 1) := by decide +kernel
theorem dX12_instead_24 : decode cX12_instead 24 = .ok (.aload_n 0, 1) := by decide +kernel
theorem dX12_instead_25 : decode cX12_instead 25 = .ok (.invokevirtual 415, 3) := by decide +kernel
theorem dX12_instead_28 : decode cX12_instead 28 = .ok (.aload_n 0, 1) := by decide +kernel
theorem dX12_instead_29 : decode cX12_instead 29 = .ok (.invokevirtual 351, 3) := by decide +kernel
theorem dX12_instead_32 : decode cX12_instead 32 = .ok (.aload_n 0, 1) := by decide +kernel
theorem dX12_instead_33 : decode cX12_instead 33 = .ok (.getfield 48, 3) := by decide +kernel
theorem dX12_instead_36 : decode cX12_instead 36 = .ok (.iload_n 1, 1) := by decide +kernel
theorem dX12_instead_37 : decode cX12_instead 37 = .ok (.iaload, 1) := by decide +kernel
theorem dX12_instead_38 : decode cX12_instead 38 = .ok (.aload_n 0, 1) := by decide +kernel
theorem dX12_instead_39 : decode cX12_instead 39 = .ok (.getfield 35, 3) := by decide +kernel
theorem dX12_instead_42 : decode cX12_instead 42 = .ok (.bipush 28, 2) := by decide +kernel
theorem dX12_instead_44 : decode cX12_instead 44 = .ok (.iload_n 1, 1) := by decide +kernel
theorem dX12_instead_45 : decode cX12_instead 45 = .ok (.iadd, 1) := by decide +kernel
theorem dX12_instead_46 : decode cX12_instead 46 = .ok (.iaload, 1) := by decide +kernel
theorem dX12_instead_47 : decode cX12_instead 47 = .ok (.if_icmp .ge 10, 3) := by decide +kernel
theorem dX12_instead_50 : decode cX12_instead 50 = .ok (.aload_n 0, 1) := by decide +kernel
theorem dX12_instead_51 : decode cX12_instead 51 = .ok (.bipush 9, 2) := by decide +kernel
theorem dX12_instead_53 : decode cX12_instead 53 = .ok (.invokevirtual 316, 3) := by decide +kernel
theorem dX12_instead_56 : decode cX12_instead 56 = .ok (.ireturn, 1) := by decide +kernel
theorem dX12_instead_57 : decode cX12_instead 57 = .ok (.aload_n 0, 1) := by decide +kernel
theorem dX12_instead_58 : decode cX12_instead 58 = .ok (.getfield 48, 3) := by decide +kernel
theorem dX12_instead_61 : decode cX12_instead 61 = .ok (.iload_n 1, 1) := by decide +kernel
theorem dX12_instead_62 : decode cX12_instead 62 = .ok (.aload_n 0, 1) := by decide +kernel
theorem dX12_instead_63 : decode cX12_instead 63 = .ok (.getfield 35, 3) := by decide +kernel
theorem dX12_instead_66 : decode cX12_instead 66 = .ok (.bipush 28, 2) := by decide +kernel
theorem dX12_instead_68 : decode cX12_instead 68 = .ok (.iload_n 1, 1) := by decide +kernel
theorem dX12_instead_69 : decode cX12_instead 69 = .ok (.iadd, 1) := by decide +kernel
theorem dX12_instead_70 : decode cX12_instead 70 = .ok (.iaload, 1) := by decide +kernel
theorem dX12_instead_71 : decode cX12_instead 71 = .ok (.iastore, 1) := by decide +kernel
theorem dX12_instead_72 : decode cX12_instead 72 = .ok (.aload_n 0, 1) := by decide +kernel
theorem dX12_instead_73 : decode cX12_instead 73 = .ok (.invokevirtual 375, 3) := by decide +kernel
theorem dX12_instead_76 : decode cX12_instead 76 = .ok (.ifCond .eq 10, 3) := by decide +kernel
theorem dX12_instead_79 : decode cX12_instead 79 = .ok (.aload_n 0, 1) := by decide +kernel
theorem dX12_instead_80 : decode cX12_instead 80 = .ok (.invokevirtual 403, 3) := by decide +kernel
theorem dX12_instead_83 : decode cX12_instead 83 = .ok (.goto 9, 3) := by decide +kernel
theorem dX12_instead_86 : decode cX12_instead 86 = .ok (.aload_n 0, 1) := by decide +kernel
theorem dX12_instead_87 : decode cX12_instead 87 = .ok (.bipush 9, 2) := by decide +kernel
theorem dX12_instead_89 : decode cX12_instead 89 = .ok (.invokevirtual 316, 3) := by decide +kernel
theorem dX12_instead_92 : decode cX12_instead 92 = .ok (.ireturn, 1) := by decide +kernel
theorem dX12_seenIn_0 : decode cX12_seenIn 0 = .ok (.iconst 0, 1) := by decide +kernel
theorem dX12_seenIn_1 : decode cX12_seenIn 1 = .ok (.istore 5, 2) := by decide +kernel
theorem dX12_seenIn_3 : decode cX12_seenIn 3 = .ok (.iconst 0, 1) := by decide +kernel
theorem dX12_seenIn_4 : decode cX12_seenIn 4 = .ok (.istore 6, 2) := by decide +kernel
theorem dX12_seenIn_6 : decode cX12_seenIn 6 = .ok (.iload 6, 2) := by decide +kernel
theorem dX12_seenIn_8 : decode cX12_seenIn 8 = .ok (.aload_n 0, 1) := by decide +kernel
theorem dX12_seenIn_9 : decode cX12_seenIn 9 = .ok (.invokevirtual 305, 3) := by decide +kernel
theorem dX12_seenIn_12 : decode cX12_seenIn 12 = .ok (.if_icmp .ge 38, 3) := by decide +kernel
theorem dX12_seenIn_15 : decode cX12_seenIn 15 = .ok (.aload_n 0, 1) := by decide +kernel
theorem dX12_seenIn_16 : decode cX12_seenIn 16 = .ok (.iload_n 3, 1) := by decide +kernel
theorem dX12_seenIn_17 : decode cX12_seenIn 17 = .ok (.iload 6, 2) := by decide +kernel
theorem dX12_seenIn_19 : decode cX12_seenIn 19 = .ok (.invokevirtual 327, 3) := by decide +kernel
theorem dX12_seenIn_22 : decode cX12_seenIn 22 = .ok (.iload 4, 2) := by decide +kernel
theorem dX12_seenIn_24 : decode cX12_seenIn 24 = .ok (.if_icmp .ne 20, 3) := by decide +kernel
theorem dX12_seenIn_27 : decode cX12_seenIn 27 = .ok (.iload 5, 2) := by decide +kernel
theorem dX12_seenIn_29 : decode cX12_seenIn 29 = .ok (.aload_n 0, 1) := by decide +kernel
theorem dX12_seenIn_30 : decode cX12_seenIn 30 = .ok (.iload_n 1, 1) := by decide +kernel
theorem dX12_seenIn_31 : decode cX12_seenIn 31 = .ok (.iload_n 2, 1) := by decide +kernel
theorem dX12_seenIn_32 : decode cX12_seenIn 32 = .ok (.iload 6, 2) := by decide +kernel
theorem dX12_seenIn_34 : decode cX12_seenIn 34 = .ok (.iadd, 1) := by decide +kernel
theorem dX12_seenIn_35 : decode cX12_seenIn 35 = .ok (.invokevirtual 332, 3) := by decide +kernel
theorem dX12_seenIn_38 : decode cX12_seenIn 38 = .ok (.l2i, 1) := by decide +kernel
theorem dX12_seenIn_39 : decode cX12_seenIn 39 = .ok (.invokestatic 342, 3) := by decide +kernel
theorem dX12_seenIn_42 : decode cX12_seenIn 42 = .ok (.istore 5, 2) := by decide +kernel
theorem dX12_seenIn_44 : decode cX12_seenIn 44 = .ok (.iinc 6 1, 3) := by decide +kernel
theorem dX12_seenIn_47 : decode cX12_seenIn 47 = .ok (.goto (-41), 3) := by decide +kernel
theorem dX12_seenIn_50 : decode cX12_seenIn 50 = .ok (.iload 5, 2) := by decide +kernel
theorem dX12_seenIn_52 : decode cX12_seenIn 52 = .ok (.ireturn, 1) := by decide +kernel
theorem dX12_apart_0 : decode cX12_apart 0 = .ok (.aload_n 0, 1) := by decide +kernel
theorem dX12_apart_1 : decode cX12_apart 1 = .ok (.iconst 0, 1) := by decide +kernel
theorem dX12_apart_2 : decode cX12_apart 2 = .ok (.putfield 81, 3) := by decide +kernel
theorem dX12_apart_5 : decode cX12_apart 5 = .ok (.aload_n 0, 1) := by decide +kernel
theorem dX12_apart_6 : decode cX12_apart 6 = .ok (.iconst 0, 1) := by decide +kernel
theorem dX12_apart_7 : decode cX12_apart 7 = .ok (.putfield 84, 3) := by decide +kernel
theorem dX12_apart_10 : decode cX12_apart 10 = .ok (.aload_n 0, 1) := by decide +kernel
theorem dX12_apart_11 : decode cX12_apart 11 = .ok (.iload_n 1, 1) := by decide +kernel
theorem dX12_apart_12 : decode cX12_apart 12 = .ok (.invokevirtual 336, 3) := by decide +kernel
theorem dX12_apart_15 : decode cX12_apart 15 = .ok (.ifCond .eq 11, 3) := by decide +kernel
theorem dX12_apart_18 : decode cX12_apart 18 = .ok (.aload_n 0, 1) := by decide +kernel
theorem dX12_apart_19 : decode cX12_apart 19 = .ok (.iload_n 2, 1) := by decide +kernel
theorem dX12_apart_20 : decode cX12_apart 20 = .ok (.invokevirtual 336, 3) := by decide +kernel
theorem dX12_apart_23 : decode cX12_apart 23 = .ok (.ifCond .ne 9, 3) := by decide +kernel
theorem dX12_apart_26 : decode cX12_apart 26 = .ok (.aload_n 0, 1) := by decide +kernel
theorem dX12_apart_27 : decode cX12_apart 27 = .ok (.iconst 1, 1) := by decide +kernel
theorem dX12_apart_28 : decode cX12_apart 28 = .ok (.invokevirtual 316, 3) := by decide +kernel
theorem dX12_apart_31 : decode cX12_apart 31 = .ok (.ireturn, 1) := by decide +kernel
theorem dX12_apart_32 : decode cX12_apart 32 = .ok (.aload_n 0, 1) := by decide +kernel
theorem dX12_apart_33 : decode cX12_apart 33 = .ok (.iload_n 3, 1) := by decide +kernel
theorem dX12_apart_34 : decode cX12_apart 34 = .ok (.invokevirtual 308, 3) := by decide +kernel
theorem dX12_apart_37 : decode cX12_apart 37 = .ok (.ifCond .ne 9, 3) := by decide +kernel
theorem dX12_apart_40 : decode cX12_apart 40 = .ok (.aload_n 0, 1) := by decide +kernel
theorem dX12_apart_41 : decode cX12_apart 41 = .ok (.iconst 2, 1) := by decide +kernel
theorem dX12_apart_42 : decode cX12_apart 42 = .ok (.invokevirtual 316, 3) := by decide +kernel
theorem dX12_apart_45 : decode cX12_apart 45 = .ok (.ireturn, 1) := by decide +kernel
theorem dX12_apart_46 : decode cX12_apart 46 = .ok (.aload_n 0, 1) := by decide +kernel
theorem dX12_apart_47 : decode cX12_apart 47 = .ok (.getfield 17, 3) := by decide +kernel
theorem dX12_apart_50 : decode cX12_apart 50 = .ok (.iload_n 1, 1) := by decide +kernel
theorem dX12_apart_51 : decode cX12_apart 51 = .ok (.iaload, 1) := by decide +kernel
theorem dX12_apart_52 : decode cX12_apart 52 = .ok (.ifCond .lt 12, 3) := by decide +kernel
theorem dX12_apart_55 : decode cX12_apart 55 = .ok (.aload_n 0, 1) := by decide +kernel
theorem dX12_apart_56 : decode cX12_apart 56 = .ok (.getfield 17, 3) := by decide +kernel
theorem dX12_apart_59 : decode cX12_apart 59 = .ok (.iload_n 2, 1) := by decide +kernel
theorem dX12_apart_60 : decode cX12_apart 60 = .ok (.iaload, 1) := by decide +kernel
theorem dX12_apart_61 : decode cX12_apart 61 = .ok (.ifCond .ge 9, 3) := by decide +kernel
theorem dX12_apart_64 : decode cX12_apart 64 = .ok (.aload_n 0, 1) := by decide +kernel
theorem dX12_apart_65 : decode cX12_apart 65 = .ok (.iconst 3, 1) := by decide +kernel
theorem dX12_apart_66 : decode cX12_apart 66 = .ok (.invokevirtual 316, 3) := by decide +kernel
theorem dX12_apart_69 : decode cX12_apart 69 = .ok (.ireturn, 1) := by decide +kernel
theorem dX12_apart_70 : decode cX12_apart 70 = .ok (.aload_n 0, 1) := by decide +kernel
theorem dX12_apart_71 : decode cX12_apart 71 = .ok (.iload_n 1, 1) := by decide +kernel
theorem dX12_apart_72 : decode cX12_apart 72 = .ok (.aload_n 0, 1) := by decide +kernel
theorem dX12_apart_73 : decode cX12_apart 73 = .ok (.invokevirtual 305, 3) := by decide +kernel
theorem dX12_apart_76 : decode cX12_apart 76 = .ok (.invokevirtual 339, 3) := by decide +kernel
theorem dX12_apart_79 : decode cX12_apart 79 = .ok (.istore 4, 2) := by decide +kernel
theorem dX12_apart_81 : decode cX12_apart 81 = .ok (.aload_n 0, 1) := by decide +kernel
theorem dX12_apart_82 : decode cX12_apart 82 = .ok (.iload_n 2, 1) := by decide +kernel
theorem dX12_apart_83 : decode cX12_apart 83 = .ok (.aload_n 0, 1) := by decide +kernel
theorem dX12_apart_84 : decode cX12_apart 84 = .ok (.invokevirtual 305, 3) := by decide +kernel
theorem dX12_apart_87 : decode cX12_apart 87 = .ok (.invokevirtual 339, 3) := by decide +kernel
theorem dX12_apart_90 : decode cX12_apart 90 = .ok (.istore 5, 2) := by decide +kernel
theorem dX12_apart_92 : decode cX12_apart 92 = .ok (.iload 4, 2) := by decide +kernel
theorem dX12_apart_94 : decode cX12_apart 94 = .ok (.iconst 4, 1) := by decide +kernel
theorem dX12_apart_95 : decode cX12_apart 95 = .ok (.if_icmp .eq 9, 3) := by decide +kernel
theorem dX12_apart_98 : decode cX12_apart 98 = .ok (.iload 5, 2) := by decide +kernel
theorem dX12_apart_100 : decode cX12_apart 100 = .ok (.iconst 4, 1) := by decide +kernel
theorem dX12_apart_101 : decode cX12_apart 101 = .ok (.if_icmp .ne 9, 3) := by decide +kernel
theorem dX12_apart_104 : decode cX12_apart 104 = .ok (.aload_n 0, 1) := by decide +kernel
theorem dX12_apart_105 : decode cX12_apart 105 = .ok (.iconst 4, 1) := by decide +kernel
theorem dX12_apart_106 : decode cX12_apart 106 = .ok (.invokevirtual 316, 3) := by decide +kernel
theorem dX12_apart_109 : decode cX12_apart 109 = .ok (.ireturn, 1) := by decide +kernel
theorem dX12_apart_110 : decode cX12_apart 110 = .ok (.iload 4, 2) := by decide +kernel
theorem dX12_apart_112 : decode cX12_apart 112 = .ok (.ifCond .gt 8, 3) := by decide +kernel
theorem dX12_apart_115 : decode cX12_apart 115 = .ok (.iload 5, 2) := by decide +kernel
theorem dX12_apart_117 : decode cX12_apart 117 = .ok (.ifCond .le 9, 3) := by decide +kernel
theorem dX12_apart_120 : decode cX12_apart 120 = .ok (.aload_n 0, 1) := by decide +kernel
theorem dX12_apart_121 : decode cX12_apart 121 = .ok (.iconst 5, 1) := by decide +kernel
theorem dX12_apart_122 : decode cX12_apart 122 = .ok (.invokevirtual 316, 3) := by decide +kernel
theorem dX12_apart_125 : decode cX12_apart 125 = .ok (.ireturn, 1) := by decide +kernel
theorem dX12_apart_126 : decode cX12_apart 126 = .ok (.iconst 0, 1) := by decide +kernel
theorem dX12_apart_127 : decode cX12_apart 127 = .ok (.istore 6, 2) := by decide +kernel
theorem dX12_apart_129 : decode cX12_apart 129 = .ok (.iload 6, 2) := by decide +kernel
theorem dX12_apart_131 : decode cX12_apart 131 = .ok (.aload_n 0, 1) := by decide +kernel
theorem dX12_apart_132 : decode cX12_apart 132 = .ok (.iload_n 3, 1) := by decide +kernel
theorem dX12_apart_133 : decode cX12_apart 133 = .ok (.invokevirtual 311, 3) := by decide +kernel
theorem dX12_apart_136 : decode cX12_apart 136 = .ok (.if_icmp .ge 49, 3) := by decide +kernel
theorem dX12_apart_139 : decode cX12_apart 139 = .ok (.aload_n 0, 1) := by decide +kernel
theorem dX12_apart_140 : decode cX12_apart 140 = .ok (.iload_n 1, 1) := by decide +kernel
theorem dX12_apart_141 : decode cX12_apart 141 = .ok (.iconst 0, 1) := by decide +kernel
theorem dX12_apart_142 : decode cX12_apart 142 = .ok (.aload_n 0, 1) := by decide +kernel
theorem dX12_apart_143 : decode cX12_apart 143 = .ok (.getfield 35, 3) := by decide +kernel
theorem dX12_apart_146 : decode cX12_apart 146 = .ok (.bipush 78, 2) := by decide +kernel
theorem dX12_apart_148 : decode cX12_apart 148 = .ok (.iload_n 3, 1) := by decide +kernel
theorem dX12_apart_149 : decode cX12_apart 149 = .ok (.iadd, 1) := by decide +kernel
theorem dX12_apart_150 : decode cX12_apart 150 = .ok (.iaload, 1) := by decide +kernel
theorem dX12_apart_151 : decode cX12_apart 151 = .ok (.iload 6, 2) := by decide +kernel
theorem dX12_apart_153 : decode cX12_apart 153 = .ok (.invokevirtual 418, 3) := by decide +kernel
theorem dX12_apart_156 : decode cX12_apart 156 = .ok (.aload_n 0, 1) := by decide +kernel
theorem dX12_apart_157 : decode cX12_apart 157 = .ok (.iload_n 2, 1) := by decide +kernel
theorem dX12_apart_158 : decode cX12_apart 158 = .ok (.iconst 0, 1) := by decide +kernel
theorem dX12_apart_159 : decode cX12_apart 159 = .ok (.aload_n 0, 1) := by decide +kernel
theorem dX12_apart_160 : decode cX12_apart 160 = .ok (.getfield 35, 3) := by decide +kernel
theorem dX12_apart_163 : decode cX12_apart 163 = .ok (.bipush 78, 2) := by decide +kernel
theorem dX12_apart_165 : decode cX12_apart 165 = .ok (.iload_n 3, 1) := by decide +kernel
theorem dX12_apart_166 : decode cX12_apart 166 = .ok (.iadd, 1) := by decide +kernel
theorem dX12_apart_167 : decode cX12_apart 167 = .ok (.iaload, 1) := by decide +kernel
theorem dX12_apart_168 : decode cX12_apart 168 = .ok (.iload 6, 2) := by decide +kernel
theorem dX12_apart_170 : decode cX12_apart 170 = .ok (.invokevirtual 418, 3) := by decide +kernel
theorem dX12_apart_173 : decode cX12_apart 173 = .ok (.if_icmp .eq 6, 3) := by decide +kernel
theorem dX12_apart_176 : decode cX12_apart 176 = .ok (.iload 6, 2) := by decide +kernel
theorem dX12_apart_178 : decode cX12_apart 178 = .ok (.ireturn, 1) := by decide +kernel
theorem dX12_apart_179 : decode cX12_apart 179 = .ok (.iinc 6 1, 3) := by decide +kernel
theorem dX12_apart_182 : decode cX12_apart 182 = .ok (.goto (-53), 3) := by decide +kernel
theorem dX12_apart_185 : decode cX12_apart 185 = .ok (.aload_n 0, 1) := by decide +kernel
theorem dX12_apart_186 : decode cX12_apart 186 = .ok (.bipush 8, 2) := by decide +kernel
theorem dX12_apart_188 : decode cX12_apart 188 = .ok (.invokevirtual 316, 3) := by decide +kernel
theorem dX12_apart_191 : decode cX12_apart 191 = .ok (.ireturn, 1) := by decide +kernel
theorem dX12_parts_0 : decode cX12_parts 0 = .ok (.iconst 0, 1) := by decide +kernel
theorem dX12_parts_1 : decode cX12_parts 1 = .ok (.istore 5, 2) := by decide +kernel
theorem dX12_parts_3 : decode cX12_parts 3 = .ok (.iload 5, 2) := by decide +kernel
theorem dX12_parts_5 : decode cX12_parts 5 = .ok (.aload_n 0, 1) := by decide +kernel
theorem dX12_parts_6 : decode cX12_parts 6 = .ok (.iload 4, 2) := by decide +kernel
theorem dX12_parts_8 : decode cX12_parts 8 = .ok (.invokevirtual 311, 3) := by decide +kernel
theorem dX12_parts_11 : decode cX12_parts 11 = .ok (.if_icmp .ge 60, 3) := by decide +kernel
theorem dX12_parts_14 : decode cX12_parts 14 = .ok (.aload_n 0, 1) := by decide +kernel
theorem dX12_parts_15 : decode cX12_parts 15 = .ok (.iload_n 1, 1) := by decide +kernel
theorem dX12_parts_16 : decode cX12_parts 16 = .ok (.iload_n 2, 1) := by decide +kernel
theorem dX12_parts_17 : decode cX12_parts 17 = .ok (.aload_n 0, 1) := by decide +kernel
theorem dX12_parts_18 : decode cX12_parts 18 = .ok (.invokevirtual 305, 3) := by decide +kernel
theorem dX12_parts_21 : decode cX12_parts 21 = .ok (.imul, 1) := by decide +kernel
theorem dX12_parts_22 : decode cX12_parts 22 = .ok (.aload_n 0, 1) := by decide +kernel
theorem dX12_parts_23 : decode cX12_parts 23 = .ok (.getfield 35, 3) := by decide +kernel
theorem dX12_parts_26 : decode cX12_parts 26 = .ok (.bipush 78, 2) := by decide +kernel
theorem dX12_parts_28 : decode cX12_parts 28 = .ok (.iload 4, 2) := by decide +kernel
theorem dX12_parts_30 : decode cX12_parts 30 = .ok (.iadd, 1) := by decide +kernel
theorem dX12_parts_31 : decode cX12_parts 31 = .ok (.iaload, 1) := by decide +kernel
theorem dX12_parts_32 : decode cX12_parts 32 = .ok (.iload 5, 2) := by decide +kernel
theorem dX12_parts_34 : decode cX12_parts 34 = .ok (.invokevirtual 418, 3) := by decide +kernel
theorem dX12_parts_37 : decode cX12_parts 37 = .ok (.aload_n 0, 1) := by decide +kernel
theorem dX12_parts_38 : decode cX12_parts 38 = .ok (.iload_n 1, 1) := by decide +kernel
theorem dX12_parts_39 : decode cX12_parts 39 = .ok (.iload_n 3, 1) := by decide +kernel
theorem dX12_parts_40 : decode cX12_parts 40 = .ok (.aload_n 0, 1) := by decide +kernel
theorem dX12_parts_41 : decode cX12_parts 41 = .ok (.invokevirtual 305, 3) := by decide +kernel
theorem dX12_parts_44 : decode cX12_parts 44 = .ok (.imul, 1) := by decide +kernel
theorem dX12_parts_45 : decode cX12_parts 45 = .ok (.aload_n 0, 1) := by decide +kernel
theorem dX12_parts_46 : decode cX12_parts 46 = .ok (.getfield 35, 3) := by decide +kernel
theorem dX12_parts_49 : decode cX12_parts 49 = .ok (.bipush 78, 2) := by decide +kernel
theorem dX12_parts_51 : decode cX12_parts 51 = .ok (.iload 4, 2) := by decide +kernel
theorem dX12_parts_53 : decode cX12_parts 53 = .ok (.iadd, 1) := by decide +kernel
theorem dX12_parts_54 : decode cX12_parts 54 = .ok (.iaload, 1) := by decide +kernel
theorem dX12_parts_55 : decode cX12_parts 55 = .ok (.iload 5, 2) := by decide +kernel
theorem dX12_parts_57 : decode cX12_parts 57 = .ok (.invokevirtual 418, 3) := by decide +kernel
theorem dX12_parts_60 : decode cX12_parts 60 = .ok (.if_icmp .eq 5, 3) := by decide +kernel
theorem dX12_parts_63 : decode cX12_parts 63 = .ok (.iconst 1, 1) := by decide +kernel
theorem dX12_parts_64 : decode cX12_parts 64 = .ok (.ireturn, 1) := by decide +kernel
theorem dX12_parts_65 : decode cX12_parts 65 = .ok (.iinc 5 1, 3) := by decide +kernel
theorem dX12_parts_68 : decode cX12_parts 68 = .ok (.goto (-65), 3) := by decide +kernel
theorem dX12_parts_71 : decode cX12_parts 71 = .ok (.iconst 0, 1) := by decide +kernel
theorem dX12_parts_72 : decode cX12_parts 72 = .ok (.ireturn, 1) := by decide +kernel
theorem dX12_watchAll_0 : decode cX12_watchAll 0 = .ok (.iconst 0, 1) := by decide +kernel
theorem dX12_watchAll_1 : decode cX12_watchAll 1 = .ok (.istore 4, 2) := by decide +kernel
theorem dX12_watchAll_3 : decode cX12_watchAll 3 = .ok (.iload 4, 2) := by decide +kernel
theorem dX12_watchAll_5 : decode cX12_watchAll 5 = .ok (.iload_n 2, 1) := by decide +kernel
theorem dX12_watchAll_6 : decode cX12_watchAll 6 = .ok (.if_icmp .ge 93, 3) := by decide +kernel
theorem dX12_watchAll_9 : decode cX12_watchAll 9 = .ok (.iload 4, 2) := by decide +kernel
theorem dX12_watchAll_11 : decode cX12_watchAll 11 = .ok (.iconst 1, 1) := by decide +kernel
theorem dX12_watchAll_12 : decode cX12_watchAll 12 = .ok (.iadd, 1) := by decide +kernel
theorem dX12_watchAll_13 : decode cX12_watchAll 13 = .ok (.istore 5, 2) := by decide +kernel
theorem dX12_watchAll_15 : decode cX12_watchAll 15 = .ok (.iload 5, 2) := by decide +kernel
theorem dX12_watchAll_17 : decode cX12_watchAll 17 = .ok (.iload_n 2, 1) := by decide +kernel
theorem dX12_watchAll_18 : decode cX12_watchAll 18 = .ok (.if_icmp .ge 75, 3) := by decide +kernel
theorem dX12_watchAll_21 : decode cX12_watchAll 21 = .ok (.iconst 0, 1) := by decide +kernel
theorem dX12_watchAll_22 : decode cX12_watchAll 22 = .ok (.istore 6, 2) := by decide +kernel
theorem dX12_watchAll_24 : decode cX12_watchAll 24 = .ok (.iconst 0, 1) := by decide +kernel
theorem dX12_watchAll_25 : decode cX12_watchAll 25 = .ok (.istore 7, 2) := by decide +kernel
theorem dX12_watchAll_27 : decode cX12_watchAll 27 = .ok (.iload 7, 2) := by decide +kernel
theorem dX12_watchAll_29 : decode cX12_watchAll 29 = .ok (.aload_n 0, 1) := by decide +kernel
theorem dX12_watchAll_30 : decode cX12_watchAll 30 = .ok (.getfield 35, 3) := by decide +kernel
theorem dX12_watchAll_33 : decode cX12_watchAll 33 = .ok (.iconst 2, 1) := by decide +kernel
theorem dX12_watchAll_34 : decode cX12_watchAll 34 = .ok (.iaload, 1) := by decide +kernel
theorem dX12_watchAll_35 : decode cX12_watchAll 35 = .ok (.if_icmp .ge 45, 3) := by decide +kernel
theorem dX12_watchAll_38 : decode cX12_watchAll 38 = .ok (.iload 6, 2) := by decide +kernel
theorem dX12_watchAll_40 : decode cX12_watchAll 40 = .ok (.ifCond .ne 27, 3) := by decide +kernel
theorem dX12_watchAll_43 : decode cX12_watchAll 43 = .ok (.aload_n 0, 1) := by decide +kernel
