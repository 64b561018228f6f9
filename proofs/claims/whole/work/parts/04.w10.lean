/-! WALKS 10: X8_reads X8_netOf X8_findNets X8_layAll X8_layToday X8_manOf X8_whoOf X8_answers X8_isAsk X8_owedOf X8_thereOf X8_isOpen X8_hiddenOf X8_tradeOf -/
theorem dX8_reads_0 : decode cX8_reads 0 = .ok (.aload_n 0, 1) := by decide +kernel
theorem dX8_reads_1 : decode cX8_reads 1 = .ok (.iconst 0, 1) := by decide +kernel
theorem dX8_reads_2 : decode cX8_reads 2 = .ok (.putfield 277, 3) := by decide +kernel
theorem dX8_reads_5 : decode cX8_reads 5 = .ok (.aload_n 0, 1) := by decide +kernel
theorem dX8_reads_6 : decode cX8_reads 6 = .ok (.iconst (-1), 1) := by decide +kernel
theorem dX8_reads_7 : decode cX8_reads 7 = .ok (.putfield 298, 3) := by decide +kernel
theorem dX8_reads_10 : decode cX8_reads 10 = .ok (.aload_n 0, 1) := by decide +kernel
theorem dX8_reads_11 : decode cX8_reads 11 = .ok (.iconst 0, 1) := by decide +kernel
theorem dX8_reads_12 : decode cX8_reads 12 = .ok (.putfield 289, 3) := by decide +kernel
theorem dX8_reads_15 : decode cX8_reads 15 = .ok (.aload_n 0, 1) := by decide +kernel
theorem dX8_reads_16 : decode cX8_reads 16 = .ok (.iconst 0, 1) := by decide +kernel
theorem dX8_reads_17 : decode cX8_reads 17 = .ok (.putfield 286, 3) := by decide +kernel
theorem dX8_reads_20 : decode cX8_reads 20 = .ok (.iconst 0, 1) := by decide +kernel
theorem dX8_reads_21 : decode cX8_reads 21 = .ok (.istore_n 1, 1) := by decide +kernel
theorem dX8_reads_22 : decode cX8_reads 22 = .ok (.iconst 1, 1) := by decide +kernel
theorem dX8_reads_23 : decode cX8_reads 23 = .ok (.istore_n 2, 1) := by decide +kernel
theorem dX8_reads_24 : decode cX8_reads 24 = .ok (.iconst 1, 1) := by decide +kernel
theorem dX8_reads_25 : decode cX8_reads 25 = .ok (.istore_n 3, 1) := by decide +kernel
theorem dX8_reads_26 : decode cX8_reads 26 = .ok (.iload_n 3, 1) := by decide +kernel
theorem dX8_reads_27 : decode cX8_reads 27 = .ok (.ifCond .eq 454, 3) := by decide +kernel
theorem dX8_reads_30 : decode cX8_reads 30 = .ok (.aload_n 0, 1) := by decide +kernel
theorem dX8_reads_31 : decode cX8_reads 31 = .ok (.getfield 298, 3) := by decide +kernel
theorem dX8_reads_34 : decode cX8_reads 34 = .ok (.iconst (-1), 1) := by decide +kernel
theorem dX8_reads_35 : decode cX8_reads 35 = .ok (.if_icmp .ne 446, 3) := by decide +kernel
theorem dX8_reads_38 : decode cX8_reads 38 = .ok (.aload_n 0, 1) := by decide +kernel
theorem dX8_reads_39 : decode cX8_reads 39 = .ok (.invokevirtual 303, 3) := by decide +kernel
theorem dX8_reads_42 : decode cX8_reads 42 = .ok (.istore 4, 2) := by decide +kernel
theorem dX8_reads_44 : decode cX8_reads 44 = .ok (.iload_n 2, 1) := by decide +kernel
theorem dX8_reads_45 : decode cX8_reads 45 = .ok (.ifCond .eq 202, 3) := by decide +kernel
theorem dX8_reads_48 : decode cX8_reads 48 = .ok (.iload 4, 2) := by decide +kernel
theorem dX8_reads_50 : decode cX8_reads 50 = .ok (.invokestatic 224, 3) := by decide +kernel
theorem dX8_reads_53 : decode cX8_reads 53 = .ok (.ifCond .eq 16, 3) := by decide +kernel
theorem dX8_reads_56 : decode cX8_reads 56 = .ok (.aload_n 0, 1) := by decide +kernel
theorem dX8_reads_57 : decode cX8_reads 57 = .ok (.aload_n 0, 1) := by decide +kernel
theorem dX8_reads_58 : decode cX8_reads 58 = .ok (.invokevirtual 306, 3) := by decide +kernel
theorem dX8_reads_61 : decode cX8_reads 61 = .ok (.invokevirtual 310, 3) := by decide +kernel
theorem dX8_reads_64 : decode cX8_reads 64 = .ok (.iconst 0, 1) := by decide +kernel
theorem dX8_reads_65 : decode cX8_reads 65 = .ok (.istore_n 2, 1) := by decide +kernel
theorem dX8_reads_66 : decode cX8_reads 66 = .ok (.goto 412, 3) := by decide +kernel
theorem dX8_reads_69 : decode cX8_reads 69 = .ok (.iload 4, 2) := by decide +kernel
theorem dX8_reads_71 : decode cX8_reads 71 = .ok (.invokestatic 314, 3) := by decide +kernel
theorem dX8_reads_74 : decode cX8_reads 74 = .ok (.iconst (-1), 1) := by decide +kernel
theorem dX8_reads_75 : decode cX8_reads 75 = .ok (.if_icmp .eq 32, 3) := by decide +kernel
theorem dX8_reads_78 : decode cX8_reads 78 = .ok (.aload_n 0, 1) := by decide +kernel
theorem dX8_reads_79 : decode cX8_reads 79 = .ok (.dup, 1) := by decide +kernel
theorem dX8_reads_80 : decode cX8_reads 80 = .ok (.getfield 277, 3) := by decide +kernel
theorem dX8_reads_83 : decode cX8_reads 83 = .ok (.iconst 1, 1) := by decide +kernel
theorem dX8_reads_84 : decode cX8_reads 84 = .ok (.iadd, 1) := by decide +kernel
theorem dX8_reads_85 : decode cX8_reads 85 = .ok (.putfield 277, 3) := by decide +kernel
theorem dX8_reads_88 : decode cX8_reads 88 = .ok (.aload_n 0, 1) := by decide +kernel
theorem dX8_reads_89 : decode cX8_reads 89 = .ok (.aload_n 0, 1) := by decide +kernel
theorem dX8_reads_90 : decode cX8_reads 90 = .ok (.getfield 83, 3) := by decide +kernel
theorem dX8_reads_93 : decode cX8_reads 93 = .ok (.iload 4, 2) := by decide +kernel
theorem dX8_reads_95 : decode cX8_reads 95 = .ok (.invokestatic 314, 3) := by decide +kernel
theorem dX8_reads_98 : decode cX8_reads 98 = .ok (.laload, 1) := by decide +kernel
theorem dX8_reads_99 : decode cX8_reads 99 = .ok (.invokevirtual 310, 3) := by decide +kernel
theorem dX8_reads_102 : decode cX8_reads 102 = .ok (.iconst 0, 1) := by decide +kernel
theorem dX8_reads_103 : decode cX8_reads 103 = .ok (.istore_n 2, 1) := by decide +kernel
theorem dX8_reads_104 : decode cX8_reads 104 = .ok (.goto 374, 3) := by decide +kernel
theorem dX8_reads_107 : decode cX8_reads 107 = .ok (.iload 4, 2) := by decide +kernel
theorem dX8_reads_109 : decode cX8_reads 109 = .ok (.bipush 33, 2) := by decide +kernel
theorem dX8_reads_111 : decode cX8_reads 111 = .ok (.if_icmp .eq 10, 3) := by decide +kernel
theorem dX8_reads_114 : decode cX8_reads 114 = .ok (.iload 4, 2) := by decide +kernel
theorem dX8_reads_116 : decode cX8_reads 116 = .ok (.bipush 45, 2) := by decide +kernel
theorem dX8_reads_118 : decode cX8_reads 118 = .ok (.if_icmp .ne 51, 3) := by decide +kernel
theorem dX8_reads_121 : decode cX8_reads 121 = .ok (.aload_n 0, 1) := by decide +kernel
theorem dX8_reads_122 : decode cX8_reads 122 = .ok (.dup, 1) := by decide +kernel
theorem dX8_reads_123 : decode cX8_reads 123 = .ok (.getfield 277, 3) := by decide +kernel
theorem dX8_reads_126 : decode cX8_reads 126 = .ok (.iconst 1, 1) := by decide +kernel
theorem dX8_reads_127 : decode cX8_reads 127 = .ok (.iadd, 1) := by decide +kernel
theorem dX8_reads_128 : decode cX8_reads 128 = .ok (.putfield 277, 3) := by decide +kernel
theorem dX8_reads_131 : decode cX8_reads 131 = .ok (.aload_n 0, 1) := by decide +kernel
theorem dX8_reads_132 : decode cX8_reads 132 = .ok (.getfield 80, 3) := by decide +kernel
theorem dX8_reads_135 : decode cX8_reads 135 = .ok (.aload_n 0, 1) := by decide +kernel
theorem dX8_reads_136 : decode cX8_reads 136 = .ok (.getfield 286, 3) := by decide +kernel
theorem dX8_reads_139 : decode cX8_reads 139 = .ok (.iload 4, 2) := by decide +kernel
theorem dX8_reads_141 : decode cX8_reads 141 = .ok (.bipush 33, 2) := by decide +kernel
theorem dX8_reads_143 : decode cX8_reads 143 = .ok (.if_icmp .ne 9, 3) := by decide +kernel
theorem dX8_reads_146 : decode cX8_reads 146 = .ok (.sipush 1001, 3) := by decide +kernel
theorem dX8_reads_149 : decode cX8_reads 149 = .ok (.goto 6, 3) := by decide +kernel
theorem dX8_reads_152 : decode cX8_reads 152 = .ok (.sipush 1002, 3) := by decide +kernel
theorem dX8_reads_155 : decode cX8_reads 155 = .ok (.iastore, 1) := by decide +kernel
theorem dX8_reads_156 : decode cX8_reads 156 = .ok (.aload_n 0, 1) := by decide +kernel
theorem dX8_reads_157 : decode cX8_reads 157 = .ok (.dup, 1) := by decide +kernel
theorem dX8_reads_158 : decode cX8_reads 158 = .ok (.getfield 286, 3) := by decide +kernel
theorem dX8_reads_161 : decode cX8_reads 161 = .ok (.iconst 1, 1) := by decide +kernel
theorem dX8_reads_162 : decode cX8_reads 162 = .ok (.iadd, 1) := by decide +kernel
theorem dX8_reads_163 : decode cX8_reads 163 = .ok (.putfield 286, 3) := by decide +kernel
theorem dX8_reads_166 : decode cX8_reads 166 = .ok (.goto 312, 3) := by decide +kernel
theorem dX8_reads_169 : decode cX8_reads 169 = .ok (.iload 4, 2) := by decide +kernel
theorem dX8_reads_171 : decode cX8_reads 171 = .ok (.bipush 40, 2) := by decide +kernel
theorem dX8_reads_173 : decode cX8_reads 173 = .ok (.if_icmp .ne 47, 3) := by decide +kernel
theorem dX8_reads_176 : decode cX8_reads 176 = .ok (.iload_n 1, 1) := by decide +kernel
theorem dX8_reads_177 : decode cX8_reads 177 = .ok (.bipush 8, 2) := by decide +kernel
theorem dX8_reads_179 : decode cX8_reads 179 = .ok (.if_icmp .ge 41, 3) := by decide +kernel
theorem dX8_reads_182 : decode cX8_reads 182 = .ok (.aload_n 0, 1) := by decide +kernel
theorem dX8_reads_183 : decode cX8_reads 183 = .ok (.dup, 1) := by decide +kernel
theorem dX8_reads_184 : decode cX8_reads 184 = .ok (.getfield 277, 3) := by decide +kernel
theorem dX8_reads_187 : decode cX8_reads 187 = .ok (.iconst 1, 1) := by decide +kernel
theorem dX8_reads_188 : decode cX8_reads 188 = .ok (.iadd, 1) := by decide +kernel
theorem dX8_reads_189 : decode cX8_reads 189 = .ok (.putfield 277, 3) := by decide +kernel
theorem dX8_reads_192 : decode cX8_reads 192 = .ok (.iinc 1 1, 3) := by decide +kernel
theorem dX8_reads_195 : decode cX8_reads 195 = .ok (.aload_n 0, 1) := by decide +kernel
theorem dX8_reads_196 : decode cX8_reads 196 = .ok (.getfield 80, 3) := by decide +kernel
theorem dX8_reads_199 : decode cX8_reads 199 = .ok (.aload_n 0, 1) := by decide +kernel
theorem dX8_reads_200 : decode cX8_reads 200 = .ok (.getfield 286, 3) := by decide +kernel
theorem dX8_reads_203 : decode cX8_reads 203 = .ok (.sipush 1000, 3) := by decide +kernel
theorem dX8_reads_206 : decode cX8_reads 206 = .ok (.iastore, 1) := by decide +kernel
theorem dX8_reads_207 : decode cX8_reads 207 = .ok (.aload_n 0, 1) := by decide +kernel
theorem dX8_reads_208 : decode cX8_reads 208 = .ok (.dup, 1) := by decide +kernel
theorem dX8_reads_209 : decode cX8_reads 209 = .ok (.getfield 286, 3) := by decide +kernel
theorem dX8_reads_212 : decode cX8_reads 212 = .ok (.iconst 1, 1) := by decide +kernel
theorem dX8_reads_213 : decode cX8_reads 213 = .ok (.iadd, 1) := by decide +kernel
theorem dX8_reads_214 : decode cX8_reads 214 = .ok (.putfield 286, 3) := by decide +kernel
theorem dX8_reads_217 : decode cX8_reads 217 = .ok (.goto 261, 3) := by decide +kernel
theorem dX8_reads_220 : decode cX8_reads 220 = .ok (.aload_n 0, 1) := by decide +kernel
theorem dX8_reads_221 : decode cX8_reads 221 = .ok (.bipush 10, 2) := by decide +kernel
theorem dX8_reads_223 : decode cX8_reads 223 = .ok (.aload_n 0, 1) := by decide +kernel
theorem dX8_reads_224 : decode cX8_reads 224 = .ok (.getfield 277, 3) := by decide +kernel
theorem dX8_reads_227 : decode cX8_reads 227 = .ok (.imul, 1) := by decide +kernel
theorem dX8_reads_228 : decode cX8_reads 228 = .ok (.iload 4, 2) := by decide +kernel
theorem dX8_reads_230 : decode cX8_reads 230 = .ok (.bipush 40, 2) := by decide +kernel
theorem dX8_reads_232 : decode cX8_reads 232 = .ok (.if_icmp .ne 7, 3) := by decide +kernel
theorem dX8_reads_235 : decode cX8_reads 235 = .ok (.iconst 3, 1) := by decide +kernel
theorem dX8_reads_236 : decode cX8_reads 236 = .ok (.goto 4, 3) := by decide +kernel
theorem dX8_reads_239 : decode cX8_reads 239 = .ok (.iconst 1, 1) := by decide +kernel
theorem dX8_reads_240 : decode cX8_reads 240 = .ok (.iadd, 1) := by decide +kernel
theorem dX8_reads_241 : decode cX8_reads 241 = .ok (.putfield 298, 3) := by decide +kernel
theorem dX8_reads_244 : decode cX8_reads 244 = .ok (.goto 234, 3) := by decide +kernel
theorem dX8_reads_247 : decode cX8_reads 247 = .ok (.iload 4, 2) := by decide +kernel
theorem dX8_reads_249 : decode cX8_reads 249 = .ok (.bipush 41, 2) := by decide +kernel
theorem dX8_reads_251 : decode cX8_reads 251 = .ok (.if_icmp .ne 61, 3) := by decide +kernel
theorem dX8_reads_254 : decode cX8_reads 254 = .ok (.iload_n 1, 1) := by decide +kernel
theorem dX8_reads_255 : decode cX8_reads 255 = .ok (.ifCond .le 57, 3) := by decide +kernel
theorem dX8_reads_258 : decode cX8_reads 258 = .ok (.aload_n 0, 1) := by decide +kernel
theorem dX8_reads_259 : decode cX8_reads 259 = .ok (.dup, 1) := by decide +kernel
theorem dX8_reads_260 : decode cX8_reads 260 = .ok (.getfield 277, 3) := by decide +kernel
theorem dX8_reads_263 : decode cX8_reads 263 = .ok (.iconst 1, 1) := by decide +kernel
theorem dX8_reads_264 : decode cX8_reads 264 = .ok (.iadd, 1) := by decide +kernel
theorem dX8_reads_265 : decode cX8_reads 265 = .ok (.putfield 277, 3) := by decide +kernel
theorem dX8_reads_268 : decode cX8_reads 268 = .ok (.iinc 1 (-1), 3) := by decide +kernel
theorem dX8_reads_271 : decode cX8_reads 271 = .ok (.aload_n 0, 1) := by decide +kernel
theorem dX8_reads_272 : decode cX8_reads 272 = .ok (.iconst 1, 1) := by decide +kernel
theorem dX8_reads_273 : decode cX8_reads 273 = .ok (.invokevirtual 317, 3) := by decide +kernel
theorem dX8_reads_276 : decode cX8_reads 276 = .ok (.aload_n 0, 1) := by decide +kernel
theorem dX8_reads_277 : decode cX8_reads 277 = .ok (.dup, 1) := by decide +kernel
theorem dX8_reads_278 : decode cX8_reads 278 = .ok (.getfield 286, 3) := by decide +kernel
theorem dX8_reads_281 : decode cX8_reads 281 = .ok (.iconst 1, 1) := by decide +kernel
theorem dX8_reads_282 : decode cX8_reads 282 = .ok (.isub, 1) := by decide +kernel
theorem dX8_reads_283 : decode cX8_reads 283 = .ok (.putfield 286, 3) := by decide +kernel
theorem dX8_reads_286 : decode cX8_reads 286 = .ok (.aload_n 0, 1) := by decide +kernel
theorem dX8_reads_287 : decode cX8_reads 287 = .ok (.dup, 1) := by decide +kernel
theorem dX8_reads_288 : decode cX8_reads 288 = .ok (.getfield 289, 3) := by decide +kernel
theorem dX8_reads_291 : decode cX8_reads 291 = .ok (.iconst 1, 1) := by decide +kernel
theorem dX8_reads_292 : decode cX8_reads 292 = .ok (.isub, 1) := by decide +kernel
theorem dX8_reads_293 : decode cX8_reads 293 = .ok (.putfield 289, 3) := by decide +kernel
theorem dX8_reads_296 : decode cX8_reads 296 = .ok (.aload_n 0, 1) := by decide +kernel
theorem dX8_reads_297 : decode cX8_reads 297 = .ok (.aload_n 0, 1) := by decide +kernel
theorem dX8_reads_298 : decode cX8_reads 298 = .ok (.getfield 76, 3) := by decide +kernel
theorem dX8_reads_301 : decode cX8_reads 301 = .ok (.aload_n 0, 1) := by decide +kernel
theorem dX8_reads_302 : decode cX8_reads 302 = .ok (.getfield 289, 3) := by decide +kernel
theorem dX8_reads_305 : decode cX8_reads 305 = .ok (.laload, 1) := by decide +kernel
theorem dX8_reads_306 : decode cX8_reads 306 = .ok (.invokevirtual 310, 3) := by decide +kernel
theorem dX8_reads_309 : decode cX8_reads 309 = .ok (.goto 169, 3) := by decide +kernel
theorem dX8_reads_312 : decode cX8_reads 312 = .ok (.iload 4, 2) := by decide +kernel
theorem dX8_reads_314 : decode cX8_reads 314 = .ok (.invokestatic 292, 3) := by decide +kernel
theorem dX8_reads_317 : decode cX8_reads 317 = .ok (.ifCond .le 128, 3) := by decide +kernel
theorem dX8_reads_320 : decode cX8_reads 320 = .ok (.aload_n 0, 1) := by decide +kernel
theorem dX8_reads_321 : decode cX8_reads 321 = .ok (.iload 4, 2) := by decide +kernel
theorem dX8_reads_323 : decode cX8_reads 323 = .ok (.invokestatic 292, 3) := by decide +kernel
theorem dX8_reads_326 : decode cX8_reads 326 = .ok (.iconst 3, 1) := by decide +kernel
theorem dX8_reads_327 : decode cX8_reads 327 = .ok (.if_icmp .ne 7, 3) := by decide +kernel
theorem dX8_reads_330 : decode cX8_reads 330 = .ok (.iconst 4, 1) := by decide +kernel
theorem dX8_reads_331 : decode cX8_reads 331 = .ok (.goto 8, 3) := by decide +kernel
theorem dX8_reads_334 : decode cX8_reads 334 = .ok (.iload 4, 2) := by decide +kernel
theorem dX8_reads_336 : decode cX8_reads 336 = .ok (.invokestatic 292, 3) := by decide +kernel
theorem dX8_reads_339 : decode cX8_reads 339 = .ok (.invokevirtual 317, 3) := by decide +kernel
theorem dX8_reads_342 : decode cX8_reads 342 = .ok (.iload 4, 2) := by decide +kernel
theorem dX8_reads_344 : decode cX8_reads 344 = .ok (.invokestatic 292, 3) := by decide +kernel
theorem dX8_reads_347 : decode cX8_reads 347 = .ok (.iconst 3, 1) := by decide +kernel
theorem dX8_reads_348 : decode cX8_reads 348 = .ok (.if_icmp .ne 61, 3) := by decide +kernel
theorem dX8_reads_351 : decode cX8_reads 351 = .ok (.aload_n 0, 1) := by decide +kernel
theorem dX8_reads_352 : decode cX8_reads 352 = .ok (.getfield 286, 3) := by decide +kernel
theorem dX8_reads_355 : decode cX8_reads 355 = .ok (.ifCond .le 54, 3) := by decide +kernel
theorem dX8_reads_358 : decode cX8_reads 358 = .ok (.aload_n 0, 1) := by decide +kernel
theorem dX8_reads_359 : decode cX8_reads 359 = .ok (.getfield 80, 3) := by decide +kernel
theorem dX8_reads_362 : decode cX8_reads 362 = .ok (.aload_n 0, 1) := by decide +kernel
theorem dX8_reads_363 : decode cX8_reads 363 = .ok (.getfield 286, 3) := by decide +kernel
theorem dX8_reads_366 : decode cX8_reads 366 = .ok (.iconst 1, 1) := by decide +kernel
theorem dX8_reads_367 : decode cX8_reads 367 = .ok (.isub, 1) := by decide +kernel
theorem dX8_reads_368 : decode cX8_reads 368 = .ok (.iaload, 1) := by decide +kernel
theorem dX8_reads_369 : decode cX8_reads 369 = .ok (.sipush 1000, 3) := by decide +kernel
theorem dX8_reads_372 : decode cX8_reads 372 = .ok (.if_icmp .ge 37, 3) := by decide +kernel
theorem dX8_reads_375 : decode cX8_reads 375 = .ok (.aload_n 0, 1) := by decide +kernel
theorem dX8_reads_376 : decode cX8_reads 376 = .ok (.getfield 80, 3) := by decide +kernel
theorem dX8_reads_379 : decode cX8_reads 379 = .ok (.aload_n 0, 1) := by decide +kernel
theorem dX8_reads_380 : decode cX8_reads 380 = .ok (.getfield 286, 3) := by decide +kernel
theorem dX8_reads_383 : decode cX8_reads 383 = .ok (.iconst 1, 1) := by decide +kernel
theorem dX8_reads_384 : decode cX8_reads 384 = .ok (.isub, 1) := by decide +kernel
theorem dX8_reads_385 : decode cX8_reads 385 = .ok (.iaload, 1) := by decide +kernel
theorem dX8_reads_386 : decode cX8_reads 386 = .ok (.invokestatic 292, 3) := by decide +kernel
theorem dX8_reads_389 : decode cX8_reads 389 = .ok (.iconst 3, 1) := by decide +kernel
theorem dX8_reads_390 : decode cX8_reads 390 = .ok (.if_icmp .ne 19, 3) := by decide +kernel
theorem dX8_reads_393 : decode cX8_reads 393 = .ok (.aload_n 0, 1) := by decide +kernel
theorem dX8_reads_394 : decode cX8_reads 394 = .ok (.bipush 10, 2) := by decide +kernel
theorem dX8_reads_396 : decode cX8_reads 396 = .ok (.aload_n 0, 1) := by decide +kernel
theorem dX8_reads_397 : decode cX8_reads 397 = .ok (.getfield 277, 3) := by decide +kernel
theorem dX8_reads_400 : decode cX8_reads 400 = .ok (.imul, 1) := by decide +kernel
theorem dX8_reads_401 : decode cX8_reads 401 = .ok (.iconst 1, 1) := by decide +kernel
theorem dX8_reads_402 : decode cX8_reads 402 = .ok (.iadd, 1) := by decide +kernel
theorem dX8_reads_403 : decode cX8_reads 403 = .ok (.putfield 298, 3) := by decide +kernel
theorem dX8_reads_406 : decode cX8_reads 406 = .ok (.goto 72, 3) := by decide +kernel
theorem dX8_reads_409 : decode cX8_reads 409 = .ok (.aload_n 0, 1) := by decide +kernel
theorem dX8_reads_410 : decode cX8_reads 410 = .ok (.dup, 1) := by decide +kernel
theorem dX8_reads_411 : decode cX8_reads 411 = .ok (.getfield 277, 3) := by decide +kernel
theorem dX8_reads_414 : decode cX8_reads 414 = .ok (.iconst 1, 1) := by decide +kernel
theorem dX8_reads_415 : decode cX8_reads 415 = .ok (.iadd, 1) := by decide +kernel
theorem dX8_reads_416 : decode cX8_reads 416 = .ok (.putfield 277, 3) := by decide +kernel
theorem dX8_reads_419 : decode cX8_reads 419 = .ok (.aload_n 0, 1) := by decide +kernel
theorem dX8_reads_420 : decode cX8_reads 420 = .ok (.getfield 80, 3) := by decide +kernel
theorem dX8_reads_423 : decode cX8_reads 423 = .ok (.aload_n 0, 1) := by decide +kernel
theorem dX8_reads_424 : decode cX8_reads 424 = .ok (.getfield 286, 3) := by decide +kernel
theorem dX8_reads_427 : decode cX8_reads 427 = .ok (.iload 4, 2) := by decide +kernel
theorem dX8_reads_429 : decode cX8_reads 429 = .ok (.iastore, 1) := by decide +kernel
theorem dX8_reads_430 : decode cX8_reads 430 = .ok (.aload_n 0, 1) := by decide +kernel
theorem dX8_reads_431 : decode cX8_reads 431 = .ok (.dup, 1) := by decide +kernel
theorem dX8_reads_432 : decode cX8_reads 432 = .ok (.getfield 286, 3) := by decide +kernel
theorem dX8_reads_435 : decode cX8_reads 435 = .ok (.iconst 1, 1) := by decide +kernel
theorem dX8_reads_436 : decode cX8_reads 436 = .ok (.iadd, 1) := by decide +kernel
theorem dX8_reads_437 : decode cX8_reads 437 = .ok (.putfield 286, 3) := by decide +kernel
theorem dX8_reads_440 : decode cX8_reads 440 = .ok (.iconst 1, 1) := by decide +kernel
theorem dX8_reads_441 : decode cX8_reads 441 = .ok (.istore_n 2, 1) := by decide +kernel
theorem dX8_reads_442 : decode cX8_reads 442 = .ok (.goto 36, 3) := by decide +kernel
theorem dX8_reads_445 : decode cX8_reads 445 = .ok (.iload 4, 2) := by decide +kernel
theorem dX8_reads_447 : decode cX8_reads 447 = .ok (.iconst (-1), 1) := by decide +kernel
theorem dX8_reads_448 : decode cX8_reads 448 = .ok (.if_icmp .ne 17, 3) := by decide +kernel
theorem dX8_reads_451 : decode cX8_reads 451 = .ok (.iload_n 1, 1) := by decide +kernel
theorem dX8_reads_452 : decode cX8_reads 452 = .ok (.ifCond .ne 13, 3) := by decide +kernel
theorem dX8_reads_455 : decode cX8_reads 455 = .ok (.aload_n 0, 1) := by decide +kernel
theorem dX8_reads_456 : decode cX8_reads 456 = .ok (.iconst 1, 1) := by decide +kernel
theorem dX8_reads_457 : decode cX8_reads 457 = .ok (.invokevirtual 317, 3) := by decide +kernel
theorem dX8_reads_460 : decode cX8_reads 460 = .ok (.iconst 0, 1) := by decide +kernel
theorem dX8_reads_461 : decode cX8_reads 461 = .ok (.istore_n 3, 1) := by decide +kernel
theorem dX8_reads_462 : decode cX8_reads 462 = .ok (.goto 16, 3) := by decide +kernel
theorem dX8_reads_465 : decode cX8_reads 465 = .ok (.aload_n 0, 1) := by decide +kernel
theorem dX8_reads_466 : decode cX8_reads 466 = .ok (.bipush 10, 2) := by decide +kernel
theorem dX8_reads_468 : decode cX8_reads 468 = .ok (.aload_n 0, 1) := by decide +kernel
theorem dX8_reads_469 : decode cX8_reads 469 = .ok (.getfield 277, 3) := by decide +kernel
theorem dX8_reads_472 : decode cX8_reads 472 = .ok (.imul, 1) := by decide +kernel
theorem dX8_reads_473 : decode cX8_reads 473 = .ok (.iconst 1, 1) := by decide +kernel
theorem dX8_reads_474 : decode cX8_reads 474 = .ok (.iadd, 1) := by decide +kernel
theorem dX8_reads_475 : decode cX8_reads 475 = .ok (.putfield 298, 3) := by decide +kernel
theorem dX8_reads_478 : decode cX8_reads 478 = .ok (.goto (-452), 3) := by decide +kernel
theorem dX8_reads_481 : decode cX8_reads 481 = .ok (.aload_n 0, 1) := by decide +kernel
theorem dX8_reads_482 : decode cX8_reads 482 = .ok (.aload_n 0, 1) := by decide +kernel
theorem dX8_reads_483 : decode cX8_reads 483 = .ok (.getfield 298, 3) := by decide +kernel
theorem dX8_reads_486 : decode cX8_reads 486 = .ok (.iconst (-1), 1) := by decide +kernel
theorem dX8_reads_487 : decode cX8_reads 487 = .ok (.if_icmp .ne 12, 3) := by decide +kernel
theorem dX8_reads_490 : decode cX8_reads 490 = .ok (.aload_n 0, 1) := by decide +kernel
theorem dX8_reads_491 : decode cX8_reads 491 = .ok (.getfield 76, 3) := by decide +kernel
theorem dX8_reads_494 : decode cX8_reads 494 = .ok (.iconst 0, 1) := by decide +kernel
theorem dX8_reads_495 : decode cX8_reads 495 = .ok (.laload, 1) := by decide +kernel
theorem dX8_reads_496 : decode cX8_reads 496 = .ok (.goto 4, 3) := by decide +kernel
theorem dX8_reads_499 : decode cX8_reads 499 = .ok (.lconst 0, 1) := by decide +kernel
theorem dX8_reads_500 : decode cX8_reads 500 = .ok (.putfield 320, 3) := by decide +kernel
theorem dX8_reads_503 : decode cX8_reads 503 = .ok (.aload_n 0, 1) := by decide +kernel
theorem dX8_reads_504 : decode cX8_reads 504 = .ok (.getfield 298, 3) := by decide +kernel
theorem dX8_reads_507 : decode cX8_reads 507 = .ok (.iconst (-1), 1) := by decide +kernel
theorem dX8_reads_508 : decode cX8_reads 508 = .ok (.if_icmp .ne 7, 3) := by decide +kernel
theorem dX8_reads_511 : decode cX8_reads 511 = .ok (.iconst 1, 1) := by decide +kernel
theorem dX8_reads_512 : decode cX8_reads 512 = .ok (.goto 4, 3) := by decide +kernel
theorem dX8_reads_515 : decode cX8_reads 515 = .ok (.iconst 0, 1) := by decide +kernel
theorem dX8_reads_516 : decode cX8_reads 516 = .ok (.ireturn, 1) := by decide +kernel
def f_X8_reads_b500 (n : Nat) (s1 : Int64) (M : m_M) : Option (Int32 × m_M) :=
  m_bd (m_sL M 172 44 s1) fun M1 =>
  if (M1.1 172 38) = (-1) then
  some (1, M1)
  else
  some (0, M1)
def f_X8_reads_b481 (n : Nat) (M : m_M) : Option (Int32 × m_M) :=
  if (M.1 172 38) = (-1) then
  f_X8_reads_b500 n (M.2 192 0) M
  else
  f_X8_reads_b500 n 0 M
def f_X8_reads_b465 (n : Nat) (q26 : Int32 → Int32 → Int32 → m_M → Option (Int32 × m_M)) (x1 : Int32) (x2 : Int32) (x3 : Int32) (M : m_M) : Option (Int32 × m_M) :=
  m_bd (m_sI M 172 38 (((10 : Int32) * (M.1 172 37)) + (1 : Int32))) fun M4 =>
  q26 x1 x2 x3 M4
def f_X8_reads_b409 (n : Nat) (q26 : Int32 → Int32 → Int32 → m_M → Option (Int32 × m_M)) (x1 : Int32) (x3 : Int32) (x4 : Int32) (M : m_M) : Option (Int32 × m_M) :=
  m_bd (m_sI M 172 37 ((M.1 172 37) + (1 : Int32))) fun M5 =>
  m_gd (m_in (M5.1 172 42) 128) (
  m_bd (m_sI M5 193 ((M5.1 172 42).toNatClampNeg) x4) fun M7 =>
  m_bd (m_sI M7 172 42 ((M7.1 172 42) + (1 : Int32))) fun M8 =>
  q26 x1 1 x3 M8)
def f_X8_reads_b339 (n : Nat) (q26 : Int32 → Int32 → Int32 → m_M → Option (Int32 × m_M)) (x1 : Int32) (x2 : Int32) (x3 : Int32) (x4 : Int32) (s1 : Int32) (M : m_M) : Option (Int32 × m_M) :=
  m_ob (f_X8_workDown n s1 M) fun M9 =>
  m_bd (f_X8_rank x4) fun r10 =>
  if r10 = 3 then
  if (M9.1 172 42) ≤ 0 then
  f_X8_reads_b409 n q26 x1 x3 x4 M9
  else
  m_gd (m_in ((M9.1 172 42) - (1 : Int32)) 128) (
  if (1000 : Int32) ≤ (M9.1 193 (((M9.1 172 42) - (1 : Int32)).toNatClampNeg)) then
  f_X8_reads_b409 n q26 x1 x3 x4 M9
  else
  m_bd (f_X8_rank (M9.1 193 (((M9.1 172 42) - (1 : Int32)).toNatClampNeg))) fun r15 =>
  if r15 = 3 then
  m_bd (m_sI M9 172 38 (((10 : Int32) * (M9.1 172 37)) + (1 : Int32))) fun M17 =>
  q26 x1 x2 x3 M17
  else
  f_X8_reads_b409 n q26 x1 x3 x4 M9)
  else
  f_X8_reads_b409 n q26 x1 x3 x4 M9
def f_X8_reads_b312 (n : Nat) (q26 : Int32 → Int32 → Int32 → m_M → Option (Int32 × m_M)) (x1 : Int32) (x2 : Int32) (x3 : Int32) (x4 : Int32) (M : m_M) : Option (Int32 × m_M) :=
  m_bd (f_X8_rank x4) fun r18 =>
  if r18 ≤ 0 then
  if x4 = (-1) then
  if x1 = 0 then
  m_ob (f_X8_workDown n 1 M) fun M22 =>
  q26 x1 x2 0 M22
  else
  f_X8_reads_b465 n q26 x1 x2 x3 M
  else
  f_X8_reads_b465 n q26 x1 x2 x3 M
  else
  m_bd (f_X8_rank x4) fun r23 =>
  if r23 = 3 then
  f_X8_reads_b339 n q26 x1 x2 x3 x4 4 M
  else
  m_bd (f_X8_rank x4) fun r25 =>
  f_X8_reads_b339 n q26 x1 x2 x3 x4 r25 M
def f_X8_reads_b155 (n : Nat) (q26 : Int32 → Int32 → Int32 → m_M → Option (Int32 × m_M)) (x1 : Int32) (x2 : Int32) (x3 : Int32) (s1 : Int32) (s2 : Int32) (M : m_M) : Option (Int32 × m_M) :=
  m_gd (m_in s1 128) (
  m_bd (m_sI M 193 s1.toNatClampNeg s2) fun M27 =>
  m_bd (m_sI M27 172 42 ((M27.1 172 42) + (1 : Int32))) fun M28 =>
  q26 x1 x2 x3 M28)
def f_X8_reads_b121 (n : Nat) (q26 : Int32 → Int32 → Int32 → m_M → Option (Int32 × m_M)) (x1 : Int32) (x2 : Int32) (x3 : Int32) (x4 : Int32) (M : m_M) : Option (Int32 × m_M) :=
  m_bd (m_sI M 172 37 ((M.1 172 37) + (1 : Int32))) fun M29 =>
  if x4 = 33 then
  f_X8_reads_b155 n q26 x1 x2 x3 (M29.1 172 42) 1001 M29
  else
  f_X8_reads_b155 n q26 x1 x2 x3 (M29.1 172 42) 1002 M29
def f_X8_reads_b220 (n : Nat) (q26 : Int32 → Int32 → Int32 → m_M → Option (Int32 × m_M)) (x1 : Int32) (x2 : Int32) (x3 : Int32) (x4 : Int32) (M : m_M) : Option (Int32 × m_M) :=
  if x4 = 40 then
  m_bd (m_sI M 172 38 (((10 : Int32) * (M.1 172 37)) + (3 : Int32))) fun M33 =>
  q26 x1 x2 x3 M33
  else
  m_bd (m_sI M 172 38 (((10 : Int32) * (M.1 172 37)) + (1 : Int32))) fun M32 =>
  q26 x1 x2 x3 M32
def f_X8_reads_b26 (n : Nat) : Nat → Int32 → Int32 → Int32 → m_M → Option (Int32 × m_M)
  | 0, _, _, _, _ => none
  | u + 1, x1, x2, x3, M =>
    if x3 = 0 then
  f_X8_reads_b481 n M
  else
  if (M.1 172 38) = (-1) then
  m_o2 (f_X8_ahead n M) fun r36 M37 =>
  if x2 = 0 then
  if r36 = 41 then
  if x1 ≤ 0 then
  f_X8_reads_b312 n (f_X8_reads_b26 n u) x1 x2 x3 r36 M37
  else
  m_bd (m_sI M37 172 37 ((M37.1 172 37) + (1 : Int32))) fun M41 =>
  m_ob (f_X8_workDown n 1 M41) fun M42 =>
  m_bd (m_sI M42 172 42 ((M42.1 172 42) - (1 : Int32))) fun M43 =>
  m_bd (m_sI M43 172 40 ((M43.1 172 40) - (1 : Int32))) fun M44 =>
  m_gd (m_in (M44.1 172 40) 64) (
  m_ob (f_X8_stands n (M44.2 192 ((M44.1 172 40).toNatClampNeg)) M44) fun M46 =>
  f_X8_reads_b26 n u (x1 + (-1)) x2 x3 M46)
  else
  f_X8_reads_b312 n (f_X8_reads_b26 n u) x1 x2 x3 r36 M37
  else
  m_bd (f_X8_isFigure r36) fun r47 =>
  if r47 = 0 then
  m_bd (f_X8_nameOf r36) fun r50 =>
  if r50 = (-1) then
  if r36 = 33 then
  f_X8_reads_b121 n (f_X8_reads_b26 n u) x1 x2 x3 r36 M37
  else
  if r36 = 45 then
  f_X8_reads_b121 n (f_X8_reads_b26 n u) x1 x2 x3 r36 M37
  else
  if r36 = 40 then
  if (8 : Int32) ≤ x1 then
  f_X8_reads_b220 n (f_X8_reads_b26 n u) x1 x2 x3 r36 M37
  else
  m_bd (m_sI M37 172 37 ((M37.1 172 37) + (1 : Int32))) fun M56 =>
  m_gd (m_in (M56.1 172 42) 128) (
  m_bd (m_sI M56 193 ((M56.1 172 42).toNatClampNeg) 1000) fun M58 =>
  m_bd (m_sI M58 172 42 ((M58.1 172 42) + (1 : Int32))) fun M59 =>
  f_X8_reads_b26 n u (x1 + 1) x2 x3 M59)
  else
  f_X8_reads_b220 n (f_X8_reads_b26 n u) x1 x2 x3 r36 M37
  else
  m_bd (m_sI M37 172 37 ((M37.1 172 37) + (1 : Int32))) fun M60 =>
  m_bd (f_X8_nameOf r36) fun r61 =>
  m_gd (m_in r61 5) (
  m_ob (f_X8_stands n (M60.2 194 r61.toNatClampNeg) M60) fun M63 =>
  f_X8_reads_b26 n u x1 0 x3 M63)
  else
  m_o2 (f_X8_digits n M37) fun r64 M65 =>
  m_ob (f_X8_stands n r64 M65) fun M66 =>
  f_X8_reads_b26 n u x1 0 x3 M66
  else
  f_X8_reads_b481 n M
def f_X8_reads (n : Nat) (M : m_M) : Option (Int32 × m_M) :=
  m_bd (m_sI M 172 37 0) fun M67 =>
  m_bd (m_sI M67 172 38 (-1)) fun M68 =>
  m_bd (m_sI M68 172 40 0) fun M69 =>
  m_bd (m_sI M69 172 42 0) fun M70 =>
  f_X8_reads_b26 n n 0 1 1 M70
set_option maxHeartbeats 4000000 in
set_option maxRecDepth 100000 in
theorem c_X8_reads (l : Launch) (G : m_G) {n : Nat} {M : m_M} {r0 : Int32} {M0 : m_M}  (hres : f_X8_reads n M = some (r0, M0)) : Met l yX8_reads (m_U yX8_reads cX8_reads 5 (some .boolean)) (m_R 3 68) (m_Pc G [.ref (m_ad G 172)] M) (m_Qz G r0 M0) 0 0 (m_A G) := by
  refine m_i0 (n := 5) RX8 rfl (by decide) (Nat.le_of_ble_eq_true rfl) ?_
  intro p e s m args below meth c X hr hlk hSt hP hS ls hl
  have hl : lv_has ls 5 [(0, .ref (m_ad G 172))] := hl
  have B500 : ∀  (s1 : Int64) (M : m_M) (H : Heap) (locs : List Loc) (ls : Array Slot), m_P G M H → va_S (m_A G) s.heap H locs → lv_has ls 5 [(0, .ref (m_ad G 172))] → f_X8_reads_b500 n s1 M = some (r0, M0) → W p l e (m_R 3 68) s m args below meth c H locs 0 0 (MQ below (m_Qz G r0 M0) args s 0 0 (m_A G)) (F0 m 500 ls [.long s1, .ref (m_ad G 172)]) := by
    intro s1 M H locs ls hP hS hl hres
    unfold f_X8_reads_b500 at hres
    obtain ⟨M1, eM1, hres⟩ := m_bd_e hres
    refine m_pl8 X hSt hP hS m_z_172 44 (by decide) eM1 rfl rfl (by decide) k_f_X8_320 dX8_reads_500 (fun H locs hP hS => ?_)
    refine lv_aload_n X.1 X.2.1 dX8_reads_503 rfl (lv_at hl 0 rfl) ?_
    refine m_g8 (v := .int (M1.1 172 38)) X hSt hP m_z_172 38 (by decide) rfl k_f_X8_298 dX8_reads_504 ?_
    refine lv_iconst (v := (-1)) X.1 X.2.1 dX8_reads_507 (by decide) ?_
    refine lv_icmp_ne (tgt := 515) X.1 X.2.1 dX8_reads_508 (by decide) (fun hc2 => ?_) (fun hc2 => ?_)
    · have hres := m_if hres hc2
      refine lv_iconst (v := 0) X.1 X.2.1 dX8_reads_515 (by decide) ?_
      exact m_rz X hr hlk hP hS (Prod.mk.inj (Option.some.inj hres)).1 (Prod.mk.inj (Option.some.inj hres)).2 (by decide) dX8_reads_516
    · have hres := m_it hres hc2
      refine lv_iconst (v := 1) X.1 X.2.1 dX8_reads_511 (by decide) ?_
      refine lv_goto (tgt := 516) X.1 X.2.1 dX8_reads_512 (by decide) ?_
      exact m_rz X hr hlk hP hS (Prod.mk.inj (Option.some.inj hres)).1 (Prod.mk.inj (Option.some.inj hres)).2 (by decide) dX8_reads_516
  have B481 : ∀  (M : m_M) (H : Heap) (locs : List Loc) (ls : Array Slot), m_P G M H → va_S (m_A G) s.heap H locs → lv_has ls 5 [(0, .ref (m_ad G 172))] → f_X8_reads_b481 n M = some (r0, M0) → W p l e (m_R 3 68) s m args below meth c H locs 0 0 (MQ below (m_Qz G r0 M0) args s 0 0 (m_A G)) (F0 m 481 ls []) := by
    intro M H locs ls hP hS hl hres
    unfold f_X8_reads_b481 at hres
    refine lv_aload_n X.1 X.2.1 dX8_reads_481 rfl (lv_at hl 0 rfl) ?_
    refine lv_aload_n X.1 X.2.1 dX8_reads_482 rfl (lv_at hl 0 rfl) ?_
    refine m_g8 (v := .int (M.1 172 38)) X hSt hP m_z_172 38 (by decide) rfl k_f_X8_298 dX8_reads_483 ?_
    refine lv_iconst (v := (-1)) X.1 X.2.1 dX8_reads_486 (by decide) ?_
    refine lv_icmp_ne (tgt := 499) X.1 X.2.1 dX8_reads_487 (by decide) (fun hc3 => ?_) (fun hc3 => ?_)
    · have hres := m_if hres hc3
      refine lv_lconst (v := 0) X.1 X.2.1 dX8_reads_499 (by decide) ?_
      exact B500 0 M _ _ _ hP hS (lv_sub hl [0] rfl) hres
    · have hres := m_it hres hc3
      refine lv_aload_n X.1 X.2.1 dX8_reads_490 rfl (lv_at hl 0 rfl) ?_
      refine m_g8 (v := .ref (m_ad G 192)) X hSt hP m_z_172 39 (by decide) rfl k_f_X8_76 dX8_reads_491 ?_
      refine lv_iconst (v := 0) X.1 X.2.1 dX8_reads_494 (by decide) ?_
      refine m_la (j := 0) X hSt hP m_z_192 (by decide +kernel) (by decide +kernel) dX8_reads_495 ?_
      refine lv_goto (tgt := 500) X.1 X.2.1 dX8_reads_496 (by decide) ?_
      exact B500 (M.2 192 0) M _ _ _ hP hS (lv_sub hl [0] rfl) hres
  have B465 : ∀ (q26 : Int32 → Int32 → Int32 → m_M → Option (Int32 × m_M)) (hq26 : ∀ (x1 : Int32) (x2 : Int32) (x3 : Int32) (M : m_M) (H : Heap) (locs : List Loc) (ls : Array Slot), m_P G M H → va_S (m_A G) s.heap H locs → lv_has ls 5 [(0, .ref (m_ad G 172)), (1, .int x1), (2, .int x2), (3, .int x3)] → q26 x1 x2 x3 M = some (r0, M0) → W p l e (m_R 3 68) s m args below meth c H locs 0 0 (MQ below (m_Qz G r0 M0) args s 0 0 (m_A G)) (F0 m 26 ls [])) (x1 : Int32) (x2 : Int32) (x3 : Int32) (M : m_M) (H : Heap) (locs : List Loc) (ls : Array Slot), m_P G M H → va_S (m_A G) s.heap H locs → lv_has ls 5 [(0, .ref (m_ad G 172)), (1, .int x1), (2, .int x2), (3, .int x3)] → f_X8_reads_b465 n q26 x1 x2 x3 M = some (r0, M0) → W p l e (m_R 3 68) s m args below meth c H locs 0 0 (MQ below (m_Qz G r0 M0) args s 0 0 (m_A G)) (F0 m 465 ls []) := by
    intro q26 hq26 x1 x2 x3 M H locs ls hP hS hl hres
    unfold f_X8_reads_b465 at hres
    refine lv_aload_n X.1 X.2.1 dX8_reads_465 rfl (lv_at hl 0 rfl) ?_
    refine lv_bipush (v := 10) X.1 X.2.1 dX8_reads_466 (by decide) ?_
    refine lv_aload_n X.1 X.2.1 dX8_reads_468 rfl (lv_at hl 0 rfl) ?_
    refine m_g8 (v := .int (M.1 172 37)) X hSt hP m_z_172 37 (by decide) rfl k_f_X8_277 dX8_reads_469 ?_
    refine lv_imul X.1 X.2.1 dX8_reads_472 ?_
    refine lv_iconst (v := 1) X.1 X.2.1 dX8_reads_473 (by decide) ?_
    refine lv_iadd X.1 X.2.1 dX8_reads_474 ?_
    obtain ⟨M4, eM4, hres⟩ := m_bd_e hres
    refine m_pi8 X hSt hP hS m_z_172 38 (by decide) eM4 rfl rfl (by decide) k_f_X8_298 dX8_reads_475 (fun H locs hP hS => ?_)
    refine lv_goto (tgt := 26) X.1 X.2.1 dX8_reads_478 (by decide) ?_
    exact hq26 x1 x2 x3 M4 _ _ _ hP hS (lv_sub hl [0, 1, 2, 3] rfl) hres
  have B409 : ∀ (q26 : Int32 → Int32 → Int32 → m_M → Option (Int32 × m_M)) (hq26 : ∀ (x1 : Int32) (x2 : Int32) (x3 : Int32) (M : m_M) (H : Heap) (locs : List Loc) (ls : Array Slot), m_P G M H → va_S (m_A G) s.heap H locs → lv_has ls 5 [(0, .ref (m_ad G 172)), (1, .int x1), (2, .int x2), (3, .int x3)] → q26 x1 x2 x3 M = some (r0, M0) → W p l e (m_R 3 68) s m args below meth c H locs 0 0 (MQ below (m_Qz G r0 M0) args s 0 0 (m_A G)) (F0 m 26 ls [])) (x1 : Int32) (x3 : Int32) (x4 : Int32) (M : m_M) (H : Heap) (locs : List Loc) (ls : Array Slot), m_P G M H → va_S (m_A G) s.heap H locs → lv_has ls 5 [(0, .ref (m_ad G 172)), (1, .int x1), (3, .int x3), (4, .int x4)] → f_X8_reads_b409 n q26 x1 x3 x4 M = some (r0, M0) → W p l e (m_R 3 68) s m args below meth c H locs 0 0 (MQ below (m_Qz G r0 M0) args s 0 0 (m_A G)) (F0 m 409 ls []) := by
    intro q26 hq26 x1 x3 x4 M H locs ls hP hS hl hres
    unfold f_X8_reads_b409 at hres
    refine lv_aload_n X.1 X.2.1 dX8_reads_409 rfl (lv_at hl 0 rfl) ?_
    refine lv_dup X.1 X.2.1 dX8_reads_410 rfl ?_
    refine m_g8 (v := .int (M.1 172 37)) X hSt hP m_z_172 37 (by decide) rfl k_f_X8_277 dX8_reads_411 ?_
    refine lv_iconst (v := 1) X.1 X.2.1 dX8_reads_414 (by decide) ?_
    refine lv_iadd X.1 X.2.1 dX8_reads_415 ?_
    obtain ⟨M5, eM5, hres⟩ := m_bd_e hres
    refine m_pi8 X hSt hP hS m_z_172 37 (by decide) eM5 rfl rfl (by decide) k_f_X8_277 dX8_reads_416 (fun H locs hP hS => ?_)
    refine lv_aload_n X.1 X.2.1 dX8_reads_419 rfl (lv_at hl 0 rfl) ?_
    refine m_g8 (v := .ref (m_ad G 193)) X hSt hP m_z_172 41 (by decide) rfl k_f_X8_80 dX8_reads_420 ?_
    refine lv_aload_n X.1 X.2.1 dX8_reads_423 rfl (lv_at hl 0 rfl) ?_
    refine m_g8 (v := .int (M5.1 172 42)) X hSt hP m_z_172 42 (by decide) rfl k_f_X8_286 dX8_reads_424 ?_
    refine lv_iload X.1 X.2.1 dX8_reads_427 (lv_at hl 3 rfl) ?_
    obtain ⟨hg6, hres⟩ := m_gd_e hres
    obtain ⟨M7, eM7, hres⟩ := m_bd_e hres
    refine m_is (j := ((M5.1 172 42).toNatClampNeg)) X hSt hP hS m_z_193 hg6 rfl dX8_reads_429 eM7 (fun H locs hP hS => ?_)
    refine lv_aload_n X.1 X.2.1 dX8_reads_430 rfl (lv_at hl 0 rfl) ?_
    refine lv_dup X.1 X.2.1 dX8_reads_431 rfl ?_
    refine m_g8 (v := .int (M7.1 172 42)) X hSt hP m_z_172 42 (by decide) rfl k_f_X8_286 dX8_reads_432 ?_
    refine lv_iconst (v := 1) X.1 X.2.1 dX8_reads_435 (by decide) ?_
    refine lv_iadd X.1 X.2.1 dX8_reads_436 ?_
    obtain ⟨M8, eM8, hres⟩ := m_bd_e hres
    refine m_pi8 X hSt hP hS m_z_172 42 (by decide) eM8 rfl rfl (by decide) k_f_X8_286 dX8_reads_437 (fun H locs hP hS => ?_)
    refine lv_iconst (v := 1) X.1 X.2.1 dX8_reads_440 (by decide) ?_
    refine lv_istore_n (lv' := [(2, .int 1), (0, .ref (m_ad G 172)), (1, .int x1), (3, .int x3), (4, .int x4)]) X.1 X.2.1 dX8_reads_441 rfl hl (by decide) rfl (fun ls hl => ?_)
    refine lv_goto (tgt := 478) X.1 X.2.1 dX8_reads_442 (by decide) ?_
    refine lv_goto (tgt := 26) X.1 X.2.1 dX8_reads_478 (by decide) ?_
    exact hq26 x1 1 x3 M8 _ _ _ hP hS (lv_sub hl [1, 2, 0, 3] rfl) hres
  have B339 : ∀ (q26 : Int32 → Int32 → Int32 → m_M → Option (Int32 × m_M)) (hq26 : ∀ (x1 : Int32) (x2 : Int32) (x3 : Int32) (M : m_M) (H : Heap) (locs : List Loc) (ls : Array Slot), m_P G M H → va_S (m_A G) s.heap H locs → lv_has ls 5 [(0, .ref (m_ad G 172)), (1, .int x1), (2, .int x2), (3, .int x3)] → q26 x1 x2 x3 M = some (r0, M0) → W p l e (m_R 3 68) s m args below meth c H locs 0 0 (MQ below (m_Qz G r0 M0) args s 0 0 (m_A G)) (F0 m 26 ls [])) (x1 : Int32) (x2 : Int32) (x3 : Int32) (x4 : Int32) (s1 : Int32) (M : m_M) (H : Heap) (locs : List Loc) (ls : Array Slot), m_P G M H → va_S (m_A G) s.heap H locs → lv_has ls 5 [(0, .ref (m_ad G 172)), (1, .int x1), (2, .int x2), (3, .int x3), (4, .int x4)] → f_X8_reads_b339 n q26 x1 x2 x3 x4 s1 M = some (r0, M0) → W p l e (m_R 3 68) s m args below meth c H locs 0 0 (MQ below (m_Qz G r0 M0) args s 0 0 (m_A G)) (F0 m 339 ls [.int s1, .ref (m_ad G 172)]) := by
    intro q26 hq26 x1 x2 x3 x4 s1 M H locs ls hP hS hl hres
    unfold f_X8_reads_b339 at hres
    obtain ⟨M9, eM9, hres⟩ := m_ob_e hres
    refine m_bv (m_cV (n := 1) (As := [.int s1]) (rest := []) X hSt hP hS hl.1 (c_X8_workDown l G  eM9) k_c_yX8_workDown k_m_X8_317 k_i_yX8_workDown k_s_yX8_workDown k_n_X8 (by decide +kernel) (m_rc8 hSt hP m_z_172) rfl rfl ⟨Nat.le_of_ble_eq_true rfl, Nat.le_of_ble_eq_true rfl⟩ (Nat.le_of_ble_eq_true rfl) ⟨Nat.zero_le _, Nat.zero_le _⟩ dX8_reads_339) hS (fun H locs hP hS => ?_)
    refine lv_iload X.1 X.2.1 dX8_reads_342 (lv_at hl 4 rfl) ?_
    obtain ⟨r10, err10, hres⟩ := m_bd_e hres
    refine m_bi (m_cS (n := 1) (As := [.int x4]) (rest := []) X hSt hP hS hl.1 (c_X8_rank l G (M := M9)  err10) k_c_yX8_rank k_m_X8_292 k_t_yX8_rank k_n_X8 (by decide +kernel) rfl rfl ⟨Nat.le_of_ble_eq_true rfl, Nat.le_of_ble_eq_true rfl⟩ (Nat.le_of_ble_eq_true rfl) ⟨Nat.zero_le _, Nat.zero_le _⟩ dX8_reads_344) hS (fun H locs hP hS => ?_)
    refine lv_iconst (v := 3) X.1 X.2.1 dX8_reads_347 (by decide) ?_
    refine lv_icmp_ne (tgt := 409) X.1 X.2.1 dX8_reads_348 (by decide) (fun hc11 => ?_) (fun hc11 => ?_)
    · have hres := m_if hres hc11
      exact B409 q26 hq26 x1 x3 x4 M9 _ _ _ hP hS (lv_sub hl [0, 1, 3, 4] rfl) hres
    · have hres := m_it hres hc11
      refine lv_aload_n X.1 X.2.1 dX8_reads_351 rfl (lv_at hl 0 rfl) ?_
      refine m_g8 (v := .int (M9.1 172 42)) X hSt hP m_z_172 42 (by decide) rfl k_f_X8_286 dX8_reads_352 ?_
      refine lv_if_le (tgt := 409) X.1 X.2.1 dX8_reads_355 (by decide) (fun hc12 => ?_) (fun hc12 => ?_)
      · have hres := m_it hres hc12
        exact B409 q26 hq26 x1 x3 x4 M9 _ _ _ hP hS (lv_sub hl [0, 1, 3, 4] rfl) hres
      · have hres := m_if hres hc12
        refine lv_aload_n X.1 X.2.1 dX8_reads_358 rfl (lv_at hl 0 rfl) ?_
        refine m_g8 (v := .ref (m_ad G 193)) X hSt hP m_z_172 41 (by decide) rfl k_f_X8_80 dX8_reads_359 ?_
        refine lv_aload_n X.1 X.2.1 dX8_reads_362 rfl (lv_at hl 0 rfl) ?_
        refine m_g8 (v := .int (M9.1 172 42)) X hSt hP m_z_172 42 (by decide) rfl k_f_X8_286 dX8_reads_363 ?_
        refine lv_iconst (v := 1) X.1 X.2.1 dX8_reads_366 (by decide) ?_
        refine lv_isub X.1 X.2.1 dX8_reads_367 ?_
        obtain ⟨hg13, hres⟩ := m_gd_e hres
        refine m_ia (j := (((M9.1 172 42) - (1 : Int32)).toNatClampNeg)) X hSt hP m_z_193 hg13 rfl dX8_reads_368 ?_
        refine lv_sipush (v := 1000) X.1 X.2.1 dX8_reads_369 (by decide) ?_
        refine lv_icmp_ge (tgt := 409) X.1 X.2.1 dX8_reads_372 (by decide) (fun hc14 => ?_) (fun hc14 => ?_)
        · have hres := m_it hres hc14
          exact B409 q26 hq26 x1 x3 x4 M9 _ _ _ hP hS (lv_sub hl [0, 1, 3, 4] rfl) hres
        · have hres := m_if hres hc14
          refine lv_aload_n X.1 X.2.1 dX8_reads_375 rfl (lv_at hl 0 rfl) ?_
          refine m_g8 (v := .ref (m_ad G 193)) X hSt hP m_z_172 41 (by decide) rfl k_f_X8_80 dX8_reads_376 ?_
          refine lv_aload_n X.1 X.2.1 dX8_reads_379 rfl (lv_at hl 0 rfl) ?_
          refine m_g8 (v := .int (M9.1 172 42)) X hSt hP m_z_172 42 (by decide) rfl k_f_X8_286 dX8_reads_380 ?_
          refine lv_iconst (v := 1) X.1 X.2.1 dX8_reads_383 (by decide) ?_
          refine lv_isub X.1 X.2.1 dX8_reads_384 ?_
          refine m_ia (j := (((M9.1 172 42) - (1 : Int32)).toNatClampNeg)) X hSt hP m_z_193 hg13 rfl dX8_reads_385 ?_
          obtain ⟨r15, err15, hres⟩ := m_bd_e hres
          refine m_bi (m_cS (n := 1) (As := [.int (M9.1 193 (((M9.1 172 42) - (1 : Int32)).toNatClampNeg))]) (rest := []) X hSt hP hS hl.1 (c_X8_rank l G (M := M9)  err15) k_c_yX8_rank k_m_X8_292 k_t_yX8_rank k_n_X8 (by decide +kernel) rfl rfl ⟨Nat.le_of_ble_eq_true rfl, Nat.le_of_ble_eq_true rfl⟩ (Nat.le_of_ble_eq_true rfl) ⟨Nat.zero_le _, Nat.zero_le _⟩ dX8_reads_386) hS (fun H locs hP hS => ?_)
          refine lv_iconst (v := 3) X.1 X.2.1 dX8_reads_389 (by decide) ?_
          refine lv_icmp_ne (tgt := 409) X.1 X.2.1 dX8_reads_390 (by decide) (fun hc16 => ?_) (fun hc16 => ?_)
          · have hres := m_if hres hc16
            exact B409 q26 hq26 x1 x3 x4 M9 _ _ _ hP hS (lv_sub hl [0, 1, 3, 4] rfl) hres
          · have hres := m_it hres hc16
            refine lv_aload_n X.1 X.2.1 dX8_reads_393 rfl (lv_at hl 0 rfl) ?_
            refine lv_bipush (v := 10) X.1 X.2.1 dX8_reads_394 (by decide) ?_
            refine lv_aload_n X.1 X.2.1 dX8_reads_396 rfl (lv_at hl 0 rfl) ?_
            refine m_g8 (v := .int (M9.1 172 37)) X hSt hP m_z_172 37 (by decide) rfl k_f_X8_277 dX8_reads_397 ?_
            refine lv_imul X.1 X.2.1 dX8_reads_400 ?_
            refine lv_iconst (v := 1) X.1 X.2.1 dX8_reads_401 (by decide) ?_
            refine lv_iadd X.1 X.2.1 dX8_reads_402 ?_
            obtain ⟨M17, eM17, hres⟩ := m_bd_e hres
            refine m_pi8 X hSt hP hS m_z_172 38 (by decide) eM17 rfl rfl (by decide) k_f_X8_298 dX8_reads_403 (fun H locs hP hS => ?_)
            refine lv_goto (tgt := 478) X.1 X.2.1 dX8_reads_406 (by decide) ?_
            refine lv_goto (tgt := 26) X.1 X.2.1 dX8_reads_478 (by decide) ?_
            exact hq26 x1 x2 x3 M17 _ _ _ hP hS (lv_sub hl [0, 1, 2, 3] rfl) hres
  have B312 : ∀ (q26 : Int32 → Int32 → Int32 → m_M → Option (Int32 × m_M)) (hq26 : ∀ (x1 : Int32) (x2 : Int32) (x3 : Int32) (M : m_M) (H : Heap) (locs : List Loc) (ls : Array Slot), m_P G M H → va_S (m_A G) s.heap H locs → lv_has ls 5 [(0, .ref (m_ad G 172)), (1, .int x1), (2, .int x2), (3, .int x3)] → q26 x1 x2 x3 M = some (r0, M0) → W p l e (m_R 3 68) s m args below meth c H locs 0 0 (MQ below (m_Qz G r0 M0) args s 0 0 (m_A G)) (F0 m 26 ls [])) (x1 : Int32) (x2 : Int32) (x3 : Int32) (x4 : Int32) (M : m_M) (H : Heap) (locs : List Loc) (ls : Array Slot), m_P G M H → va_S (m_A G) s.heap H locs → lv_has ls 5 [(0, .ref (m_ad G 172)), (1, .int x1), (2, .int x2), (3, .int x3), (4, .int x4)] → f_X8_reads_b312 n q26 x1 x2 x3 x4 M = some (r0, M0) → W p l e (m_R 3 68) s m args below meth c H locs 0 0 (MQ below (m_Qz G r0 M0) args s 0 0 (m_A G)) (F0 m 312 ls []) := by
    intro q26 hq26 x1 x2 x3 x4 M H locs ls hP hS hl hres
    unfold f_X8_reads_b312 at hres
    refine lv_iload X.1 X.2.1 dX8_reads_312 (lv_at hl 4 rfl) ?_
    obtain ⟨r18, err18, hres⟩ := m_bd_e hres
    refine m_bi (m_cS (n := 1) (As := [.int x4]) (rest := []) X hSt hP hS hl.1 (c_X8_rank l G (M := M)  err18) k_c_yX8_rank k_m_X8_292 k_t_yX8_rank k_n_X8 (by decide +kernel) rfl rfl ⟨Nat.le_of_ble_eq_true rfl, Nat.le_of_ble_eq_true rfl⟩ (Nat.le_of_ble_eq_true rfl) ⟨Nat.zero_le _, Nat.zero_le _⟩ dX8_reads_314) hS (fun H locs hP hS => ?_)
    refine lv_if_le (tgt := 445) X.1 X.2.1 dX8_reads_317 (by decide) (fun hc19 => ?_) (fun hc19 => ?_)
    · have hres := m_it hres hc19
      refine lv_iload X.1 X.2.1 dX8_reads_445 (lv_at hl 4 rfl) ?_
      refine lv_iconst (v := (-1)) X.1 X.2.1 dX8_reads_447 (by decide) ?_
      refine lv_icmp_ne (tgt := 465) X.1 X.2.1 dX8_reads_448 (by decide) (fun hc20 => ?_) (fun hc20 => ?_)
      · have hres := m_if hres hc20
        exact B465 q26 hq26 x1 x2 x3 M _ _ _ hP hS (lv_sub hl [0, 1, 2, 3] rfl) hres
      · have hres := m_it hres hc20
        refine lv_iload_n X.1 X.2.1 dX8_reads_451 rfl (lv_at hl 1 rfl) ?_
        refine lv_if_ne (tgt := 465) X.1 X.2.1 dX8_reads_452 (by decide) (fun hc21 => ?_) (fun hc21 => ?_)
        · have hres := m_if hres hc21
          exact B465 q26 hq26 x1 x2 x3 M _ _ _ hP hS (lv_sub hl [0, 1, 2, 3] rfl) hres
        · have hres := m_it hres hc21
          refine lv_aload_n X.1 X.2.1 dX8_reads_455 rfl (lv_at hl 0 rfl) ?_
          refine lv_iconst (v := 1) X.1 X.2.1 dX8_reads_456 (by decide) ?_
          obtain ⟨M22, eM22, hres⟩ := m_ob_e hres
          refine m_bv (m_cV (n := 1) (As := [.int 1]) (rest := []) X hSt hP hS hl.1 (c_X8_workDown l G  eM22) k_c_yX8_workDown k_m_X8_317 k_i_yX8_workDown k_s_yX8_workDown k_n_X8 (by decide +kernel) (m_rc8 hSt hP m_z_172) rfl rfl ⟨Nat.le_of_ble_eq_true rfl, Nat.le_of_ble_eq_true rfl⟩ (Nat.le_of_ble_eq_true rfl) ⟨Nat.zero_le _, Nat.zero_le _⟩ dX8_reads_457) hS (fun H locs hP hS => ?_)
          refine lv_iconst (v := 0) X.1 X.2.1 dX8_reads_460 (by decide) ?_
          refine lv_istore_n (lv' := [(3, .int 0), (0, .ref (m_ad G 172)), (1, .int x1), (2, .int x2), (4, .int x4)]) X.1 X.2.1 dX8_reads_461 rfl hl (by decide) rfl (fun ls hl => ?_)
          refine lv_goto (tgt := 478) X.1 X.2.1 dX8_reads_462 (by decide) ?_
          refine lv_goto (tgt := 26) X.1 X.2.1 dX8_reads_478 (by decide) ?_
          exact hq26 x1 x2 0 M22 _ _ _ hP hS (lv_sub hl [1, 2, 3, 0] rfl) hres
    · have hres := m_if hres hc19
      refine lv_aload_n X.1 X.2.1 dX8_reads_320 rfl (lv_at hl 0 rfl) ?_
      refine lv_iload X.1 X.2.1 dX8_reads_321 (lv_at hl 4 rfl) ?_
      obtain ⟨r23, err23, hres⟩ := m_bd_e hres
      refine m_bi (m_cS (n := 1) (As := [.int x4]) (rest := [.ref (m_ad G 172)]) X hSt hP hS hl.1 (c_X8_rank l G (M := M)  err23) k_c_yX8_rank k_m_X8_292 k_t_yX8_rank k_n_X8 (by decide +kernel) rfl rfl ⟨Nat.le_of_ble_eq_true rfl, Nat.le_of_ble_eq_true rfl⟩ (Nat.le_of_ble_eq_true rfl) ⟨Nat.zero_le _, Nat.zero_le _⟩ dX8_reads_323) hS (fun H locs hP hS => ?_)
      refine lv_iconst (v := 3) X.1 X.2.1 dX8_reads_326 (by decide) ?_
      refine lv_icmp_ne (tgt := 334) X.1 X.2.1 dX8_reads_327 (by decide) (fun hc24 => ?_) (fun hc24 => ?_)
      · have hres := m_if hres hc24
        refine lv_iload X.1 X.2.1 dX8_reads_334 (lv_at hl 4 rfl) ?_
        obtain ⟨r25, err25, hres⟩ := m_bd_e hres
        refine m_bi (m_cS (n := 1) (As := [.int x4]) (rest := [.ref (m_ad G 172)]) X hSt hP hS hl.1 (c_X8_rank l G (M := M)  err25) k_c_yX8_rank k_m_X8_292 k_t_yX8_rank k_n_X8 (by decide +kernel) rfl rfl ⟨Nat.le_of_ble_eq_true rfl, Nat.le_of_ble_eq_true rfl⟩ (Nat.le_of_ble_eq_true rfl) ⟨Nat.zero_le _, Nat.zero_le _⟩ dX8_reads_336) hS (fun H locs hP hS => ?_)
        exact B339 q26 hq26 x1 x2 x3 x4 r25 M _ _ _ hP hS (lv_sub hl [0, 1, 2, 3, 4] rfl) hres
      · have hres := m_it hres hc24
        refine lv_iconst (v := 4) X.1 X.2.1 dX8_reads_330 (by decide) ?_
        refine lv_goto (tgt := 339) X.1 X.2.1 dX8_reads_331 (by decide) ?_
        exact B339 q26 hq26 x1 x2 x3 x4 4 M _ _ _ hP hS (lv_sub hl [0, 1, 2, 3, 4] rfl) hres
  have B155 : ∀ (q26 : Int32 → Int32 → Int32 → m_M → Option (Int32 × m_M)) (hq26 : ∀ (x1 : Int32) (x2 : Int32) (x3 : Int32) (M : m_M) (H : Heap) (locs : List Loc) (ls : Array Slot), m_P G M H → va_S (m_A G) s.heap H locs → lv_has ls 5 [(0, .ref (m_ad G 172)), (1, .int x1), (2, .int x2), (3, .int x3)] → q26 x1 x2 x3 M = some (r0, M0) → W p l e (m_R 3 68) s m args below meth c H locs 0 0 (MQ below (m_Qz G r0 M0) args s 0 0 (m_A G)) (F0 m 26 ls [])) (x1 : Int32) (x2 : Int32) (x3 : Int32) (s1 : Int32) (s2 : Int32) (M : m_M) (H : Heap) (locs : List Loc) (ls : Array Slot), m_P G M H → va_S (m_A G) s.heap H locs → lv_has ls 5 [(0, .ref (m_ad G 172)), (1, .int x1), (2, .int x2), (3, .int x3)] → f_X8_reads_b155 n q26 x1 x2 x3 s1 s2 M = some (r0, M0) → W p l e (m_R 3 68) s m args below meth c H locs 0 0 (MQ below (m_Qz G r0 M0) args s 0 0 (m_A G)) (F0 m 155 ls [.int s2, .int s1, .ref (m_ad G 193)]) := by
    intro q26 hq26 x1 x2 x3 s1 s2 M H locs ls hP hS hl hres
    unfold f_X8_reads_b155 at hres
    obtain ⟨hg26, hres⟩ := m_gd_e hres
    obtain ⟨M27, eM27, hres⟩ := m_bd_e hres
    refine m_is (j := s1.toNatClampNeg) X hSt hP hS m_z_193 hg26 rfl dX8_reads_155 eM27 (fun H locs hP hS => ?_)
    refine lv_aload_n X.1 X.2.1 dX8_reads_156 rfl (lv_at hl 0 rfl) ?_
    refine lv_dup X.1 X.2.1 dX8_reads_157 rfl ?_
    refine m_g8 (v := .int (M27.1 172 42)) X hSt hP m_z_172 42 (by decide) rfl k_f_X8_286 dX8_reads_158 ?_
    refine lv_iconst (v := 1) X.1 X.2.1 dX8_reads_161 (by decide) ?_
    refine lv_iadd X.1 X.2.1 dX8_reads_162 ?_
    obtain ⟨M28, eM28, hres⟩ := m_bd_e hres
    refine m_pi8 X hSt hP hS m_z_172 42 (by decide) eM28 rfl rfl (by decide) k_f_X8_286 dX8_reads_163 (fun H locs hP hS => ?_)
    refine lv_goto (tgt := 478) X.1 X.2.1 dX8_reads_166 (by decide) ?_
    refine lv_goto (tgt := 26) X.1 X.2.1 dX8_reads_478 (by decide) ?_
    exact hq26 x1 x2 x3 M28 _ _ _ hP hS (lv_sub hl [0, 1, 2, 3] rfl) hres
  have B121 : ∀ (q26 : Int32 → Int32 → Int32 → m_M → Option (Int32 × m_M)) (hq26 : ∀ (x1 : Int32) (x2 : Int32) (x3 : Int32) (M : m_M) (H : Heap) (locs : List Loc) (ls : Array Slot), m_P G M H → va_S (m_A G) s.heap H locs → lv_has ls 5 [(0, .ref (m_ad G 172)), (1, .int x1), (2, .int x2), (3, .int x3)] → q26 x1 x2 x3 M = some (r0, M0) → W p l e (m_R 3 68) s m args below meth c H locs 0 0 (MQ below (m_Qz G r0 M0) args s 0 0 (m_A G)) (F0 m 26 ls [])) (x1 : Int32) (x2 : Int32) (x3 : Int32) (x4 : Int32) (M : m_M) (H : Heap) (locs : List Loc) (ls : Array Slot), m_P G M H → va_S (m_A G) s.heap H locs → lv_has ls 5 [(0, .ref (m_ad G 172)), (1, .int x1), (2, .int x2), (3, .int x3), (4, .int x4)] → f_X8_reads_b121 n q26 x1 x2 x3 x4 M = some (r0, M0) → W p l e (m_R 3 68) s m args below meth c H locs 0 0 (MQ below (m_Qz G r0 M0) args s 0 0 (m_A G)) (F0 m 121 ls []) := by
    intro q26 hq26 x1 x2 x3 x4 M H locs ls hP hS hl hres
    unfold f_X8_reads_b121 at hres
    refine lv_aload_n X.1 X.2.1 dX8_reads_121 rfl (lv_at hl 0 rfl) ?_
    refine lv_dup X.1 X.2.1 dX8_reads_122 rfl ?_
    refine m_g8 (v := .int (M.1 172 37)) X hSt hP m_z_172 37 (by decide) rfl k_f_X8_277 dX8_reads_123 ?_
    refine lv_iconst (v := 1) X.1 X.2.1 dX8_reads_126 (by decide) ?_
    refine lv_iadd X.1 X.2.1 dX8_reads_127 ?_
    obtain ⟨M29, eM29, hres⟩ := m_bd_e hres
    refine m_pi8 X hSt hP hS m_z_172 37 (by decide) eM29 rfl rfl (by decide) k_f_X8_277 dX8_reads_128 (fun H locs hP hS => ?_)
    refine lv_aload_n X.1 X.2.1 dX8_reads_131 rfl (lv_at hl 0 rfl) ?_
    refine m_g8 (v := .ref (m_ad G 193)) X hSt hP m_z_172 41 (by decide) rfl k_f_X8_80 dX8_reads_132 ?_
    refine lv_aload_n X.1 X.2.1 dX8_reads_135 rfl (lv_at hl 0 rfl) ?_
    refine m_g8 (v := .int (M29.1 172 42)) X hSt hP m_z_172 42 (by decide) rfl k_f_X8_286 dX8_reads_136 ?_
    refine lv_iload X.1 X.2.1 dX8_reads_139 (lv_at hl 4 rfl) ?_
    refine lv_bipush (v := 33) X.1 X.2.1 dX8_reads_141 (by decide) ?_
    refine lv_icmp_ne (tgt := 152) X.1 X.2.1 dX8_reads_143 (by decide) (fun hc30 => ?_) (fun hc30 => ?_)
    · have hres := m_if hres hc30
      refine lv_sipush (v := 1002) X.1 X.2.1 dX8_reads_152 (by decide) ?_
      exact B155 q26 hq26 x1 x2 x3 (M29.1 172 42) 1002 M29 _ _ _ hP hS (lv_sub hl [0, 1, 2, 3] rfl) hres
    · have hres := m_it hres hc30
      refine lv_sipush (v := 1001) X.1 X.2.1 dX8_reads_146 (by decide) ?_
      refine lv_goto (tgt := 155) X.1 X.2.1 dX8_reads_149 (by decide) ?_
      exact B155 q26 hq26 x1 x2 x3 (M29.1 172 42) 1001 M29 _ _ _ hP hS (lv_sub hl [0, 1, 2, 3] rfl) hres
  have B220 : ∀ (q26 : Int32 → Int32 → Int32 → m_M → Option (Int32 × m_M)) (hq26 : ∀ (x1 : Int32) (x2 : Int32) (x3 : Int32) (M : m_M) (H : Heap) (locs : List Loc) (ls : Array Slot), m_P G M H → va_S (m_A G) s.heap H locs → lv_has ls 5 [(0, .ref (m_ad G 172)), (1, .int x1), (2, .int x2), (3, .int x3)] → q26 x1 x2 x3 M = some (r0, M0) → W p l e (m_R 3 68) s m args below meth c H locs 0 0 (MQ below (m_Qz G r0 M0) args s 0 0 (m_A G)) (F0 m 26 ls [])) (x1 : Int32) (x2 : Int32) (x3 : Int32) (x4 : Int32) (M : m_M) (H : Heap) (locs : List Loc) (ls : Array Slot), m_P G M H → va_S (m_A G) s.heap H locs → lv_has ls 5 [(0, .ref (m_ad G 172)), (1, .int x1), (2, .int x2), (3, .int x3), (4, .int x4)] → f_X8_reads_b220 n q26 x1 x2 x3 x4 M = some (r0, M0) → W p l e (m_R 3 68) s m args below meth c H locs 0 0 (MQ below (m_Qz G r0 M0) args s 0 0 (m_A G)) (F0 m 220 ls []) := by
    intro q26 hq26 x1 x2 x3 x4 M H locs ls hP hS hl hres
    unfold f_X8_reads_b220 at hres
    refine lv_aload_n X.1 X.2.1 dX8_reads_220 rfl (lv_at hl 0 rfl) ?_
    refine lv_bipush (v := 10) X.1 X.2.1 dX8_reads_221 (by decide) ?_
    refine lv_aload_n X.1 X.2.1 dX8_reads_223 rfl (lv_at hl 0 rfl) ?_
    refine m_g8 (v := .int (M.1 172 37)) X hSt hP m_z_172 37 (by decide) rfl k_f_X8_277 dX8_reads_224 ?_
    refine lv_imul X.1 X.2.1 dX8_reads_227 ?_
    refine lv_iload X.1 X.2.1 dX8_reads_228 (lv_at hl 4 rfl) ?_
    refine lv_bipush (v := 40) X.1 X.2.1 dX8_reads_230 (by decide) ?_
    refine lv_icmp_ne (tgt := 239) X.1 X.2.1 dX8_reads_232 (by decide) (fun hc31 => ?_) (fun hc31 => ?_)
    · have hres := m_if hres hc31
      refine lv_iconst (v := 1) X.1 X.2.1 dX8_reads_239 (by decide) ?_
      refine lv_iadd X.1 X.2.1 dX8_reads_240 ?_
      obtain ⟨M32, eM32, hres⟩ := m_bd_e hres
      refine m_pi8 X hSt hP hS m_z_172 38 (by decide) eM32 rfl rfl (by decide) k_f_X8_298 dX8_reads_241 (fun H locs hP hS => ?_)
      refine lv_goto (tgt := 478) X.1 X.2.1 dX8_reads_244 (by decide) ?_
      refine lv_goto (tgt := 26) X.1 X.2.1 dX8_reads_478 (by decide) ?_
      exact hq26 x1 x2 x3 M32 _ _ _ hP hS (lv_sub hl [0, 1, 2, 3] rfl) hres
    · have hres := m_it hres hc31
      refine lv_iconst (v := 3) X.1 X.2.1 dX8_reads_235 (by decide) ?_
      refine lv_goto (tgt := 240) X.1 X.2.1 dX8_reads_236 (by decide) ?_
      refine lv_iadd X.1 X.2.1 dX8_reads_240 ?_
      obtain ⟨M33, eM33, hres⟩ := m_bd_e hres
      refine m_pi8 X hSt hP hS m_z_172 38 (by decide) eM33 rfl rfl (by decide) k_f_X8_298 dX8_reads_241 (fun H locs hP hS => ?_)
      refine lv_goto (tgt := 478) X.1 X.2.1 dX8_reads_244 (by decide) ?_
      refine lv_goto (tgt := 26) X.1 X.2.1 dX8_reads_478 (by decide) ?_
      exact hq26 x1 x2 x3 M33 _ _ _ hP hS (lv_sub hl [0, 1, 2, 3] rfl) hres
  have B26 : ∀ (u : Nat) (x1 : Int32) (x2 : Int32) (x3 : Int32) (M : m_M) (H : Heap) (locs : List Loc) (ls : Array Slot), m_P G M H → va_S (m_A G) s.heap H locs → lv_has ls 5 [(0, .ref (m_ad G 172)), (1, .int x1), (2, .int x2), (3, .int x3)] → f_X8_reads_b26 n u x1 x2 x3 M = some (r0, M0) → W p l e (m_R 3 68) s m args below meth c H locs 0 0 (MQ below (m_Qz G r0 M0) args s 0 0 (m_A G)) (F0 m 26 ls []) := by
    intro u
    induction u with
    | zero =>
      intro x1 x2 x3 M H locs ls hP hS hl hres
      cases hres
    | succ u ih =>
      intro x1 x2 x3 M H locs ls hP hS hl hres
      rw [f_X8_reads_b26] at hres
      refine lv_iload_n X.1 X.2.1 dX8_reads_26 rfl (lv_at hl 3 rfl) ?_
      refine lv_if_eq (tgt := 481) X.1 X.2.1 dX8_reads_27 (by decide) (fun hc34 => ?_) (fun hc34 => ?_)
      · have hres := m_it hres hc34
        exact B481 M _ _ _ hP hS (lv_sub hl [0] rfl) hres
      · have hres := m_if hres hc34
        refine lv_aload_n X.1 X.2.1 dX8_reads_30 rfl (lv_at hl 0 rfl) ?_
        refine m_g8 (v := .int (M.1 172 38)) X hSt hP m_z_172 38 (by decide) rfl k_f_X8_298 dX8_reads_31 ?_
        refine lv_iconst (v := (-1)) X.1 X.2.1 dX8_reads_34 (by decide) ?_
        refine lv_icmp_ne (tgt := 481) X.1 X.2.1 dX8_reads_35 (by decide) (fun hc35 => ?_) (fun hc35 => ?_)
        · have hres := m_if hres hc35
          exact B481 M _ _ _ hP hS (lv_sub hl [0] rfl) hres
        · have hres := m_it hres hc35
          refine lv_aload_n X.1 X.2.1 dX8_reads_38 rfl (lv_at hl 0 rfl) ?_
          obtain ⟨r36, M37, err36, hres⟩ := m_o2_e hres
          refine m_bi (m_cV (n := 0) (As := []) (rest := []) X hSt hP hS hl.1 (c_X8_ahead l G  err36) k_c_yX8_ahead k_m_X8_303 k_i_yX8_ahead k_s_yX8_ahead k_n_X8 (by decide +kernel) (m_rc8 hSt hP m_z_172) rfl rfl ⟨Nat.le_of_ble_eq_true rfl, Nat.le_of_ble_eq_true rfl⟩ (Nat.le_of_ble_eq_true rfl) ⟨Nat.zero_le _, Nat.zero_le _⟩ dX8_reads_39) hS (fun H locs hP hS => ?_)
          refine lv_istore (lv' := [(4, .int r36), (0, .ref (m_ad G 172)), (1, .int x1), (2, .int x2), (3, .int x3)]) X.1 X.2.1 dX8_reads_42 hl (by decide) rfl (fun ls hl => ?_)
          refine lv_iload_n X.1 X.2.1 dX8_reads_44 rfl (lv_at hl 3 rfl) ?_
          refine lv_if_eq (tgt := 247) X.1 X.2.1 dX8_reads_45 (by decide) (fun hc38 => ?_) (fun hc38 => ?_)
          · have hres := m_it hres hc38
            refine lv_iload X.1 X.2.1 dX8_reads_247 (lv_at hl 0 rfl) ?_
            refine lv_bipush (v := 41) X.1 X.2.1 dX8_reads_249 (by decide) ?_
            refine lv_icmp_ne (tgt := 312) X.1 X.2.1 dX8_reads_251 (by decide) (fun hc39 => ?_) (fun hc39 => ?_)
            · have hres := m_if hres hc39
              exact B312 (f_X8_reads_b26 n u) ih x1 x2 x3 r36 M37 _ _ _ hP hS (lv_sub hl [1, 2, 3, 4, 0] rfl) hres
            · have hres := m_it hres hc39
              refine lv_iload_n X.1 X.2.1 dX8_reads_254 rfl (lv_at hl 2 rfl) ?_
              refine lv_if_le (tgt := 312) X.1 X.2.1 dX8_reads_255 (by decide) (fun hc40 => ?_) (fun hc40 => ?_)
              · have hres := m_it hres hc40
                exact B312 (f_X8_reads_b26 n u) ih x1 x2 x3 r36 M37 _ _ _ hP hS (lv_sub hl [1, 2, 3, 4, 0] rfl) hres
              · have hres := m_if hres hc40
                refine lv_aload_n X.1 X.2.1 dX8_reads_258 rfl (lv_at hl 1 rfl) ?_
                refine lv_dup X.1 X.2.1 dX8_reads_259 rfl ?_
                refine m_g8 (v := .int (M37.1 172 37)) X hSt hP m_z_172 37 (by decide) rfl k_f_X8_277 dX8_reads_260 ?_
                refine lv_iconst (v := 1) X.1 X.2.1 dX8_reads_263 (by decide) ?_
                refine lv_iadd X.1 X.2.1 dX8_reads_264 ?_
                obtain ⟨M41, eM41, hres⟩ := m_bd_e hres
                refine m_pi8 X hSt hP hS m_z_172 37 (by decide) eM41 rfl rfl (by decide) k_f_X8_277 dX8_reads_265 (fun H locs hP hS => ?_)
                refine lv_iinc (v := (x1 + (-1))) (lv' := [(1, .int (x1 + (-1))), (4, .int r36), (0, .ref (m_ad G 172)), (2, .int x2), (3, .int x3)]) X.1 X.2.1 dX8_reads_268 hl (k := 2) rfl rfl (by decide) rfl (fun ls hl => ?_)
                refine lv_aload_n X.1 X.2.1 dX8_reads_271 rfl (lv_at hl 2 rfl) ?_
                refine lv_iconst (v := 1) X.1 X.2.1 dX8_reads_272 (by decide) ?_
                obtain ⟨M42, eM42, hres⟩ := m_ob_e hres
                refine m_bv (m_cV (n := 1) (As := [.int 1]) (rest := []) X hSt hP hS hl.1 (c_X8_workDown l G  eM42) k_c_yX8_workDown k_m_X8_317 k_i_yX8_workDown k_s_yX8_workDown k_n_X8 (by decide +kernel) (m_rc8 hSt hP m_z_172) rfl rfl ⟨Nat.le_of_ble_eq_true rfl, Nat.le_of_ble_eq_true rfl⟩ (Nat.le_of_ble_eq_true rfl) ⟨Nat.zero_le _, Nat.zero_le _⟩ dX8_reads_273) hS (fun H locs hP hS => ?_)
                refine lv_aload_n X.1 X.2.1 dX8_reads_276 rfl (lv_at hl 2 rfl) ?_
                refine lv_dup X.1 X.2.1 dX8_reads_277 rfl ?_
                refine m_g8 (v := .int (M42.1 172 42)) X hSt hP m_z_172 42 (by decide) rfl k_f_X8_286 dX8_reads_278 ?_
                refine lv_iconst (v := 1) X.1 X.2.1 dX8_reads_281 (by decide) ?_
                refine lv_isub X.1 X.2.1 dX8_reads_282 ?_
                obtain ⟨M43, eM43, hres⟩ := m_bd_e hres
                refine m_pi8 X hSt hP hS m_z_172 42 (by decide) eM43 rfl rfl (by decide) k_f_X8_286 dX8_reads_283 (fun H locs hP hS => ?_)
                refine lv_aload_n X.1 X.2.1 dX8_reads_286 rfl (lv_at hl 2 rfl) ?_
                refine lv_dup X.1 X.2.1 dX8_reads_287 rfl ?_
                refine m_g8 (v := .int (M43.1 172 40)) X hSt hP m_z_172 40 (by decide) rfl k_f_X8_289 dX8_reads_288 ?_
                refine lv_iconst (v := 1) X.1 X.2.1 dX8_reads_291 (by decide) ?_
                refine lv_isub X.1 X.2.1 dX8_reads_292 ?_
                obtain ⟨M44, eM44, hres⟩ := m_bd_e hres
                refine m_pi8 X hSt hP hS m_z_172 40 (by decide) eM44 rfl rfl (by decide) k_f_X8_289 dX8_reads_293 (fun H locs hP hS => ?_)
                refine lv_aload_n X.1 X.2.1 dX8_reads_296 rfl (lv_at hl 2 rfl) ?_
                refine lv_aload_n X.1 X.2.1 dX8_reads_297 rfl (lv_at hl 2 rfl) ?_
                refine m_g8 (v := .ref (m_ad G 192)) X hSt hP m_z_172 39 (by decide) rfl k_f_X8_76 dX8_reads_298 ?_
                refine lv_aload_n X.1 X.2.1 dX8_reads_301 rfl (lv_at hl 2 rfl) ?_
                refine m_g8 (v := .int (M44.1 172 40)) X hSt hP m_z_172 40 (by decide) rfl k_f_X8_289 dX8_reads_302 ?_
                obtain ⟨hg45, hres⟩ := m_gd_e hres
                refine m_la (j := ((M44.1 172 40).toNatClampNeg)) X hSt hP m_z_192 hg45 rfl dX8_reads_305 ?_
                obtain ⟨M46, eM46, hres⟩ := m_ob_e hres
                refine m_bv (m_cV (n := 1) (As := [.long (M44.2 192 ((M44.1 172 40).toNatClampNeg))]) (rest := []) X hSt hP hS hl.1 (c_X8_stands l G  eM46) k_c_yX8_stands k_m_X8_310 k_i_yX8_stands k_s_yX8_stands k_n_X8 (by decide +kernel) (m_rc8 hSt hP m_z_172) rfl rfl ⟨Nat.le_of_ble_eq_true rfl, Nat.le_of_ble_eq_true rfl⟩ (Nat.le_of_ble_eq_true rfl) ⟨Nat.zero_le _, Nat.zero_le _⟩ dX8_reads_306) hS (fun H locs hP hS => ?_)
                refine lv_goto (tgt := 478) X.1 X.2.1 dX8_reads_309 (by decide) ?_
                refine lv_goto (tgt := 26) X.1 X.2.1 dX8_reads_478 (by decide) ?_
                exact ih (x1 + (-1)) x2 x3 M46 _ _ _ hP hS (lv_sub hl [2, 0, 3, 4] rfl) hres
          · have hres := m_if hres hc38
            refine lv_iload X.1 X.2.1 dX8_reads_48 (lv_at hl 0 rfl) ?_
            obtain ⟨r47, err47, hres⟩ := m_bd_e hres
            refine m_bz (m_cS (n := 1) (As := [.int r36]) (rest := []) X hSt hP hS hl.1 (c_X8_isFigure l G (M := M37)  err47) k_c_yX8_isFigure k_m_X8_224 k_t_yX8_isFigure k_n_X8 (by decide +kernel) rfl rfl ⟨Nat.le_of_ble_eq_true rfl, Nat.le_of_ble_eq_true rfl⟩ (Nat.le_of_ble_eq_true rfl) ⟨Nat.zero_le _, Nat.zero_le _⟩ dX8_reads_50) hS (fun H locs hP hS hz48 => ?_)
            refine lv_if_eq (tgt := 69) X.1 X.2.1 dX8_reads_53 (by decide) (fun hc49 => ?_) (fun hc49 => ?_)
            · have hres := m_it hres hc49
              refine lv_iload X.1 X.2.1 dX8_reads_69 (lv_at hl 0 rfl) ?_
              obtain ⟨r50, err50, hres⟩ := m_bd_e hres
              refine m_bi (m_cS (n := 1) (As := [.int r36]) (rest := []) X hSt hP hS hl.1 (c_X8_nameOf l G (M := M37)  err50) k_c_yX8_nameOf k_m_X8_314 k_t_yX8_nameOf k_n_X8 (by decide +kernel) rfl rfl ⟨Nat.le_of_ble_eq_true rfl, Nat.le_of_ble_eq_true rfl⟩ (Nat.le_of_ble_eq_true rfl) ⟨Nat.zero_le _, Nat.zero_le _⟩ dX8_reads_71) hS (fun H locs hP hS => ?_)
              refine lv_iconst (v := (-1)) X.1 X.2.1 dX8_reads_74 (by decide) ?_
              refine lv_icmp_eq (tgt := 107) X.1 X.2.1 dX8_reads_75 (by decide) (fun hc51 => ?_) (fun hc51 => ?_)
              · have hres := m_it hres hc51
                refine lv_iload X.1 X.2.1 dX8_reads_107 (lv_at hl 0 rfl) ?_
                refine lv_bipush (v := 33) X.1 X.2.1 dX8_reads_109 (by decide) ?_
                refine lv_icmp_eq (tgt := 121) X.1 X.2.1 dX8_reads_111 (by decide) (fun hc52 => ?_) (fun hc52 => ?_)
                · have hres := m_it hres hc52
                  exact B121 (f_X8_reads_b26 n u) ih x1 x2 x3 r36 M37 _ _ _ hP hS (lv_sub hl [1, 2, 3, 4, 0] rfl) hres
                · have hres := m_if hres hc52
                  refine lv_iload X.1 X.2.1 dX8_reads_114 (lv_at hl 0 rfl) ?_
                  refine lv_bipush (v := 45) X.1 X.2.1 dX8_reads_116 (by decide) ?_
                  refine lv_icmp_ne (tgt := 169) X.1 X.2.1 dX8_reads_118 (by decide) (fun hc53 => ?_) (fun hc53 => ?_)
                  · have hres := m_if hres hc53
                    refine lv_iload X.1 X.2.1 dX8_reads_169 (lv_at hl 0 rfl) ?_
                    refine lv_bipush (v := 40) X.1 X.2.1 dX8_reads_171 (by decide) ?_
                    refine lv_icmp_ne (tgt := 220) X.1 X.2.1 dX8_reads_173 (by decide) (fun hc54 => ?_) (fun hc54 => ?_)
                    · have hres := m_if hres hc54
                      exact B220 (f_X8_reads_b26 n u) ih x1 x2 x3 r36 M37 _ _ _ hP hS (lv_sub hl [1, 2, 3, 4, 0] rfl) hres
                    · have hres := m_it hres hc54
                      refine lv_iload_n X.1 X.2.1 dX8_reads_176 rfl (lv_at hl 2 rfl) ?_
                      refine lv_bipush (v := 8) X.1 X.2.1 dX8_reads_177 (by decide) ?_
                      refine lv_icmp_ge (tgt := 220) X.1 X.2.1 dX8_reads_179 (by decide) (fun hc55 => ?_) (fun hc55 => ?_)
                      · have hres := m_it hres hc55
                        exact B220 (f_X8_reads_b26 n u) ih x1 x2 x3 r36 M37 _ _ _ hP hS (lv_sub hl [1, 2, 3, 4, 0] rfl) hres
                      · have hres := m_if hres hc55
                        refine lv_aload_n X.1 X.2.1 dX8_reads_182 rfl (lv_at hl 1 rfl) ?_
                        refine lv_dup X.1 X.2.1 dX8_reads_183 rfl ?_
                        refine m_g8 (v := .int (M37.1 172 37)) X hSt hP m_z_172 37 (by decide) rfl k_f_X8_277 dX8_reads_184 ?_
                        refine lv_iconst (v := 1) X.1 X.2.1 dX8_reads_187 (by decide) ?_
                        refine lv_iadd X.1 X.2.1 dX8_reads_188 ?_
                        obtain ⟨M56, eM56, hres⟩ := m_bd_e hres
                        refine m_pi8 X hSt hP hS m_z_172 37 (by decide) eM56 rfl rfl (by decide) k_f_X8_277 dX8_reads_189 (fun H locs hP hS => ?_)
                        refine lv_iinc (v := (x1 + 1)) (lv' := [(1, .int (x1 + 1)), (4, .int r36), (0, .ref (m_ad G 172)), (2, .int x2), (3, .int x3)]) X.1 X.2.1 dX8_reads_192 hl (k := 2) rfl rfl (by decide) rfl (fun ls hl => ?_)
                        refine lv_aload_n X.1 X.2.1 dX8_reads_195 rfl (lv_at hl 2 rfl) ?_
                        refine m_g8 (v := .ref (m_ad G 193)) X hSt hP m_z_172 41 (by decide) rfl k_f_X8_80 dX8_reads_196 ?_
                        refine lv_aload_n X.1 X.2.1 dX8_reads_199 rfl (lv_at hl 2 rfl) ?_
                        refine m_g8 (v := .int (M56.1 172 42)) X hSt hP m_z_172 42 (by decide) rfl k_f_X8_286 dX8_reads_200 ?_
                        refine lv_sipush (v := 1000) X.1 X.2.1 dX8_reads_203 (by decide) ?_
                        obtain ⟨hg57, hres⟩ := m_gd_e hres
                        obtain ⟨M58, eM58, hres⟩ := m_bd_e hres
                        refine m_is (j := ((M56.1 172 42).toNatClampNeg)) X hSt hP hS m_z_193 hg57 rfl dX8_reads_206 eM58 (fun H locs hP hS => ?_)
                        refine lv_aload_n X.1 X.2.1 dX8_reads_207 rfl (lv_at hl 2 rfl) ?_
                        refine lv_dup X.1 X.2.1 dX8_reads_208 rfl ?_
                        refine m_g8 (v := .int (M58.1 172 42)) X hSt hP m_z_172 42 (by decide) rfl k_f_X8_286 dX8_reads_209 ?_
                        refine lv_iconst (v := 1) X.1 X.2.1 dX8_reads_212 (by decide) ?_
                        refine lv_iadd X.1 X.2.1 dX8_reads_213 ?_
                        obtain ⟨M59, eM59, hres⟩ := m_bd_e hres
                        refine m_pi8 X hSt hP hS m_z_172 42 (by decide) eM59 rfl rfl (by decide) k_f_X8_286 dX8_reads_214 (fun H locs hP hS => ?_)
                        refine lv_goto (tgt := 478) X.1 X.2.1 dX8_reads_217 (by decide) ?_
                        refine lv_goto (tgt := 26) X.1 X.2.1 dX8_reads_478 (by decide) ?_
                        exact ih (x1 + 1) x2 x3 M59 _ _ _ hP hS (lv_sub hl [2, 0, 3, 4] rfl) hres
                  · have hres := m_it hres hc53
                    exact B121 (f_X8_reads_b26 n u) ih x1 x2 x3 r36 M37 _ _ _ hP hS (lv_sub hl [1, 2, 3, 4, 0] rfl) hres
              · have hres := m_if hres hc51
                refine lv_aload_n X.1 X.2.1 dX8_reads_78 rfl (lv_at hl 1 rfl) ?_
                refine lv_dup X.1 X.2.1 dX8_reads_79 rfl ?_
                refine m_g8 (v := .int (M37.1 172 37)) X hSt hP m_z_172 37 (by decide) rfl k_f_X8_277 dX8_reads_80 ?_
                refine lv_iconst (v := 1) X.1 X.2.1 dX8_reads_83 (by decide) ?_
                refine lv_iadd X.1 X.2.1 dX8_reads_84 ?_
                obtain ⟨M60, eM60, hres⟩ := m_bd_e hres
                refine m_pi8 X hSt hP hS m_z_172 37 (by decide) eM60 rfl rfl (by decide) k_f_X8_277 dX8_reads_85 (fun H locs hP hS => ?_)
                refine lv_aload_n X.1 X.2.1 dX8_reads_88 rfl (lv_at hl 1 rfl) ?_
                refine lv_aload_n X.1 X.2.1 dX8_reads_89 rfl (lv_at hl 1 rfl) ?_
                refine m_g8 (v := .ref (m_ad G 194)) X hSt hP m_z_172 43 (by decide) rfl k_f_X8_83 dX8_reads_90 ?_
                refine lv_iload X.1 X.2.1 dX8_reads_93 (lv_at hl 0 rfl) ?_
                obtain ⟨r61, err61, hres⟩ := m_bd_e hres
                refine m_bi (m_cS (n := 1) (As := [.int r36]) (rest := [.ref (m_ad G 194), .ref (m_ad G 172)]) X hSt hP hS hl.1 (c_X8_nameOf l G (M := M60)  err61) k_c_yX8_nameOf k_m_X8_314 k_t_yX8_nameOf k_n_X8 (by decide +kernel) rfl rfl ⟨Nat.le_of_ble_eq_true rfl, Nat.le_of_ble_eq_true rfl⟩ (Nat.le_of_ble_eq_true rfl) ⟨Nat.zero_le _, Nat.zero_le _⟩ dX8_reads_95) hS (fun H locs hP hS => ?_)
                obtain ⟨hg62, hres⟩ := m_gd_e hres
                refine m_la (j := r61.toNatClampNeg) X hSt hP m_z_194 hg62 rfl dX8_reads_98 ?_
                obtain ⟨M63, eM63, hres⟩ := m_ob_e hres
                refine m_bv (m_cV (n := 1) (As := [.long (M60.2 194 r61.toNatClampNeg)]) (rest := []) X hSt hP hS hl.1 (c_X8_stands l G  eM63) k_c_yX8_stands k_m_X8_310 k_i_yX8_stands k_s_yX8_stands k_n_X8 (by decide +kernel) (m_rc8 hSt hP m_z_172) rfl rfl ⟨Nat.le_of_ble_eq_true rfl, Nat.le_of_ble_eq_true rfl⟩ (Nat.le_of_ble_eq_true rfl) ⟨Nat.zero_le _, Nat.zero_le _⟩ dX8_reads_99) hS (fun H locs hP hS => ?_)
                refine lv_iconst (v := 0) X.1 X.2.1 dX8_reads_102 (by decide) ?_
                refine lv_istore_n (lv' := [(2, .int 0), (4, .int r36), (0, .ref (m_ad G 172)), (1, .int x1), (3, .int x3)]) X.1 X.2.1 dX8_reads_103 rfl hl (by decide) rfl (fun ls hl => ?_)
                refine lv_goto (tgt := 478) X.1 X.2.1 dX8_reads_104 (by decide) ?_
                refine lv_goto (tgt := 26) X.1 X.2.1 dX8_reads_478 (by decide) ?_
                exact ih x1 0 x3 M63 _ _ _ hP hS (lv_sub hl [2, 3, 0, 4] rfl) hres
            · have hres := m_if hres hc49
              refine lv_aload_n X.1 X.2.1 dX8_reads_56 rfl (lv_at hl 1 rfl) ?_
              refine lv_aload_n X.1 X.2.1 dX8_reads_57 rfl (lv_at hl 1 rfl) ?_
              obtain ⟨r64, M65, err64, hres⟩ := m_o2_e hres
              refine m_bl (m_cV (n := 0) (As := []) (rest := [.ref (m_ad G 172)]) X hSt hP hS hl.1 (c_X8_digits l G  err64) k_c_yX8_digits k_m_X8_306 k_i_yX8_digits k_s_yX8_digits k_n_X8 (by decide +kernel) (m_rc8 hSt hP m_z_172) rfl rfl ⟨Nat.le_of_ble_eq_true rfl, Nat.le_of_ble_eq_true rfl⟩ (Nat.le_of_ble_eq_true rfl) ⟨Nat.zero_le _, Nat.zero_le _⟩ dX8_reads_58) hS (fun H locs hP hS => ?_)
              obtain ⟨M66, eM66, hres⟩ := m_ob_e hres
              refine m_bv (m_cV (n := 1) (As := [.long r64]) (rest := []) X hSt hP hS hl.1 (c_X8_stands l G  eM66) k_c_yX8_stands k_m_X8_310 k_i_yX8_stands k_s_yX8_stands k_n_X8 (by decide +kernel) (m_rc8 hSt hP m_z_172) rfl rfl ⟨Nat.le_of_ble_eq_true rfl, Nat.le_of_ble_eq_true rfl⟩ (Nat.le_of_ble_eq_true rfl) ⟨Nat.zero_le _, Nat.zero_le _⟩ dX8_reads_61) hS (fun H locs hP hS => ?_)
              refine lv_iconst (v := 0) X.1 X.2.1 dX8_reads_64 (by decide) ?_
              refine lv_istore_n (lv' := [(2, .int 0), (4, .int r36), (0, .ref (m_ad G 172)), (1, .int x1), (3, .int x3)]) X.1 X.2.1 dX8_reads_65 rfl hl (by decide) rfl (fun ls hl => ?_)
              refine lv_goto (tgt := 478) X.1 X.2.1 dX8_reads_66 (by decide) ?_
              refine lv_goto (tgt := 26) X.1 X.2.1 dX8_reads_478 (by decide) ?_
              exact ih x1 0 x3 M66 _ _ _ hP hS (lv_sub hl [2, 3, 0, 4] rfl) hres
  unfold f_X8_reads at hres
  refine lv_aload_n X.1 X.2.1 dX8_reads_0 rfl (lv_at hl 0 rfl) ?_
  refine lv_iconst (v := 0) X.1 X.2.1 dX8_reads_1 (by decide) ?_
  obtain ⟨M67, eM67, hres⟩ := m_bd_e hres
  refine m_pi8 X hSt hP hS m_z_172 37 (by decide) eM67 rfl rfl (by decide) k_f_X8_277 dX8_reads_2 (fun H locs hP hS => ?_)
  refine lv_aload_n X.1 X.2.1 dX8_reads_5 rfl (lv_at hl 0 rfl) ?_
  refine lv_iconst (v := (-1)) X.1 X.2.1 dX8_reads_6 (by decide) ?_
  obtain ⟨M68, eM68, hres⟩ := m_bd_e hres
  refine m_pi8 X hSt hP hS m_z_172 38 (by decide) eM68 rfl rfl (by decide) k_f_X8_298 dX8_reads_7 (fun H locs hP hS => ?_)
  refine lv_aload_n X.1 X.2.1 dX8_reads_10 rfl (lv_at hl 0 rfl) ?_
  refine lv_iconst (v := 0) X.1 X.2.1 dX8_reads_11 (by decide) ?_
  obtain ⟨M69, eM69, hres⟩ := m_bd_e hres
  refine m_pi8 X hSt hP hS m_z_172 40 (by decide) eM69 rfl rfl (by decide) k_f_X8_289 dX8_reads_12 (fun H locs hP hS => ?_)
  refine lv_aload_n X.1 X.2.1 dX8_reads_15 rfl (lv_at hl 0 rfl) ?_
  refine lv_iconst (v := 0) X.1 X.2.1 dX8_reads_16 (by decide) ?_
  obtain ⟨M70, eM70, hres⟩ := m_bd_e hres
  refine m_pi8 X hSt hP hS m_z_172 42 (by decide) eM70 rfl rfl (by decide) k_f_X8_286 dX8_reads_17 (fun H locs hP hS => ?_)
  refine lv_iconst (v := 0) X.1 X.2.1 dX8_reads_20 (by decide) ?_
  refine lv_istore_n (lv' := [(1, .int 0), (0, .ref (m_ad G 172))]) X.1 X.2.1 dX8_reads_21 rfl hl (by decide) rfl (fun ls hl => ?_)
  refine lv_iconst (v := 1) X.1 X.2.1 dX8_reads_22 (by decide) ?_
  refine lv_istore_n (lv' := [(2, .int 1), (1, .int 0), (0, .ref (m_ad G 172))]) X.1 X.2.1 dX8_reads_23 rfl hl (by decide) rfl (fun ls hl => ?_)
  refine lv_iconst (v := 1) X.1 X.2.1 dX8_reads_24 (by decide) ?_
  refine lv_istore_n (lv' := [(3, .int 1), (2, .int 1), (1, .int 0), (0, .ref (m_ad G 172))]) X.1 X.2.1 dX8_reads_25 rfl hl (by decide) rfl (fun ls hl => ?_)
  exact B26 n 0 1 1 M70 _ _ _ hP hS (lv_sub hl [3, 2, 1, 0] rfl) hres
theorem dX8_netOf_0 : decode cX8_netOf 0 = .ok (.aload_n 0, 1) := by decide +kernel
theorem dX8_netOf_1 : decode cX8_netOf 1 = .ok (.getfield 83, 3) := by decide +kernel
theorem dX8_netOf_4 : decode cX8_netOf 4 = .ok (.iconst 0, 1) := by decide +kernel
theorem dX8_netOf_5 : decode cX8_netOf 5 = .ok (.aload_n 0, 1) := by decide +kernel
theorem dX8_netOf_6 : decode cX8_netOf 6 = .ok (.iload_n 1, 1) := by decide +kernel
theorem dX8_netOf_7 : decode cX8_netOf 7 = .ok (.invokevirtual 326, 3) := by decide +kernel
theorem dX8_netOf_10 : decode cX8_netOf 10 = .ok (.iload_n 3, 1) := by decide +kernel
theorem dX8_netOf_11 : decode cX8_netOf 11 = .ok (.iadd, 1) := by decide +kernel
theorem dX8_netOf_12 : decode cX8_netOf 12 = .ok (.i2l, 1) := by decide +kernel
theorem dX8_netOf_13 : decode cX8_netOf 13 = .ok (.lastore, 1) := by decide +kernel
theorem dX8_netOf_14 : decode cX8_netOf 14 = .ok (.aload_n 0, 1) := by decide +kernel
theorem dX8_netOf_15 : decode cX8_netOf 15 = .ok (.getfield 83, 3) := by decide +kernel
theorem dX8_netOf_18 : decode cX8_netOf 18 = .ok (.iconst 1, 1) := by decide +kernel
theorem dX8_netOf_19 : decode cX8_netOf 19 = .ok (.aload_n 0, 1) := by decide +kernel
theorem dX8_netOf_20 : decode cX8_netOf 20 = .ok (.iload_n 1, 1) := by decide +kernel
theorem dX8_netOf_21 : decode cX8_netOf 21 = .ok (.invokevirtual 329, 3) := by decide +kernel
theorem dX8_netOf_24 : decode cX8_netOf 24 = .ok (.i2l, 1) := by decide +kernel
theorem dX8_netOf_25 : decode cX8_netOf 25 = .ok (.lastore, 1) := by decide +kernel
theorem dX8_netOf_26 : decode cX8_netOf 26 = .ok (.aload_n 0, 1) := by decide +kernel
theorem dX8_netOf_27 : decode cX8_netOf 27 = .ok (.getfield 83, 3) := by decide +kernel
theorem dX8_netOf_30 : decode cX8_netOf 30 = .ok (.iconst 2, 1) := by decide +kernel
theorem dX8_netOf_31 : decode cX8_netOf 31 = .ok (.aload_n 0, 1) := by decide +kernel
theorem dX8_netOf_32 : decode cX8_netOf 32 = .ok (.iload_n 1, 1) := by decide +kernel
theorem dX8_netOf_33 : decode cX8_netOf 33 = .ok (.iconst 0, 1) := by decide +kernel
theorem dX8_netOf_34 : decode cX8_netOf 34 = .ok (.invokevirtual 332, 3) := by decide +kernel
theorem dX8_netOf_37 : decode cX8_netOf 37 = .ok (.i2l, 1) := by decide +kernel
theorem dX8_netOf_38 : decode cX8_netOf 38 = .ok (.lastore, 1) := by decide +kernel
theorem dX8_netOf_39 : decode cX8_netOf 39 = .ok (.aload_n 0, 1) := by decide +kernel
theorem dX8_netOf_40 : decode cX8_netOf 40 = .ok (.getfield 83, 3) := by decide +kernel
theorem dX8_netOf_43 : decode cX8_netOf 43 = .ok (.iconst 3, 1) := by decide +kernel
theorem dX8_netOf_44 : decode cX8_netOf 44 = .ok (.aload_n 0, 1) := by decide +kernel
theorem dX8_netOf_45 : decode cX8_netOf 45 = .ok (.iload_n 1, 1) := by decide +kernel
theorem dX8_netOf_46 : decode cX8_netOf 46 = .ok (.iconst 1, 1) := by decide +kernel
theorem dX8_netOf_47 : decode cX8_netOf 47 = .ok (.invokevirtual 332, 3) := by decide +kernel
theorem dX8_netOf_50 : decode cX8_netOf 50 = .ok (.i2l, 1) := by decide +kernel
theorem dX8_netOf_51 : decode cX8_netOf 51 = .ok (.lastore, 1) := by decide +kernel
theorem dX8_netOf_52 : decode cX8_netOf 52 = .ok (.aload_n 0, 1) := by decide +kernel
theorem dX8_netOf_53 : decode cX8_netOf 53 = .ok (.getfield 83, 3) := by decide +kernel
theorem dX8_netOf_56 : decode cX8_netOf 56 = .ok (.iconst 4, 1) := by decide +kernel
theorem dX8_netOf_57 : decode cX8_netOf 57 = .ok (.iload 4, 2) := by decide +kernel
theorem dX8_netOf_59 : decode cX8_netOf 59 = .ok (.i2l, 1) := by decide +kernel
theorem dX8_netOf_60 : decode cX8_netOf 60 = .ok (.lastore, 1) := by decide +kernel
theorem dX8_netOf_61 : decode cX8_netOf 61 = .ok (.aload_n 0, 1) := by decide +kernel
theorem dX8_netOf_62 : decode cX8_netOf 62 = .ok (.iload_n 2, 1) := by decide +kernel
theorem dX8_netOf_63 : decode cX8_netOf 63 = .ok (.putfield 274, 3) := by decide +kernel
theorem dX8_netOf_66 : decode cX8_netOf 66 = .ok (.aload_n 0, 1) := by decide +kernel
theorem dX8_netOf_67 : decode cX8_netOf 67 = .ok (.invokevirtual 323, 3) := by decide +kernel
theorem dX8_netOf_70 : decode cX8_netOf 70 = .ok (.ifCond .eq 10, 3) := by decide +kernel
theorem dX8_netOf_73 : decode cX8_netOf 73 = .ok (.aload_n 0, 1) := by decide +kernel
theorem dX8_netOf_74 : decode cX8_netOf 74 = .ok (.getfield 320, 3) := by decide +kernel
theorem dX8_netOf_77 : decode cX8_netOf 77 = .ok (.goto 37, 3) := by decide +kernel
theorem dX8_netOf_80 : decode cX8_netOf 80 = .ok (.aload_n 0, 1) := by decide +kernel
theorem dX8_netOf_81 : decode cX8_netOf 81 = .ok (.getfield 83, 3) := by decide +kernel
theorem dX8_netOf_84 : decode cX8_netOf 84 = .ok (.iconst 0, 1) := by decide +kernel
theorem dX8_netOf_85 : decode cX8_netOf 85 = .ok (.laload, 1) := by decide +kernel
theorem dX8_netOf_86 : decode cX8_netOf 86 = .ok (.aload_n 0, 1) := by decide +kernel
theorem dX8_netOf_87 : decode cX8_netOf 87 = .ok (.getfield 83, 3) := by decide +kernel
theorem dX8_netOf_90 : decode cX8_netOf 90 = .ok (.iconst 1, 1) := by decide +kernel
theorem dX8_netOf_91 : decode cX8_netOf 91 = .ok (.laload, 1) := by decide +kernel
theorem dX8_netOf_92 : decode cX8_netOf 92 = .ok (.ladd, 1) := by decide +kernel
theorem dX8_netOf_93 : decode cX8_netOf 93 = .ok (.aload_n 0, 1) := by decide +kernel
theorem dX8_netOf_94 : decode cX8_netOf 94 = .ok (.getfield 83, 3) := by decide +kernel
theorem dX8_netOf_97 : decode cX8_netOf 97 = .ok (.iconst 2, 1) := by decide +kernel
theorem dX8_netOf_98 : decode cX8_netOf 98 = .ok (.laload, 1) := by decide +kernel
theorem dX8_netOf_99 : decode cX8_netOf 99 = .ok (.lsub, 1) := by decide +kernel
theorem dX8_netOf_100 : decode cX8_netOf 100 = .ok (.aload_n 0, 1) := by decide +kernel
theorem dX8_netOf_101 : decode cX8_netOf 101 = .ok (.getfield 83, 3) := by decide +kernel
theorem dX8_netOf_104 : decode cX8_netOf 104 = .ok (.iconst 3, 1) := by decide +kernel
theorem dX8_netOf_105 : decode cX8_netOf 105 = .ok (.laload, 1) := by decide +kernel
theorem dX8_netOf_106 : decode cX8_netOf 106 = .ok (.lsub, 1) := by decide +kernel
theorem dX8_netOf_107 : decode cX8_netOf 107 = .ok (.aload_n 0, 1) := by decide +kernel
theorem dX8_netOf_108 : decode cX8_netOf 108 = .ok (.getfield 83, 3) := by decide +kernel
theorem dX8_netOf_111 : decode cX8_netOf 111 = .ok (.iconst 4, 1) := by decide +kernel
theorem dX8_netOf_112 : decode cX8_netOf 112 = .ok (.laload, 1) := by decide +kernel
theorem dX8_netOf_113 : decode cX8_netOf 113 = .ok (.ladd, 1) := by decide +kernel
theorem dX8_netOf_114 : decode cX8_netOf 114 = .ok (.lstore 5, 2) := by decide +kernel
theorem dX8_netOf_116 : decode cX8_netOf 116 = .ok (.lload 5, 2) := by decide +kernel
theorem dX8_netOf_118 : decode cX8_netOf 118 = .ok (.lconst 0, 1) := by decide +kernel
theorem dX8_netOf_119 : decode cX8_netOf 119 = .ok (.lcmp, 1) := by decide +kernel
theorem dX8_netOf_120 : decode cX8_netOf 120 = .ok (.ifCond .ge 7, 3) := by decide +kernel
theorem dX8_netOf_123 : decode cX8_netOf 123 = .ok (.lconst 0, 1) := by decide +kernel
theorem dX8_netOf_124 : decode cX8_netOf 124 = .ok (.goto 20, 3) := by decide +kernel
theorem dX8_netOf_127 : decode cX8_netOf 127 = .ok (.lload 5, 2) := by decide +kernel
theorem dX8_netOf_129 : decode cX8_netOf 129 = .ok (.ldc2_w 335, 3) := by decide +kernel
theorem dX8_netOf_132 : decode cX8_netOf 132 = .ok (.lcmp, 1) := by decide +kernel
theorem dX8_netOf_133 : decode cX8_netOf 133 = .ok (.ifCond .le 9, 3) := by decide +kernel
theorem dX8_netOf_136 : decode cX8_netOf 136 = .ok (.ldc2_w 335, 3) := by decide +kernel
theorem dX8_netOf_139 : decode cX8_netOf 139 = .ok (.goto 5, 3) := by decide +kernel
theorem dX8_netOf_142 : decode cX8_netOf 142 = .ok (.lload 5, 2) := by decide +kernel
theorem dX8_netOf_144 : decode cX8_netOf 144 = .ok (.l2i, 1) := by decide +kernel
theorem dX8_netOf_145 : decode cX8_netOf 145 = .ok (.ireturn, 1) := by decide +kernel
def f_X8_netOf_b114 (n : Nat) (x1 : Int32) (x2 : Int32) (x3 : Int32) (x4 : Int32) (s0 : Int64) (M : m_M) : Option (Int32 × m_M) :=
  if (0 : Int64) ≤ s0 then
  if s0 ≤ 1000000 then
  some (s0.toInt32, M)
  else
  some (1000000, M)
  else
  some (0, M)
def f_X8_netOf (n : Nat) (x1 : Int32) (x2 : Int32) (x3 : Int32) (x4 : Int32) (M : m_M) : Option (Int32 × m_M) :=
  m_ob (f_X8_inAll x1 M) fun r3 =>
  m_bd (m_sL M 194 0 ((r3 + x3).toInt64)) fun M4 =>
  m_ob (f_X8_secondOf n x1 M4) fun r5 =>
  m_bd (m_sL M4 194 1 r5.toInt64) fun M6 =>
  m_ob (f_X8_ownOf n x1 0 M6) fun r7 =>
  m_bd (m_sL M6 194 2 r7.toInt64) fun M8 =>
  m_ob (f_X8_ownOf n x1 1 M8) fun r9 =>
  m_bd (m_sL M8 194 3 r9.toInt64) fun M10 =>
  m_bd (m_sL M10 194 4 x4.toInt64) fun M11 =>
  m_bd (m_sI M11 172 36 x2) fun M12 =>
  m_o2 (f_X8_reads n M12) fun r13 M14 =>
  if r13 = 0 then
  f_X8_netOf_b114 n x1 x2 x3 x4 (((((M14.2 194 0) + (M14.2 194 1)) - (M14.2 194 2)) - (M14.2 194 3)) + (M14.2 194 4)) M14
  else
  f_X8_netOf_b114 n x1 x2 x3 x4 (M14.2 172 44) M14
set_option maxHeartbeats 4000000 in
set_option maxRecDepth 100000 in
theorem c_X8_netOf (l : Launch) (G : m_G) {n : Nat} {x1 : Int32} {x2 : Int32} {x3 : Int32} {x4 : Int32} {M : m_M} {r0 : Int32} {M0 : m_M}  (hres : f_X8_netOf n x1 x2 x3 x4 M = some (r0, M0)) : Met l yX8_netOf (m_U yX8_netOf cX8_netOf 7 (some .int)) (m_R 4 92) (m_Pc G [.ref (m_ad G 172), .int x1, .int x2, .int x3, .int x4] M) (m_Qi G r0 M0) 0 0 (m_A G) := by
  refine m_i0 (n := 7) RX8 rfl (by decide) (Nat.le_of_ble_eq_true rfl) ?_
  intro p e s m args below meth c X hr hlk hSt hP hS ls hl
  have hl : lv_has ls 7 [(0, .ref (m_ad G 172)), (1, .int x1), (2, .int x2), (3, .int x3), (4, .int x4)] := hl
  have B114 : ∀  (s0 : Int64) (M : m_M) (H : Heap) (locs : List Loc) (ls : Array Slot), m_P G M H → va_S (m_A G) s.heap H locs → lv_has ls 7 [] → f_X8_netOf_b114 n x1 x2 x3 x4 s0 M = some (r0, M0) → W p l e (m_R 4 92) s m args below meth c H locs 0 0 (MQ below (m_Qi G r0 M0) args s 0 0 (m_A G)) (F0 m 114 ls [.long s0]) := by
    intro s0 M H locs ls hP hS hl hres
    unfold f_X8_netOf_b114 at hres
    refine lv_lstore (lv' := [(5, .long s0)]) X.1 X.2.1 dX8_netOf_114 hl (by decide) rfl (fun ls hl => ?_)
    refine lv_lload X.1 X.2.1 dX8_netOf_116 (lv_at hl 0 rfl) ?_
    refine lv_lconst (v := 0) X.1 X.2.1 dX8_netOf_118 (by decide) ?_
    refine m_lge (tgt := 127) X dX8_netOf_119 dX8_netOf_120 (by decide) (fun hc1 => ?_) (fun hc1 => ?_)
    · have hres := m_it hres hc1
      refine lv_lload X.1 X.2.1 dX8_netOf_127 (lv_at hl 0 rfl) ?_
      refine lv_ldc2 (v := 1000000) X.1 X.2.1 X.2.2.2.1 (X.2.2.2.2 _ k_l_X8_335) dX8_netOf_129 ?_
      refine m_lle (tgt := 142) X dX8_netOf_132 dX8_netOf_133 (by decide) (fun hc2 => ?_) (fun hc2 => ?_)
      · have hres := m_it hres hc2
        refine lv_lload X.1 X.2.1 dX8_netOf_142 (lv_at hl 0 rfl) ?_
        refine lv_l2i (v := s0.toInt32) X.1 X.2.1 dX8_netOf_144 rfl ?_
        exact m_ri X hr hlk hP hS (Prod.mk.inj (Option.some.inj hres)).1 (Prod.mk.inj (Option.some.inj hres)).2 dX8_netOf_145
      · have hres := m_if hres hc2
        refine lv_ldc2 (v := 1000000) X.1 X.2.1 X.2.2.2.1 (X.2.2.2.2 _ k_l_X8_335) dX8_netOf_136 ?_
        refine lv_goto (tgt := 144) X.1 X.2.1 dX8_netOf_139 (by decide) ?_
        refine lv_l2i (v := 1000000) X.1 X.2.1 dX8_netOf_144 (by decide) ?_
        exact m_ri X hr hlk hP hS (Prod.mk.inj (Option.some.inj hres)).1 (Prod.mk.inj (Option.some.inj hres)).2 dX8_netOf_145
    · have hres := m_if hres hc1
      refine lv_lconst (v := 0) X.1 X.2.1 dX8_netOf_123 (by decide) ?_
      refine lv_goto (tgt := 144) X.1 X.2.1 dX8_netOf_124 (by decide) ?_
      refine lv_l2i (v := 0) X.1 X.2.1 dX8_netOf_144 (by decide) ?_
      exact m_ri X hr hlk hP hS (Prod.mk.inj (Option.some.inj hres)).1 (Prod.mk.inj (Option.some.inj hres)).2 dX8_netOf_145
  unfold f_X8_netOf at hres
  refine lv_aload_n X.1 X.2.1 dX8_netOf_0 rfl (lv_at hl 0 rfl) ?_
  refine m_g8 (v := .ref (m_ad G 194)) X hSt hP m_z_172 43 (by decide) rfl k_f_X8_83 dX8_netOf_1 ?_
  refine lv_iconst (v := 0) X.1 X.2.1 dX8_netOf_4 (by decide) ?_
  refine lv_aload_n X.1 X.2.1 dX8_netOf_5 rfl (lv_at hl 0 rfl) ?_
  refine lv_iload_n X.1 X.2.1 dX8_netOf_6 rfl (lv_at hl 1 rfl) ?_
  obtain ⟨r3, err3, hres⟩ := m_ob_e hres
  refine m_bi (m_cV (n := 1) (As := [.int x1]) (rest := [.int 0, .ref (m_ad G 194)]) X hSt hP hS hl.1 (c_X8_inAll l G  err3) k_c_yX8_inAll k_m_X8_326 k_i_yX8_inAll k_s_yX8_inAll k_n_X8 (by decide +kernel) (m_rc8 hSt hP m_z_172) rfl rfl ⟨Nat.le_of_ble_eq_true rfl, Nat.le_of_ble_eq_true rfl⟩ (Nat.le_of_ble_eq_true rfl) ⟨Nat.zero_le _, Nat.zero_le _⟩ dX8_netOf_7) hS (fun H locs hP hS => ?_)
  refine lv_iload_n X.1 X.2.1 dX8_netOf_10 rfl (lv_at hl 3 rfl) ?_
  refine lv_iadd X.1 X.2.1 dX8_netOf_11 ?_
  refine lv_i2l (v := (r3 + x3).toInt64) X.1 X.2.1 dX8_netOf_12 rfl ?_
  obtain ⟨M4, eM4, hres⟩ := m_bd_e hres
  refine m_ls (j := 0) X hSt hP hS m_z_194 (by decide +kernel) (by decide +kernel) dX8_netOf_13 eM4 (fun H locs hP hS => ?_)
  refine lv_aload_n X.1 X.2.1 dX8_netOf_14 rfl (lv_at hl 0 rfl) ?_
  refine m_g8 (v := .ref (m_ad G 194)) X hSt hP m_z_172 43 (by decide) rfl k_f_X8_83 dX8_netOf_15 ?_
  refine lv_iconst (v := 1) X.1 X.2.1 dX8_netOf_18 (by decide) ?_
  refine lv_aload_n X.1 X.2.1 dX8_netOf_19 rfl (lv_at hl 0 rfl) ?_
  refine lv_iload_n X.1 X.2.1 dX8_netOf_20 rfl (lv_at hl 1 rfl) ?_
  obtain ⟨r5, err5, hres⟩ := m_ob_e hres
  refine m_bi (m_cV (n := 1) (As := [.int x1]) (rest := [.int 1, .ref (m_ad G 194)]) X hSt hP hS hl.1 (c_X8_secondOf l G  err5) k_c_yX8_secondOf k_m_X8_329 k_i_yX8_secondOf k_s_yX8_secondOf k_n_X8 (by decide +kernel) (m_rc8 hSt hP m_z_172) rfl rfl ⟨Nat.le_of_ble_eq_true rfl, Nat.le_of_ble_eq_true rfl⟩ (Nat.le_of_ble_eq_true rfl) ⟨Nat.zero_le _, Nat.zero_le _⟩ dX8_netOf_21) hS (fun H locs hP hS => ?_)
  refine lv_i2l (v := r5.toInt64) X.1 X.2.1 dX8_netOf_24 rfl ?_
  obtain ⟨M6, eM6, hres⟩ := m_bd_e hres
  refine m_ls (j := 1) X hSt hP hS m_z_194 (by decide +kernel) (by decide +kernel) dX8_netOf_25 eM6 (fun H locs hP hS => ?_)
  refine lv_aload_n X.1 X.2.1 dX8_netOf_26 rfl (lv_at hl 0 rfl) ?_
  refine m_g8 (v := .ref (m_ad G 194)) X hSt hP m_z_172 43 (by decide) rfl k_f_X8_83 dX8_netOf_27 ?_
  refine lv_iconst (v := 2) X.1 X.2.1 dX8_netOf_30 (by decide) ?_
  refine lv_aload_n X.1 X.2.1 dX8_netOf_31 rfl (lv_at hl 0 rfl) ?_
  refine lv_iload_n X.1 X.2.1 dX8_netOf_32 rfl (lv_at hl 1 rfl) ?_
  refine lv_iconst (v := 0) X.1 X.2.1 dX8_netOf_33 (by decide) ?_
  obtain ⟨r7, err7, hres⟩ := m_ob_e hres
  refine m_bi (m_cV (n := 2) (As := [.int x1, .int 0]) (rest := [.int 2, .ref (m_ad G 194)]) X hSt hP hS hl.1 (c_X8_ownOf l G  err7) k_c_yX8_ownOf k_m_X8_332 k_i_yX8_ownOf k_s_yX8_ownOf k_n_X8 (by decide +kernel) (m_rc8 hSt hP m_z_172) rfl rfl ⟨Nat.le_of_ble_eq_true rfl, Nat.le_of_ble_eq_true rfl⟩ (Nat.le_of_ble_eq_true rfl) ⟨Nat.zero_le _, Nat.zero_le _⟩ dX8_netOf_34) hS (fun H locs hP hS => ?_)
  refine lv_i2l (v := r7.toInt64) X.1 X.2.1 dX8_netOf_37 rfl ?_
  obtain ⟨M8, eM8, hres⟩ := m_bd_e hres
  refine m_ls (j := 2) X hSt hP hS m_z_194 (by decide +kernel) (by decide +kernel) dX8_netOf_38 eM8 (fun H locs hP hS => ?_)
  refine lv_aload_n X.1 X.2.1 dX8_netOf_39 rfl (lv_at hl 0 rfl) ?_
  refine m_g8 (v := .ref (m_ad G 194)) X hSt hP m_z_172 43 (by decide) rfl k_f_X8_83 dX8_netOf_40 ?_
  refine lv_iconst (v := 3) X.1 X.2.1 dX8_netOf_43 (by decide) ?_
  refine lv_aload_n X.1 X.2.1 dX8_netOf_44 rfl (lv_at hl 0 rfl) ?_
  refine lv_iload_n X.1 X.2.1 dX8_netOf_45 rfl (lv_at hl 1 rfl) ?_
  refine lv_iconst (v := 1) X.1 X.2.1 dX8_netOf_46 (by decide) ?_
  obtain ⟨r9, err9, hres⟩ := m_ob_e hres
  refine m_bi (m_cV (n := 2) (As := [.int x1, .int 1]) (rest := [.int 3, .ref (m_ad G 194)]) X hSt hP hS hl.1 (c_X8_ownOf l G  err9) k_c_yX8_ownOf k_m_X8_332 k_i_yX8_ownOf k_s_yX8_ownOf k_n_X8 (by decide +kernel) (m_rc8 hSt hP m_z_172) rfl rfl ⟨Nat.le_of_ble_eq_true rfl, Nat.le_of_ble_eq_true rfl⟩ (Nat.le_of_ble_eq_true rfl) ⟨Nat.zero_le _, Nat.zero_le _⟩ dX8_netOf_47) hS (fun H locs hP hS => ?_)
  refine lv_i2l (v := r9.toInt64) X.1 X.2.1 dX8_netOf_50 rfl ?_
  obtain ⟨M10, eM10, hres⟩ := m_bd_e hres
  refine m_ls (j := 3) X hSt hP hS m_z_194 (by decide +kernel) (by decide +kernel) dX8_netOf_51 eM10 (fun H locs hP hS => ?_)
  refine lv_aload_n X.1 X.2.1 dX8_netOf_52 rfl (lv_at hl 0 rfl) ?_
  refine m_g8 (v := .ref (m_ad G 194)) X hSt hP m_z_172 43 (by decide) rfl k_f_X8_83 dX8_netOf_53 ?_
  refine lv_iconst (v := 4) X.1 X.2.1 dX8_netOf_56 (by decide) ?_
  refine lv_iload X.1 X.2.1 dX8_netOf_57 (lv_at hl 4 rfl) ?_
  refine lv_i2l (v := x4.toInt64) X.1 X.2.1 dX8_netOf_59 rfl ?_
  obtain ⟨M11, eM11, hres⟩ := m_bd_e hres
  refine m_ls (j := 4) X hSt hP hS m_z_194 (by decide +kernel) (by decide +kernel) dX8_netOf_60 eM11 (fun H locs hP hS => ?_)
  refine lv_aload_n X.1 X.2.1 dX8_netOf_61 rfl (lv_at hl 0 rfl) ?_
  refine lv_iload_n X.1 X.2.1 dX8_netOf_62 rfl (lv_at hl 2 rfl) ?_
  obtain ⟨M12, eM12, hres⟩ := m_bd_e hres
  refine m_pi8 X hSt hP hS m_z_172 36 (by decide) eM12 rfl rfl (by decide) k_f_X8_274 dX8_netOf_63 (fun H locs hP hS => ?_)
  refine lv_aload_n X.1 X.2.1 dX8_netOf_66 rfl (lv_at hl 0 rfl) ?_
  obtain ⟨r13, M14, err13, hres⟩ := m_o2_e hres
  refine m_bz (m_cV (n := 0) (As := []) (rest := []) X hSt hP hS hl.1 (c_X8_reads l G  err13) k_c_yX8_reads k_m_X8_323 k_i_yX8_reads k_s_yX8_reads k_n_X8 (by decide +kernel) (m_rc8 hSt hP m_z_172) rfl rfl ⟨Nat.le_of_ble_eq_true rfl, Nat.le_of_ble_eq_true rfl⟩ (Nat.le_of_ble_eq_true rfl) ⟨Nat.zero_le _, Nat.zero_le _⟩ dX8_netOf_67) hS (fun H locs hP hS hz15 => ?_)
  refine lv_if_eq (tgt := 80) X.1 X.2.1 dX8_netOf_70 (by decide) (fun hc16 => ?_) (fun hc16 => ?_)
  · have hres := m_it hres hc16
    refine lv_aload_n X.1 X.2.1 dX8_netOf_80 rfl (lv_at hl 0 rfl) ?_
    refine m_g8 (v := .ref (m_ad G 194)) X hSt hP m_z_172 43 (by decide) rfl k_f_X8_83 dX8_netOf_81 ?_
    refine lv_iconst (v := 0) X.1 X.2.1 dX8_netOf_84 (by decide) ?_
    refine m_la (j := 0) X hSt hP m_z_194 (by decide +kernel) (by decide +kernel) dX8_netOf_85 ?_
    refine lv_aload_n X.1 X.2.1 dX8_netOf_86 rfl (lv_at hl 0 rfl) ?_
    refine m_g8 (v := .ref (m_ad G 194)) X hSt hP m_z_172 43 (by decide) rfl k_f_X8_83 dX8_netOf_87 ?_
    refine lv_iconst (v := 1) X.1 X.2.1 dX8_netOf_90 (by decide) ?_
    refine m_la (j := 1) X hSt hP m_z_194 (by decide +kernel) (by decide +kernel) dX8_netOf_91 ?_
    refine lv_ladd X.1 X.2.1 dX8_netOf_92 ?_
    refine lv_aload_n X.1 X.2.1 dX8_netOf_93 rfl (lv_at hl 0 rfl) ?_
    refine m_g8 (v := .ref (m_ad G 194)) X hSt hP m_z_172 43 (by decide) rfl k_f_X8_83 dX8_netOf_94 ?_
    refine lv_iconst (v := 2) X.1 X.2.1 dX8_netOf_97 (by decide) ?_
    refine m_la (j := 2) X hSt hP m_z_194 (by decide +kernel) (by decide +kernel) dX8_netOf_98 ?_
    refine lv_lsub X.1 X.2.1 dX8_netOf_99 ?_
    refine lv_aload_n X.1 X.2.1 dX8_netOf_100 rfl (lv_at hl 0 rfl) ?_
    refine m_g8 (v := .ref (m_ad G 194)) X hSt hP m_z_172 43 (by decide) rfl k_f_X8_83 dX8_netOf_101 ?_
    refine lv_iconst (v := 3) X.1 X.2.1 dX8_netOf_104 (by decide) ?_
    refine m_la (j := 3) X hSt hP m_z_194 (by decide +kernel) (by decide +kernel) dX8_netOf_105 ?_
    refine lv_lsub X.1 X.2.1 dX8_netOf_106 ?_
    refine lv_aload_n X.1 X.2.1 dX8_netOf_107 rfl (lv_at hl 0 rfl) ?_
    refine m_g8 (v := .ref (m_ad G 194)) X hSt hP m_z_172 43 (by decide) rfl k_f_X8_83 dX8_netOf_108 ?_
    refine lv_iconst (v := 4) X.1 X.2.1 dX8_netOf_111 (by decide) ?_
    refine m_la (j := 4) X hSt hP m_z_194 (by decide +kernel) (by decide +kernel) dX8_netOf_112 ?_
    refine lv_ladd X.1 X.2.1 dX8_netOf_113 ?_
    exact B114 (((((M14.2 194 0) + (M14.2 194 1)) - (M14.2 194 2)) - (M14.2 194 3)) + (M14.2 194 4)) M14 _ _ _ hP hS (lv_sub hl [] rfl) hres
  · have hres := m_if hres hc16
    refine lv_aload_n X.1 X.2.1 dX8_netOf_73 rfl (lv_at hl 0 rfl) ?_
    refine m_g8 (v := .long (M14.2 172 44)) X hSt hP m_z_172 44 (by decide) rfl k_f_X8_320 dX8_netOf_74 ?_
    refine lv_goto (tgt := 114) X.1 X.2.1 dX8_netOf_77 (by decide) ?_
    exact B114 (M14.2 172 44) M14 _ _ _ hP hS (lv_sub hl [] rfl) hres
theorem dX8_findNets_0 : decode cX8_findNets 0 = .ok (.iconst 0, 1) := by decide +kernel
theorem dX8_findNets_1 : decode cX8_findNets 1 = .ok (.istore_n 1, 1) := by decide +kernel
theorem dX8_findNets_2 : decode cX8_findNets 2 = .ok (.iload_n 1, 1) := by decide +kernel
theorem dX8_findNets_3 : decode cX8_findNets 3 = .ok (.bipush 10, 2) := by decide +kernel
theorem dX8_findNets_5 : decode cX8_findNets 5 = .ok (.if_icmp .ge 16, 3) := by decide +kernel
theorem dX8_findNets_8 : decode cX8_findNets 8 = .ok (.aload_n 0, 1) := by decide +kernel
theorem dX8_findNets_9 : decode cX8_findNets 9 = .ok (.getfield 86, 3) := by decide +kernel
theorem dX8_findNets_12 : decode cX8_findNets 12 = .ok (.iload_n 1, 1) := by decide +kernel
theorem dX8_findNets_13 : decode cX8_findNets 13 = .ok (.iconst 0, 1) := by decide +kernel
theorem dX8_findNets_14 : decode cX8_findNets 14 = .ok (.iastore, 1) := by decide +kernel
theorem dX8_findNets_15 : decode cX8_findNets 15 = .ok (.iinc 1 1, 3) := by decide +kernel
theorem dX8_findNets_18 : decode cX8_findNets 18 = .ok (.goto (-16), 3) := by decide +kernel
theorem dX8_findNets_21 : decode cX8_findNets 21 = .ok (.iconst 0, 1) := by decide +kernel
theorem dX8_findNets_22 : decode cX8_findNets 22 = .ok (.istore_n 1, 1) := by decide +kernel
theorem dX8_findNets_23 : decode cX8_findNets 23 = .ok (.iload_n 1, 1) := by decide +kernel
theorem dX8_findNets_24 : decode cX8_findNets 24 = .ok (.aload_n 0, 1) := by decide +kernel
theorem dX8_findNets_25 : decode cX8_findNets 25 = .ok (.invokevirtual 107, 3) := by decide +kernel
theorem dX8_findNets_28 : decode cX8_findNets 28 = .ok (.if_icmp .ge 39, 3) := by decide +kernel
theorem dX8_findNets_31 : decode cX8_findNets 31 = .ok (.iconst 0, 1) := by decide +kernel
theorem dX8_findNets_32 : decode cX8_findNets 32 = .ok (.istore_n 2, 1) := by decide +kernel
theorem dX8_findNets_33 : decode cX8_findNets 33 = .ok (.iload_n 2, 1) := by decide +kernel
theorem dX8_findNets_34 : decode cX8_findNets 34 = .ok (.aload_n 0, 1) := by decide +kernel
theorem dX8_findNets_35 : decode cX8_findNets 35 = .ok (.invokevirtual 107, 3) := by decide +kernel
theorem dX8_findNets_38 : decode cX8_findNets 38 = .ok (.if_icmp .ge 23, 3) := by decide +kernel
theorem dX8_findNets_41 : decode cX8_findNets 41 = .ok (.aload_n 0, 1) := by decide +kernel
theorem dX8_findNets_42 : decode cX8_findNets 42 = .ok (.getfield 86, 3) := by decide +kernel
theorem dX8_findNets_45 : decode cX8_findNets 45 = .ok (.iload_n 2, 1) := by decide +kernel
theorem dX8_findNets_46 : decode cX8_findNets 46 = .ok (.aload_n 0, 1) := by decide +kernel
theorem dX8_findNets_47 : decode cX8_findNets 47 = .ok (.iload_n 2, 1) := by decide +kernel
theorem dX8_findNets_48 : decode cX8_findNets 48 = .ok (.iconst 0, 1) := by decide +kernel
theorem dX8_findNets_49 : decode cX8_findNets 49 = .ok (.iconst 0, 1) := by decide +kernel
theorem dX8_findNets_50 : decode cX8_findNets 50 = .ok (.iconst 0, 1) := by decide +kernel
theorem dX8_findNets_51 : decode cX8_findNets 51 = .ok (.invokevirtual 337, 3) := by decide +kernel
theorem dX8_findNets_54 : decode cX8_findNets 54 = .ok (.iastore, 1) := by decide +kernel
theorem dX8_findNets_55 : decode cX8_findNets 55 = .ok (.iinc 2 1, 3) := by decide +kernel
theorem dX8_findNets_58 : decode cX8_findNets 58 = .ok (.goto (-25), 3) := by decide +kernel
theorem dX8_findNets_61 : decode cX8_findNets 61 = .ok (.iinc 1 1, 3) := by decide +kernel
theorem dX8_findNets_64 : decode cX8_findNets 64 = .ok (.goto (-41), 3) := by decide +kernel
theorem dX8_findNets_67 : decode cX8_findNets 67 = .ok (.return_, 1) := by decide +kernel
def f_X8_findNets_b33 (n : Nat) (q23 : Int32 → m_M → Option m_M) : Nat → Int32 → Int32 → m_M → Option m_M
  | 0, _, _, _ => none
  | u + 1, x1, x2, M =>
    m_bd (f_X8_persons M) fun r1 =>
  if r1 ≤ x2 then
  q23 (x1 + 1) M
  else
  m_o2 (f_X8_netOf n x2 0 0 0 M) fun r3 M4 =>
  m_gd (m_in x2 10) (
  m_bd (m_sI M4 195 x2.toNatClampNeg r3) fun M6 =>
  f_X8_findNets_b33 n q23 u x1 (x2 + 1) M6)
def f_X8_findNets_b23 (n : Nat) : Nat → Int32 → m_M → Option m_M
  | 0, _, _ => none
  | u + 1, x1, M =>
    m_bd (f_X8_persons M) fun r7 =>
  if r7 ≤ x1 then
  some M
  else
  f_X8_findNets_b33 n (f_X8_findNets_b23 n u) n x1 0 M
def f_X8_findNets_b2 (n : Nat) : Nat → Int32 → m_M → Option m_M
  | 0, _, _ => none
  | u + 1, x1, M =>
    if (10 : Int32) ≤ x1 then
  f_X8_findNets_b23 n n 0 M
  else
  m_gd (m_in x1 10) (
  m_bd (m_sI M 195 x1.toNatClampNeg 0) fun M11 =>
  f_X8_findNets_b2 n u (x1 + 1) M11)
def f_X8_findNets (n : Nat) (M : m_M) : Option m_M :=
  f_X8_findNets_b2 n n 0 M
set_option maxHeartbeats 4000000 in
set_option maxRecDepth 100000 in
theorem c_X8_findNets (l : Launch) (G : m_G) {n : Nat} {M : m_M} {M0 : m_M}  (hres : f_X8_findNets n M = some M0) : Met l yX8_findNets (m_U yX8_findNets cX8_findNets 3 none) (m_R 5 118) (m_Pc G [.ref (m_ad G 172)] M) (m_Qv G M0) 0 0 (m_A G) := by
  refine m_i0 (n := 3) RX8 rfl (by decide) (Nat.le_of_ble_eq_true rfl) ?_
  intro p e s m args below meth c X hr hlk hSt hP hS ls hl
  have hl : lv_has ls 3 [(0, .ref (m_ad G 172))] := hl
  have B33 : ∀ (q23 : Int32 → m_M → Option m_M) (hq23 : ∀ (x1 : Int32) (M : m_M) (H : Heap) (locs : List Loc) (ls : Array Slot), m_P G M H → va_S (m_A G) s.heap H locs → lv_has ls 3 [(0, .ref (m_ad G 172)), (1, .int x1)] → q23 x1 M = some M0 → W p l e (m_R 5 118) s m args below meth c H locs 0 0 (MQ below (m_Qv G M0) args s 0 0 (m_A G)) (F0 m 23 ls [])) (u : Nat) (x1 : Int32) (x2 : Int32) (M : m_M) (H : Heap) (locs : List Loc) (ls : Array Slot), m_P G M H → va_S (m_A G) s.heap H locs → lv_has ls 3 [(0, .ref (m_ad G 172)), (1, .int x1), (2, .int x2)] → f_X8_findNets_b33 n q23 u x1 x2 M = some M0 → W p l e (m_R 5 118) s m args below meth c H locs 0 0 (MQ below (m_Qv G M0) args s 0 0 (m_A G)) (F0 m 33 ls []) := by
    intro q23 hq23 u
    induction u with
    | zero =>
      intro x1 x2 M H locs ls hP hS hl hres
      cases hres
    | succ u ih =>
      intro x1 x2 M H locs ls hP hS hl hres
      rw [f_X8_findNets_b33] at hres
      refine lv_iload_n X.1 X.2.1 dX8_findNets_33 rfl (lv_at hl 2 rfl) ?_
      refine lv_aload_n X.1 X.2.1 dX8_findNets_34 rfl (lv_at hl 0 rfl) ?_
      obtain ⟨r1, err1, hres⟩ := m_bd_e hres
      refine m_bi (m_cV (n := 0) (As := []) (rest := [.int x2]) X hSt hP hS hl.1 (c_X8_persons l G  err1) k_c_yX8_persons k_m_X8_107 k_i_yX8_persons k_s_yX8_persons k_n_X8 (by decide +kernel) (m_rc8 hSt hP m_z_172) rfl rfl ⟨Nat.le_of_ble_eq_true rfl, Nat.le_of_ble_eq_true rfl⟩ (Nat.le_of_ble_eq_true rfl) ⟨Nat.zero_le _, Nat.zero_le _⟩ dX8_findNets_35) hS (fun H locs hP hS => ?_)
      refine lv_icmp_ge (tgt := 61) X.1 X.2.1 dX8_findNets_38 (by decide) (fun hc2 => ?_) (fun hc2 => ?_)
      · have hres := m_it hres hc2
        refine lv_iinc (v := (x1 + 1)) (lv' := [(1, .int (x1 + 1)), (0, .ref (m_ad G 172)), (2, .int x2)]) X.1 X.2.1 dX8_findNets_61 hl (k := 1) rfl rfl (by decide) rfl (fun ls hl => ?_)
        refine lv_goto (tgt := 23) X.1 X.2.1 dX8_findNets_64 (by decide) ?_
        exact hq23 (x1 + 1) M _ _ _ hP hS (lv_sub hl [1, 0] rfl) hres
      · have hres := m_if hres hc2
        refine lv_aload_n X.1 X.2.1 dX8_findNets_41 rfl (lv_at hl 0 rfl) ?_
        refine m_g8 (v := .ref (m_ad G 195)) X hSt hP m_z_172 45 (by decide) rfl k_f_X8_86 dX8_findNets_42 ?_
        refine lv_iload_n X.1 X.2.1 dX8_findNets_45 rfl (lv_at hl 2 rfl) ?_
        refine lv_aload_n X.1 X.2.1 dX8_findNets_46 rfl (lv_at hl 0 rfl) ?_
        refine lv_iload_n X.1 X.2.1 dX8_findNets_47 rfl (lv_at hl 2 rfl) ?_
        refine lv_iconst (v := 0) X.1 X.2.1 dX8_findNets_48 (by decide) ?_
        refine lv_iconst (v := 0) X.1 X.2.1 dX8_findNets_49 (by decide) ?_
        refine lv_iconst (v := 0) X.1 X.2.1 dX8_findNets_50 (by decide) ?_
        obtain ⟨r3, M4, err3, hres⟩ := m_o2_e hres
        refine m_bi (m_cV (n := 4) (As := [.int x2, .int 0, .int 0, .int 0]) (rest := [.int x2, .ref (m_ad G 195)]) X hSt hP hS hl.1 (c_X8_netOf l G  err3) k_c_yX8_netOf k_m_X8_337 k_i_yX8_netOf k_s_yX8_netOf k_n_X8 (by decide +kernel) (m_rc8 hSt hP m_z_172) rfl rfl ⟨Nat.le_of_ble_eq_true rfl, Nat.le_of_ble_eq_true rfl⟩ (Nat.le_of_ble_eq_true rfl) ⟨Nat.zero_le _, Nat.zero_le _⟩ dX8_findNets_51) hS (fun H locs hP hS => ?_)
        obtain ⟨hg5, hres⟩ := m_gd_e hres
        obtain ⟨M6, eM6, hres⟩ := m_bd_e hres
        refine m_is (j := x2.toNatClampNeg) X hSt hP hS m_z_195 hg5 rfl dX8_findNets_54 eM6 (fun H locs hP hS => ?_)
        refine lv_iinc (v := (x2 + 1)) (lv' := [(2, .int (x2 + 1)), (0, .ref (m_ad G 172)), (1, .int x1)]) X.1 X.2.1 dX8_findNets_55 hl (k := 2) rfl rfl (by decide) rfl (fun ls hl => ?_)
        refine lv_goto (tgt := 33) X.1 X.2.1 dX8_findNets_58 (by decide) ?_
        exact ih x1 (x2 + 1) M6 _ _ _ hP hS (lv_sub hl [1, 2, 0] rfl) hres
  have B23 : ∀ (u : Nat) (x1 : Int32) (M : m_M) (H : Heap) (locs : List Loc) (ls : Array Slot), m_P G M H → va_S (m_A G) s.heap H locs → lv_has ls 3 [(0, .ref (m_ad G 172)), (1, .int x1)] → f_X8_findNets_b23 n u x1 M = some M0 → W p l e (m_R 5 118) s m args below meth c H locs 0 0 (MQ below (m_Qv G M0) args s 0 0 (m_A G)) (F0 m 23 ls []) := by
    intro u
    induction u with
    | zero =>
      intro x1 M H locs ls hP hS hl hres
      cases hres
    | succ u ih =>
      intro x1 M H locs ls hP hS hl hres
      rw [f_X8_findNets_b23] at hres
      refine lv_iload_n X.1 X.2.1 dX8_findNets_23 rfl (lv_at hl 1 rfl) ?_
      refine lv_aload_n X.1 X.2.1 dX8_findNets_24 rfl (lv_at hl 0 rfl) ?_
      obtain ⟨r7, err7, hres⟩ := m_bd_e hres
      refine m_bi (m_cV (n := 0) (As := []) (rest := [.int x1]) X hSt hP hS hl.1 (c_X8_persons l G  err7) k_c_yX8_persons k_m_X8_107 k_i_yX8_persons k_s_yX8_persons k_n_X8 (by decide +kernel) (m_rc8 hSt hP m_z_172) rfl rfl ⟨Nat.le_of_ble_eq_true rfl, Nat.le_of_ble_eq_true rfl⟩ (Nat.le_of_ble_eq_true rfl) ⟨Nat.zero_le _, Nat.zero_le _⟩ dX8_findNets_25) hS (fun H locs hP hS => ?_)
      refine lv_icmp_ge (tgt := 67) X.1 X.2.1 dX8_findNets_28 (by decide) (fun hc8 => ?_) (fun hc8 => ?_)
      · have hres := m_it hres hc8
        exact m_rv X hr hlk hP hS (Option.some.inj hres) dX8_findNets_67
      · have hres := m_if hres hc8
        refine lv_iconst (v := 0) X.1 X.2.1 dX8_findNets_31 (by decide) ?_
        refine lv_istore_n (lv' := [(2, .int 0), (0, .ref (m_ad G 172)), (1, .int x1)]) X.1 X.2.1 dX8_findNets_32 rfl hl (by decide) rfl (fun ls hl => ?_)
        exact B33 (f_X8_findNets_b23 n u) ih n x1 0 M _ _ _ hP hS (lv_sub hl [1, 2, 0] rfl) hres
  have B2 : ∀ (u : Nat) (x1 : Int32) (M : m_M) (H : Heap) (locs : List Loc) (ls : Array Slot), m_P G M H → va_S (m_A G) s.heap H locs → lv_has ls 3 [(0, .ref (m_ad G 172)), (1, .int x1)] → f_X8_findNets_b2 n u x1 M = some M0 → W p l e (m_R 5 118) s m args below meth c H locs 0 0 (MQ below (m_Qv G M0) args s 0 0 (m_A G)) (F0 m 2 ls []) := by
    intro u
    induction u with
    | zero =>
      intro x1 M H locs ls hP hS hl hres
      cases hres
    | succ u ih =>
      intro x1 M H locs ls hP hS hl hres
      rw [f_X8_findNets_b2] at hres
      refine lv_iload_n X.1 X.2.1 dX8_findNets_2 rfl (lv_at hl 1 rfl) ?_
      refine lv_bipush (v := 10) X.1 X.2.1 dX8_findNets_3 (by decide) ?_
      refine lv_icmp_ge (tgt := 21) X.1 X.2.1 dX8_findNets_5 (by decide) (fun hc9 => ?_) (fun hc9 => ?_)
      · have hres := m_it hres hc9
        refine lv_iconst (v := 0) X.1 X.2.1 dX8_findNets_21 (by decide) ?_
        refine lv_istore_n (lv' := [(1, .int 0), (0, .ref (m_ad G 172))]) X.1 X.2.1 dX8_findNets_22 rfl hl (by decide) rfl (fun ls hl => ?_)
        exact B23 n 0 M _ _ _ hP hS (lv_sub hl [1, 0] rfl) hres
      · have hres := m_if hres hc9
        refine lv_aload_n X.1 X.2.1 dX8_findNets_8 rfl (lv_at hl 0 rfl) ?_
        refine m_g8 (v := .ref (m_ad G 195)) X hSt hP m_z_172 45 (by decide) rfl k_f_X8_86 dX8_findNets_9 ?_
        refine lv_iload_n X.1 X.2.1 dX8_findNets_12 rfl (lv_at hl 1 rfl) ?_
        refine lv_iconst (v := 0) X.1 X.2.1 dX8_findNets_13 (by decide) ?_
        obtain ⟨hg10, hres⟩ := m_gd_e hres
        obtain ⟨M11, eM11, hres⟩ := m_bd_e hres
        refine m_is (j := x1.toNatClampNeg) X hSt hP hS m_z_195 hg10 rfl dX8_findNets_14 eM11 (fun H locs hP hS => ?_)
        refine lv_iinc (v := (x1 + 1)) (lv' := [(1, .int (x1 + 1)), (0, .ref (m_ad G 172))]) X.1 X.2.1 dX8_findNets_15 hl (k := 1) rfl rfl (by decide) rfl (fun ls hl => ?_)
        refine lv_goto (tgt := 2) X.1 X.2.1 dX8_findNets_18 (by decide) ?_
        exact ih (x1 + 1) M11 _ _ _ hP hS (lv_sub hl [1, 0] rfl) hres
  unfold f_X8_findNets at hres
  refine lv_iconst (v := 0) X.1 X.2.1 dX8_findNets_0 (by decide) ?_
  refine lv_istore_n (lv' := [(1, .int 0), (0, .ref (m_ad G 172))]) X.1 X.2.1 dX8_findNets_1 rfl hl (by decide) rfl (fun ls hl => ?_)
  exact B2 n 0 M _ _ _ hP hS (lv_sub hl [1, 0] rfl) hres
theorem dX8_layAll_0 : decode cX8_layAll 0 = .ok (.aload_n 0, 1) := by decide +kernel
theorem dX8_layAll_1 : decode cX8_layAll 1 = .ok (.iload_n 1, 1) := by decide +kernel
theorem dX8_layAll_2 : decode cX8_layAll 2 = .ok (.invokevirtual 174, 3) := by decide +kernel
theorem dX8_layAll_5 : decode cX8_layAll 5 = .ok (.aload_n 0, 1) := by decide +kernel
theorem dX8_layAll_6 : decode cX8_layAll 6 = .ok (.invokevirtual 341, 3) := by decide +kernel
theorem dX8_layAll_9 : decode cX8_layAll 9 = .ok (.return_, 1) := by decide +kernel
def f_X8_layAll (n : Nat) (x1 : Int32) (M : m_M) : Option m_M :=
  m_ob (f_X8_layDay n x1 M) fun M1 =>
  m_ob (f_X8_findNets n M1) fun M2 =>
  some M2
set_option maxHeartbeats 4000000 in
set_option maxRecDepth 100000 in
theorem c_X8_layAll (l : Launch) (G : m_G) {n : Nat} {x1 : Int32} {M : m_M} {M0 : m_M}  (hres : f_X8_layAll n x1 M = some M0) : Met l yX8_layAll (m_U yX8_layAll cX8_layAll 2 none) (m_R 6 140) (m_Pc G [.ref (m_ad G 172), .int x1] M) (m_Qv G M0) 0 0 (m_A G) := by
  refine m_i0 (n := 2) RX8 rfl (by decide) (Nat.le_of_ble_eq_true rfl) ?_
  intro p e s m args below meth c X hr hlk hSt hP hS ls hl
  have hl : lv_has ls 2 [(0, .ref (m_ad G 172)), (1, .int x1)] := hl
  unfold f_X8_layAll at hres
  refine lv_aload_n X.1 X.2.1 dX8_layAll_0 rfl (lv_at hl 0 rfl) ?_
  refine lv_iload_n X.1 X.2.1 dX8_layAll_1 rfl (lv_at hl 1 rfl) ?_
  obtain ⟨M1, eM1, hres⟩ := m_ob_e hres
  refine m_bv (m_cV (n := 1) (As := [.int x1]) (rest := []) X hSt hP hS hl.1 (c_X8_layDay l G  eM1) k_c_yX8_layDay k_m_X8_174 k_i_yX8_layDay k_s_yX8_layDay k_n_X8 (by decide +kernel) (m_rc8 hSt hP m_z_172) rfl rfl ⟨Nat.le_of_ble_eq_true rfl, Nat.le_of_ble_eq_true rfl⟩ (Nat.le_of_ble_eq_true rfl) ⟨Nat.zero_le _, Nat.zero_le _⟩ dX8_layAll_2) hS (fun H locs hP hS => ?_)
  refine lv_aload_n X.1 X.2.1 dX8_layAll_5 rfl (lv_at hl 0 rfl) ?_
  obtain ⟨M2, eM2, hres⟩ := m_ob_e hres
  refine m_bv (m_cV (n := 0) (As := []) (rest := []) X hSt hP hS hl.1 (c_X8_findNets l G  eM2) k_c_yX8_findNets k_m_X8_341 k_i_yX8_findNets k_s_yX8_findNets k_n_X8 (by decide +kernel) (m_rc8 hSt hP m_z_172) rfl rfl ⟨Nat.le_of_ble_eq_true rfl, Nat.le_of_ble_eq_true rfl⟩ (Nat.le_of_ble_eq_true rfl) ⟨Nat.zero_le _, Nat.zero_le _⟩ dX8_layAll_6) hS (fun H locs hP hS => ?_)
  exact m_rv X hr hlk hP hS (Option.some.inj hres) dX8_layAll_9
theorem dX8_layToday_0 : decode cX8_layToday 0 = .ok (.aload_n 0, 1) := by decide +kernel
theorem dX8_layToday_1 : decode cX8_layToday 1 = .ok (.bipush 31, 2) := by decide +kernel
theorem dX8_layToday_3 : decode cX8_layToday 3 = .ok (.putfield 72, 3) := by decide +kernel
theorem dX8_layToday_6 : decode cX8_layToday 6 = .ok (.aload_n 0, 1) := by decide +kernel
theorem dX8_layToday_7 : decode cX8_layToday 7 = .ok (.iload_n 1, 1) := by decide +kernel
theorem dX8_layToday_8 : decode cX8_layToday 8 = .ok (.invokevirtual 344, 3) := by decide +kernel
theorem dX8_layToday_11 : decode cX8_layToday 11 = .ok (.return_, 1) := by decide +kernel
def f_X8_layToday (n : Nat) (x1 : Int32) (M : m_M) : Option m_M :=
  m_bd (m_sI M 172 24 31) fun M1 =>
  m_ob (f_X8_layAll n x1 M1) fun M2 =>
  some M2
set_option maxHeartbeats 4000000 in
set_option maxRecDepth 100000 in
theorem c_X8_layToday (l : Launch) (G : m_G) {n : Nat} {x1 : Int32} {M : m_M} {M0 : m_M}  (hres : f_X8_layToday n x1 M = some M0) : Met l yX8_layToday (m_U yX8_layToday cX8_layToday 2 none) (m_R 7 161) (m_Pc G [.ref (m_ad G 172), .int x1] M) (m_Qv G M0) 0 0 (m_A G) := by
  refine m_i0 (n := 2) RX8 rfl (by decide) (Nat.le_of_ble_eq_true rfl) ?_
  intro p e s m args below meth c X hr hlk hSt hP hS ls hl
  have hl : lv_has ls 2 [(0, .ref (m_ad G 172)), (1, .int x1)] := hl
  unfold f_X8_layToday at hres
  refine lv_aload_n X.1 X.2.1 dX8_layToday_0 rfl (lv_at hl 0 rfl) ?_
  refine lv_bipush (v := 31) X.1 X.2.1 dX8_layToday_1 (by decide) ?_
  obtain ⟨M1, eM1, hres⟩ := m_bd_e hres
  refine m_pi8 X hSt hP hS m_z_172 24 (by decide) eM1 rfl rfl (by decide) k_f_X8_72 dX8_layToday_3 (fun H locs hP hS => ?_)
  refine lv_aload_n X.1 X.2.1 dX8_layToday_6 rfl (lv_at hl 0 rfl) ?_
  refine lv_iload_n X.1 X.2.1 dX8_layToday_7 rfl (lv_at hl 1 rfl) ?_
  obtain ⟨M2, eM2, hres⟩ := m_ob_e hres
  refine m_bv (m_cV (n := 1) (As := [.int x1]) (rest := []) X hSt hP hS hl.1 (c_X8_layAll l G  eM2) k_c_yX8_layAll k_m_X8_344 k_i_yX8_layAll k_s_yX8_layAll k_n_X8 (by decide +kernel) (m_rc8 hSt hP m_z_172) rfl rfl ⟨Nat.le_of_ble_eq_true rfl, Nat.le_of_ble_eq_true rfl⟩ (Nat.le_of_ble_eq_true rfl) ⟨Nat.zero_le _, Nat.zero_le _⟩ dX8_layToday_8) hS (fun H locs hP hS => ?_)
  exact m_rv X hr hlk hP hS (Option.some.inj hres) dX8_layToday_11
theorem dX8_manOf_0 : decode cX8_manOf 0 = .ok (.aload_n 0, 1) := by decide +kernel
theorem dX8_manOf_1 : decode cX8_manOf 1 = .ok (.aload_n 0, 1) := by decide +kernel
theorem dX8_manOf_2 : decode cX8_manOf 2 = .ok (.getfield 51, 3) := by decide +kernel
theorem dX8_manOf_5 : decode cX8_manOf 5 = .ok (.iload_n 1, 1) := by decide +kernel
theorem dX8_manOf_6 : decode cX8_manOf 6 = .ok (.iaload, 1) := by decide +kernel
theorem dX8_manOf_7 : decode cX8_manOf 7 = .ok (.iconst 2, 1) := by decide +kernel
theorem dX8_manOf_8 : decode cX8_manOf 8 = .ok (.invokevirtual 136, 3) := by decide +kernel
theorem dX8_manOf_11 : decode cX8_manOf 11 = .ok (.ireturn, 1) := by decide +kernel
def f_X8_manOf (x1 : Int32) (M : m_M) : Option Int32 :=
  m_gd (m_in x1 60) (
  m_ob (f_X8_of (M.1 185 x1.toNatClampNeg) 2 M) fun r2 =>
  some r2)
set_option maxHeartbeats 4000000 in
set_option maxRecDepth 100000 in
theorem c_X8_manOf (l : Launch) (G : m_G) {x1 : Int32} {M : m_M} {r0 : Int32}  (hres : f_X8_manOf x1 M = some r0) : Met l yX8_manOf (m_U yX8_manOf cX8_manOf 2 (some .int)) (m_R 1 22) (m_Pc G [.ref (m_ad G 172), .int x1] M) (m_Qi G r0 M) 0 0 (m_A G) := by
  refine m_i0 (n := 2) RX8 rfl (by decide) (Nat.le_of_ble_eq_true rfl) ?_
  intro p e s m args below meth c X hr hlk hSt hP hS ls hl
  have hl : lv_has ls 2 [(0, .ref (m_ad G 172)), (1, .int x1)] := hl
  unfold f_X8_manOf at hres
  refine lv_aload_n X.1 X.2.1 dX8_manOf_0 rfl (lv_at hl 0 rfl) ?_
  refine lv_aload_n X.1 X.2.1 dX8_manOf_1 rfl (lv_at hl 0 rfl) ?_
  refine m_g8 (v := .ref (m_ad G 185)) X hSt hP m_z_172 15 (by decide) rfl k_f_X8_51 dX8_manOf_2 ?_
  refine lv_iload_n X.1 X.2.1 dX8_manOf_5 rfl (lv_at hl 1 rfl) ?_
  obtain ⟨hg1, hres⟩ := m_gd_e hres
  refine m_ia (j := x1.toNatClampNeg) X hSt hP m_z_185 hg1 rfl dX8_manOf_6 ?_
  refine lv_iconst (v := 2) X.1 X.2.1 dX8_manOf_7 (by decide) ?_
  obtain ⟨r2, err2, hres⟩ := m_ob_e hres
  refine m_bi (m_cV (n := 2) (As := [.int (M.1 185 x1.toNatClampNeg), .int 2]) (rest := []) X hSt hP hS hl.1 (c_X8_of l G  err2) k_c_yX8_of k_m_X8_136 k_i_yX8_of k_s_yX8_of k_n_X8 (by decide +kernel) (m_rc8 hSt hP m_z_172) rfl rfl ⟨Nat.le_of_ble_eq_true rfl, Nat.le_of_ble_eq_true rfl⟩ (Nat.le_of_ble_eq_true rfl) ⟨Nat.zero_le _, Nat.zero_le _⟩ dX8_manOf_8) hS (fun H locs hP hS => ?_)
  exact m_ri X hr hlk hP hS (Option.some.inj hres) rfl dX8_manOf_11
theorem dX8_whoOf_0 : decode cX8_whoOf 0 = .ok (.aload_n 0, 1) := by decide +kernel
theorem dX8_whoOf_1 : decode cX8_whoOf 1 = .ok (.iload_n 1, 1) := by decide +kernel
theorem dX8_whoOf_2 : decode cX8_whoOf 2 = .ok (.invokevirtual 361, 3) := by decide +kernel
theorem dX8_whoOf_5 : decode cX8_whoOf 5 = .ok (.istore_n 2, 1) := by decide +kernel
theorem dX8_whoOf_6 : decode cX8_whoOf 6 = .ok (.aload_n 0, 1) := by decide +kernel
theorem dX8_whoOf_7 : decode cX8_whoOf 7 = .ok (.getfield 27, 3) := by decide +kernel
theorem dX8_whoOf_10 : decode cX8_whoOf 10 = .ok (.iload_n 2, 1) := by decide +kernel
theorem dX8_whoOf_11 : decode cX8_whoOf 11 = .ok (.iaload, 1) := by decide +kernel
theorem dX8_whoOf_12 : decode cX8_whoOf 12 = .ok (.iconst (-1), 1) := by decide +kernel
theorem dX8_whoOf_13 : decode cX8_whoOf 13 = .ok (.if_icmp .eq 12, 3) := by decide +kernel
theorem dX8_whoOf_16 : decode cX8_whoOf 16 = .ok (.aload_n 0, 1) := by decide +kernel
theorem dX8_whoOf_17 : decode cX8_whoOf 17 = .ok (.getfield 27, 3) := by decide +kernel
theorem dX8_whoOf_20 : decode cX8_whoOf 20 = .ok (.iload_n 2, 1) := by decide +kernel
theorem dX8_whoOf_21 : decode cX8_whoOf 21 = .ok (.iaload, 1) := by decide +kernel
theorem dX8_whoOf_22 : decode cX8_whoOf 22 = .ok (.goto 9, 3) := by decide +kernel
theorem dX8_whoOf_25 : decode cX8_whoOf 25 = .ok (.aload_n 0, 1) := by decide +kernel
theorem dX8_whoOf_26 : decode cX8_whoOf 26 = .ok (.getfield 30, 3) := by decide +kernel
theorem dX8_whoOf_29 : decode cX8_whoOf 29 = .ok (.iload_n 2, 1) := by decide +kernel
theorem dX8_whoOf_30 : decode cX8_whoOf 30 = .ok (.iaload, 1) := by decide +kernel
theorem dX8_whoOf_31 : decode cX8_whoOf 31 = .ok (.ireturn, 1) := by decide +kernel
def f_X8_whoOf (x1 : Int32) (M : m_M) : Option Int32 :=
  m_ob (f_X8_manOf x1 M) fun r1 =>
  m_gd (m_in r1 10) (
  if (M.1 177 r1.toNatClampNeg) = (-1) then
  some (M.1 178 r1.toNatClampNeg)
  else
  some (M.1 177 r1.toNatClampNeg))
set_option maxHeartbeats 4000000 in
set_option maxRecDepth 100000 in
theorem c_X8_whoOf (l : Launch) (G : m_G) {x1 : Int32} {M : m_M} {r0 : Int32}  (hres : f_X8_whoOf x1 M = some r0) : Met l yX8_whoOf (m_U yX8_whoOf cX8_whoOf 3 (some .int)) (m_R 2 43) (m_Pc G [.ref (m_ad G 172), .int x1] M) (m_Qi G r0 M) 0 0 (m_A G) := by
  refine m_i0 (n := 3) RX8 rfl (by decide) (Nat.le_of_ble_eq_true rfl) ?_
  intro p e s m args below meth c X hr hlk hSt hP hS ls hl
  have hl : lv_has ls 3 [(0, .ref (m_ad G 172)), (1, .int x1)] := hl
  unfold f_X8_whoOf at hres
  refine lv_aload_n X.1 X.2.1 dX8_whoOf_0 rfl (lv_at hl 0 rfl) ?_
  refine lv_iload_n X.1 X.2.1 dX8_whoOf_1 rfl (lv_at hl 1 rfl) ?_
  obtain ⟨r1, err1, hres⟩ := m_ob_e hres
  refine m_bi (m_cV (n := 1) (As := [.int x1]) (rest := []) X hSt hP hS hl.1 (c_X8_manOf l G  err1) k_c_yX8_manOf k_m_X8_361 k_i_yX8_manOf k_s_yX8_manOf k_n_X8 (by decide +kernel) (m_rc8 hSt hP m_z_172) rfl rfl ⟨Nat.le_of_ble_eq_true rfl, Nat.le_of_ble_eq_true rfl⟩ (Nat.le_of_ble_eq_true rfl) ⟨Nat.zero_le _, Nat.zero_le _⟩ dX8_whoOf_2) hS (fun H locs hP hS => ?_)
  refine lv_istore_n (lv' := [(2, .int r1), (0, .ref (m_ad G 172)), (1, .int x1)]) X.1 X.2.1 dX8_whoOf_5 rfl hl (by decide) rfl (fun ls hl => ?_)
  refine lv_aload_n X.1 X.2.1 dX8_whoOf_6 rfl (lv_at hl 1 rfl) ?_
  refine m_g8 (v := .ref (m_ad G 177)) X hSt hP m_z_172 7 (by decide) rfl k_f_X8_27 dX8_whoOf_7 ?_
  refine lv_iload_n X.1 X.2.1 dX8_whoOf_10 rfl (lv_at hl 0 rfl) ?_
  obtain ⟨hg2, hres⟩ := m_gd_e hres
  refine m_ia (j := r1.toNatClampNeg) X hSt hP m_z_177 hg2 rfl dX8_whoOf_11 ?_
  refine lv_iconst (v := (-1)) X.1 X.2.1 dX8_whoOf_12 (by decide) ?_
  refine lv_icmp_eq (tgt := 25) X.1 X.2.1 dX8_whoOf_13 (by decide) (fun hc3 => ?_) (fun hc3 => ?_)
  · have hres := m_it hres hc3
    refine lv_aload_n X.1 X.2.1 dX8_whoOf_25 rfl (lv_at hl 1 rfl) ?_
    refine m_g8 (v := .ref (m_ad G 178)) X hSt hP m_z_172 8 (by decide) rfl k_f_X8_30 dX8_whoOf_26 ?_
    refine lv_iload_n X.1 X.2.1 dX8_whoOf_29 rfl (lv_at hl 0 rfl) ?_
    refine m_ia (j := r1.toNatClampNeg) X hSt hP m_z_178 hg2 rfl dX8_whoOf_30 ?_
    exact m_ri X hr hlk hP hS (Option.some.inj hres) rfl dX8_whoOf_31
  · have hres := m_if hres hc3
    refine lv_aload_n X.1 X.2.1 dX8_whoOf_16 rfl (lv_at hl 1 rfl) ?_
    refine m_g8 (v := .ref (m_ad G 177)) X hSt hP m_z_172 7 (by decide) rfl k_f_X8_27 dX8_whoOf_17 ?_
    refine lv_iload_n X.1 X.2.1 dX8_whoOf_20 rfl (lv_at hl 0 rfl) ?_
    refine m_ia (j := r1.toNatClampNeg) X hSt hP m_z_177 hg2 rfl dX8_whoOf_21 ?_
    refine lv_goto (tgt := 31) X.1 X.2.1 dX8_whoOf_22 (by decide) ?_
    exact m_ri X hr hlk hP hS (Option.some.inj hres) rfl dX8_whoOf_31
theorem dX8_answers_0 : decode cX8_answers 0 = .ok (.aload_n 0, 1) := by decide +kernel
theorem dX8_answers_1 : decode cX8_answers 1 = .ok (.iload_n 1, 1) := by decide +kernel
theorem dX8_answers_2 : decode cX8_answers 2 = .ok (.iload_n 2, 1) := by decide +kernel
theorem dX8_answers_3 : decode cX8_answers 3 = .ok (.invokevirtual 355, 3) := by decide +kernel
theorem dX8_answers_6 : decode cX8_answers 6 = .ok (.ifCond .ne 6, 3) := by decide +kernel
theorem dX8_answers_9 : decode cX8_answers 9 = .ok (.bipush (-10), 2) := by decide +kernel
theorem dX8_answers_11 : decode cX8_answers 11 = .ok (.ireturn, 1) := by decide +kernel
theorem dX8_answers_12 : decode cX8_answers 12 = .ok (.aload_n 0, 1) := by decide +kernel
theorem dX8_answers_13 : decode cX8_answers 13 = .ok (.iload_n 1, 1) := by decide +kernel
theorem dX8_answers_14 : decode cX8_answers 14 = .ok (.iload_n 2, 1) := by decide +kernel
theorem dX8_answers_15 : decode cX8_answers 15 = .ok (.invokevirtual 358, 3) := by decide +kernel
theorem dX8_answers_18 : decode cX8_answers 18 = .ok (.ifCond .eq 6, 3) := by decide +kernel
theorem dX8_answers_21 : decode cX8_answers 21 = .ok (.bipush (-20), 2) := by decide +kernel
theorem dX8_answers_23 : decode cX8_answers 23 = .ok (.ireturn, 1) := by decide +kernel
theorem dX8_answers_24 : decode cX8_answers 24 = .ok (.aload_n 0, 1) := by decide +kernel
theorem dX8_answers_25 : decode cX8_answers 25 = .ok (.iload_n 2, 1) := by decide +kernel
theorem dX8_answers_26 : decode cX8_answers 26 = .ok (.invokevirtual 350, 3) := by decide +kernel
theorem dX8_answers_29 : decode cX8_answers 29 = .ok (.aload_n 0, 1) := by decide +kernel
theorem dX8_answers_30 : decode cX8_answers 30 = .ok (.iload_n 1, 1) := by decide +kernel
theorem dX8_answers_31 : decode cX8_answers 31 = .ok (.invokevirtual 364, 3) := by decide +kernel
theorem dX8_answers_34 : decode cX8_answers 34 = .ok (.ireturn, 1) := by decide +kernel
def f_X8_answers (n : Nat) (x1 : Int32) (x2 : Int32) (M : m_M) : Option (Int32 × m_M) :=
  m_o2 (f_X8_isAsked n x1 x2 M) fun r1 M2 =>
  if r1 = 0 then
  some ((-10), M2)
  else
  m_ob (f_X8_isEarly x1 x2 M2) fun r5 =>
  if r5 = 0 then
  m_ob (f_X8_layToday n x2 M2) fun M8 =>
  m_ob (f_X8_whoOf x1 M8) fun r9 =>
  some (r9, M8)
  else
  some ((-20), M2)
set_option maxHeartbeats 4000000 in
set_option maxRecDepth 100000 in
theorem c_X8_answers (l : Launch) (G : m_G) {n : Nat} {x1 : Int32} {x2 : Int32} {M : m_M} {r0 : Int32} {M0 : m_M}  (hres : f_X8_answers n x1 x2 M = some (r0, M0)) : Met l yX8_answers (m_U yX8_answers cX8_answers 3 (some .int)) (m_R 8 182) (m_Pc G [.ref (m_ad G 172), .int x1, .int x2] M) (m_Qi G r0 M0) 0 0 (m_A G) := by
  refine m_i0 (n := 3) RX8 rfl (by decide) (Nat.le_of_ble_eq_true rfl) ?_
  intro p e s m args below meth c X hr hlk hSt hP hS ls hl
  have hl : lv_has ls 3 [(0, .ref (m_ad G 172)), (1, .int x1), (2, .int x2)] := hl
  unfold f_X8_answers at hres
  refine lv_aload_n X.1 X.2.1 dX8_answers_0 rfl (lv_at hl 0 rfl) ?_
  refine lv_iload_n X.1 X.2.1 dX8_answers_1 rfl (lv_at hl 1 rfl) ?_
  refine lv_iload_n X.1 X.2.1 dX8_answers_2 rfl (lv_at hl 2 rfl) ?_
  obtain ⟨r1, M2, err1, hres⟩ := m_o2_e hres
  refine m_bz (m_cV (n := 2) (As := [.int x1, .int x2]) (rest := []) X hSt hP hS hl.1 (c_X8_isAsked l G  err1) k_c_yX8_isAsked k_m_X8_355 k_i_yX8_isAsked k_s_yX8_isAsked k_n_X8 (by decide +kernel) (m_rc8 hSt hP m_z_172) rfl rfl ⟨Nat.le_of_ble_eq_true rfl, Nat.le_of_ble_eq_true rfl⟩ (Nat.le_of_ble_eq_true rfl) ⟨Nat.zero_le _, Nat.zero_le _⟩ dX8_answers_3) hS (fun H locs hP hS hz3 => ?_)
  refine lv_if_ne (tgt := 12) X.1 X.2.1 dX8_answers_6 (by decide) (fun hc4 => ?_) (fun hc4 => ?_)
  · have hres := m_if hres hc4
    refine lv_aload_n X.1 X.2.1 dX8_answers_12 rfl (lv_at hl 0 rfl) ?_
    refine lv_iload_n X.1 X.2.1 dX8_answers_13 rfl (lv_at hl 1 rfl) ?_
    refine lv_iload_n X.1 X.2.1 dX8_answers_14 rfl (lv_at hl 2 rfl) ?_
    obtain ⟨r5, err5, hres⟩ := m_ob_e hres
    refine m_bz (m_cV (n := 2) (As := [.int x1, .int x2]) (rest := []) X hSt hP hS hl.1 (c_X8_isEarly l G  err5) k_c_yX8_isEarly k_m_X8_358 k_i_yX8_isEarly k_s_yX8_isEarly k_n_X8 (by decide +kernel) (m_rc8 hSt hP m_z_172) rfl rfl ⟨Nat.le_of_ble_eq_true rfl, Nat.le_of_ble_eq_true rfl⟩ (Nat.le_of_ble_eq_true rfl) ⟨Nat.zero_le _, Nat.zero_le _⟩ dX8_answers_15) hS (fun H locs hP hS hz6 => ?_)
    refine lv_if_eq (tgt := 24) X.1 X.2.1 dX8_answers_18 (by decide) (fun hc7 => ?_) (fun hc7 => ?_)
    · have hres := m_it hres hc7
      refine lv_aload_n X.1 X.2.1 dX8_answers_24 rfl (lv_at hl 0 rfl) ?_
      refine lv_iload_n X.1 X.2.1 dX8_answers_25 rfl (lv_at hl 2 rfl) ?_
      obtain ⟨M8, eM8, hres⟩ := m_ob_e hres
      refine m_bv (m_cV (n := 1) (As := [.int x2]) (rest := []) X hSt hP hS hl.1 (c_X8_layToday l G  eM8) k_c_yX8_layToday k_m_X8_350 k_i_yX8_layToday k_s_yX8_layToday k_n_X8 (by decide +kernel) (m_rc8 hSt hP m_z_172) rfl rfl ⟨Nat.le_of_ble_eq_true rfl, Nat.le_of_ble_eq_true rfl⟩ (Nat.le_of_ble_eq_true rfl) ⟨Nat.zero_le _, Nat.zero_le _⟩ dX8_answers_26) hS (fun H locs hP hS => ?_)
      refine lv_aload_n X.1 X.2.1 dX8_answers_29 rfl (lv_at hl 0 rfl) ?_
      refine lv_iload_n X.1 X.2.1 dX8_answers_30 rfl (lv_at hl 1 rfl) ?_
      obtain ⟨r9, err9, hres⟩ := m_ob_e hres
      refine m_bi (m_cV (n := 1) (As := [.int x1]) (rest := []) X hSt hP hS hl.1 (c_X8_whoOf l G  err9) k_c_yX8_whoOf k_m_X8_364 k_i_yX8_whoOf k_s_yX8_whoOf k_n_X8 (by decide +kernel) (m_rc8 hSt hP m_z_172) rfl rfl ⟨Nat.le_of_ble_eq_true rfl, Nat.le_of_ble_eq_true rfl⟩ (Nat.le_of_ble_eq_true rfl) ⟨Nat.zero_le _, Nat.zero_le _⟩ dX8_answers_31) hS (fun H locs hP hS => ?_)
      exact m_ri X hr hlk hP hS (Prod.mk.inj (Option.some.inj hres)).1 (Prod.mk.inj (Option.some.inj hres)).2 dX8_answers_34
    · have hres := m_if hres hc7
      refine lv_bipush (v := (-20)) X.1 X.2.1 dX8_answers_21 (by decide) ?_
      exact m_ri X hr hlk hP hS (Prod.mk.inj (Option.some.inj hres)).1 (Prod.mk.inj (Option.some.inj hres)).2 dX8_answers_23
  · have hres := m_it hres hc4
    refine lv_bipush (v := (-10)) X.1 X.2.1 dX8_answers_9 (by decide) ?_
    exact m_ri X hr hlk hP hS (Prod.mk.inj (Option.some.inj hres)).1 (Prod.mk.inj (Option.some.inj hres)).2 dX8_answers_11
theorem dX8_isAsk_0 : decode cX8_isAsk 0 = .ok (.iload_n 0, 1) := by decide +kernel
theorem dX8_isAsk_1 : decode cX8_isAsk 1 = .ok (.i2l, 1) := by decide +kernel
theorem dX8_isAsk_2 : decode cX8_isAsk 2 = .ok (.lconst 0, 1) := by decide +kernel
theorem dX8_isAsk_3 : decode cX8_isAsk 3 = .ok (.ldc2_w 115, 3) := by decide +kernel
theorem dX8_isAsk_6 : decode cX8_isAsk 6 = .ok (.invokestatic 111, 3) := by decide +kernel
theorem dX8_isAsk_9 : decode cX8_isAsk 9 = .ok (.ireturn, 1) := by decide +kernel
def f_X8_isAsk (x0 : Int32) : Int32 :=
  m_bd (f_X8_isIn x0.toInt64 0 3) fun r1 =>
  r1
set_option maxHeartbeats 4000000 in
set_option maxRecDepth 100000 in
theorem c_X8_isAsk (l : Launch) (G : m_G) {x0 : Int32} {M : m_M} {r0 : Int32}  (hres : f_X8_isAsk x0 = r0) : Met l yX8_isAsk (m_U yX8_isAsk cX8_isAsk 1 (some .boolean)) (m_R 1 25) (m_Pc G [.int x0] M) (m_Qz G r0 M) 0 0 (m_A G) := by
  refine m_i0 (n := 1) RX8 rfl (by decide) (Nat.le_of_ble_eq_true rfl) ?_
  intro p e s m args below meth c X hr hlk hSt hP hS ls hl
  have hl : lv_has ls 1 [(0, .int x0)] := hl
  unfold f_X8_isAsk at hres
  refine lv_iload_n X.1 X.2.1 dX8_isAsk_0 rfl (lv_at hl 0 rfl) ?_
  refine lv_i2l (v := x0.toInt64) X.1 X.2.1 dX8_isAsk_1 rfl ?_
  refine lv_lconst (v := 0) X.1 X.2.1 dX8_isAsk_2 (by decide) ?_
  refine lv_ldc2 (v := 3) X.1 X.2.1 X.2.2.2.1 (X.2.2.2.2 _ k_l_X8_115) dX8_isAsk_3 ?_
  obtain ⟨r1, err1, hres⟩ := m_bd_e hres
  refine m_bz (m_cS (n := 3) (As := [.long x0.toInt64, .long 0, .long 3]) (rest := []) X hSt hP hS hl.1 (c_X8_isIn l G (M := M)  err1) k_c_yX8_isIn k_m_X8_111 k_t_yX8_isIn k_n_X8 (by decide +kernel) rfl rfl ⟨Nat.le_of_ble_eq_true rfl, Nat.le_of_ble_eq_true rfl⟩ (Nat.le_of_ble_eq_true rfl) ⟨Nat.zero_le _, Nat.zero_le _⟩ dX8_isAsk_6) hS (fun H locs hP hS hz2 => ?_)
  exact m_rz X hr hlk hP hS hres rfl hz2 dX8_isAsk_9
theorem dX8_owedOf_0 : decode cX8_owedOf 0 = .ok (.aload_n 0, 1) := by decide +kernel
theorem dX8_owedOf_1 : decode cX8_owedOf 1 = .ok (.aload_n 0, 1) := by decide +kernel
theorem dX8_owedOf_2 : decode cX8_owedOf 2 = .ok (.getfield 51, 3) := by decide +kernel
theorem dX8_owedOf_5 : decode cX8_owedOf 5 = .ok (.iload_n 1, 1) := by decide +kernel
theorem dX8_owedOf_6 : decode cX8_owedOf 6 = .ok (.iaload, 1) := by decide +kernel
theorem dX8_owedOf_7 : decode cX8_owedOf 7 = .ok (.iconst 4, 1) := by decide +kernel
theorem dX8_owedOf_8 : decode cX8_owedOf 8 = .ok (.invokevirtual 136, 3) := by decide +kernel
theorem dX8_owedOf_11 : decode cX8_owedOf 11 = .ok (.aload_n 0, 1) := by decide +kernel
theorem dX8_owedOf_12 : decode cX8_owedOf 12 = .ok (.getfield 54, 3) := by decide +kernel
theorem dX8_owedOf_15 : decode cX8_owedOf 15 = .ok (.iload_n 1, 1) := by decide +kernel
theorem dX8_owedOf_16 : decode cX8_owedOf 16 = .ok (.iaload, 1) := by decide +kernel
theorem dX8_owedOf_17 : decode cX8_owedOf 17 = .ok (.isub, 1) := by decide +kernel
theorem dX8_owedOf_18 : decode cX8_owedOf 18 = .ok (.istore_n 2, 1) := by decide +kernel
theorem dX8_owedOf_19 : decode cX8_owedOf 19 = .ok (.iload_n 2, 1) := by decide +kernel
theorem dX8_owedOf_20 : decode cX8_owedOf 20 = .ok (.ifCond .ge 7, 3) := by decide +kernel
theorem dX8_owedOf_23 : decode cX8_owedOf 23 = .ok (.iconst 0, 1) := by decide +kernel
theorem dX8_owedOf_24 : decode cX8_owedOf 24 = .ok (.goto 4, 3) := by decide +kernel
theorem dX8_owedOf_27 : decode cX8_owedOf 27 = .ok (.iload_n 2, 1) := by decide +kernel
theorem dX8_owedOf_28 : decode cX8_owedOf 28 = .ok (.ireturn, 1) := by decide +kernel
def f_X8_owedOf (x1 : Int32) (M : m_M) : Option Int32 :=
  m_gd (m_in x1 60) (
  m_ob (f_X8_of (M.1 185 x1.toNatClampNeg) 4 M) fun r2 =>
  if (0 : Int32) ≤ (r2 - (M.1 186 x1.toNatClampNeg)) then
  some (r2 - (M.1 186 x1.toNatClampNeg))
  else
  some 0)
set_option maxHeartbeats 4000000 in
set_option maxRecDepth 100000 in
theorem c_X8_owedOf (l : Launch) (G : m_G) {x1 : Int32} {M : m_M} {r0 : Int32}  (hres : f_X8_owedOf x1 M = some r0) : Met l yX8_owedOf (m_U yX8_owedOf cX8_owedOf 3 (some .int)) (m_R 1 22) (m_Pc G [.ref (m_ad G 172), .int x1] M) (m_Qi G r0 M) 0 0 (m_A G) := by
  refine m_i0 (n := 3) RX8 rfl (by decide) (Nat.le_of_ble_eq_true rfl) ?_
  intro p e s m args below meth c X hr hlk hSt hP hS ls hl
  have hl : lv_has ls 3 [(0, .ref (m_ad G 172)), (1, .int x1)] := hl
  unfold f_X8_owedOf at hres
  refine lv_aload_n X.1 X.2.1 dX8_owedOf_0 rfl (lv_at hl 0 rfl) ?_
  refine lv_aload_n X.1 X.2.1 dX8_owedOf_1 rfl (lv_at hl 0 rfl) ?_
  refine m_g8 (v := .ref (m_ad G 185)) X hSt hP m_z_172 15 (by decide) rfl k_f_X8_51 dX8_owedOf_2 ?_
  refine lv_iload_n X.1 X.2.1 dX8_owedOf_5 rfl (lv_at hl 1 rfl) ?_
  obtain ⟨hg1, hres⟩ := m_gd_e hres
  refine m_ia (j := x1.toNatClampNeg) X hSt hP m_z_185 hg1 rfl dX8_owedOf_6 ?_
  refine lv_iconst (v := 4) X.1 X.2.1 dX8_owedOf_7 (by decide) ?_
  obtain ⟨r2, err2, hres⟩ := m_ob_e hres
  refine m_bi (m_cV (n := 2) (As := [.int (M.1 185 x1.toNatClampNeg), .int 4]) (rest := []) X hSt hP hS hl.1 (c_X8_of l G  err2) k_c_yX8_of k_m_X8_136 k_i_yX8_of k_s_yX8_of k_n_X8 (by decide +kernel) (m_rc8 hSt hP m_z_172) rfl rfl ⟨Nat.le_of_ble_eq_true rfl, Nat.le_of_ble_eq_true rfl⟩ (Nat.le_of_ble_eq_true rfl) ⟨Nat.zero_le _, Nat.zero_le _⟩ dX8_owedOf_8) hS (fun H locs hP hS => ?_)
  refine lv_aload_n X.1 X.2.1 dX8_owedOf_11 rfl (lv_at hl 0 rfl) ?_
  refine m_g8 (v := .ref (m_ad G 186)) X hSt hP m_z_172 16 (by decide) rfl k_f_X8_54 dX8_owedOf_12 ?_
  refine lv_iload_n X.1 X.2.1 dX8_owedOf_15 rfl (lv_at hl 1 rfl) ?_
  refine m_ia (j := x1.toNatClampNeg) X hSt hP m_z_186 hg1 rfl dX8_owedOf_16 ?_
  refine lv_isub X.1 X.2.1 dX8_owedOf_17 ?_
  refine lv_istore_n (lv' := [(2, .int (r2 - (M.1 186 x1.toNatClampNeg))), (0, .ref (m_ad G 172)), (1, .int x1)]) X.1 X.2.1 dX8_owedOf_18 rfl hl (by decide) rfl (fun ls hl => ?_)
  refine lv_iload_n X.1 X.2.1 dX8_owedOf_19 rfl (lv_at hl 0 rfl) ?_
  refine lv_if_ge (tgt := 27) X.1 X.2.1 dX8_owedOf_20 (by decide) (fun hc3 => ?_) (fun hc3 => ?_)
  · have hres := m_it hres hc3
    refine lv_iload_n X.1 X.2.1 dX8_owedOf_27 rfl (lv_at hl 0 rfl) ?_
    exact m_ri X hr hlk hP hS (Option.some.inj hres) rfl dX8_owedOf_28
  · have hres := m_if hres hc3
    refine lv_iconst (v := 0) X.1 X.2.1 dX8_owedOf_23 (by decide) ?_
    refine lv_goto (tgt := 28) X.1 X.2.1 dX8_owedOf_24 (by decide) ?_
    exact m_ri X hr hlk hP hS (Option.some.inj hres) rfl dX8_owedOf_28
theorem dX8_thereOf_0 : decode cX8_thereOf 0 = .ok (.aload_n 0, 1) := by decide +kernel
theorem dX8_thereOf_1 : decode cX8_thereOf 1 = .ok (.getfield 57, 3) := by decide +kernel
theorem dX8_thereOf_4 : decode cX8_thereOf 4 = .ok (.iload_n 1, 1) := by decide +kernel
theorem dX8_thereOf_5 : decode cX8_thereOf 5 = .ok (.iaload, 1) := by decide +kernel
theorem dX8_thereOf_6 : decode cX8_thereOf 6 = .ok (.aload_n 0, 1) := by decide +kernel
theorem dX8_thereOf_7 : decode cX8_thereOf 7 = .ok (.getfield 60, 3) := by decide +kernel
theorem dX8_thereOf_10 : decode cX8_thereOf 10 = .ok (.iload_n 1, 1) := by decide +kernel
theorem dX8_thereOf_11 : decode cX8_thereOf 11 = .ok (.iaload, 1) := by decide +kernel
theorem dX8_thereOf_12 : decode cX8_thereOf 12 = .ok (.isub, 1) := by decide +kernel
theorem dX8_thereOf_13 : decode cX8_thereOf 13 = .ok (.istore_n 2, 1) := by decide +kernel
theorem dX8_thereOf_14 : decode cX8_thereOf 14 = .ok (.iload_n 2, 1) := by decide +kernel
theorem dX8_thereOf_15 : decode cX8_thereOf 15 = .ok (.ifCond .ge 7, 3) := by decide +kernel
theorem dX8_thereOf_18 : decode cX8_thereOf 18 = .ok (.iconst 0, 1) := by decide +kernel
theorem dX8_thereOf_19 : decode cX8_thereOf 19 = .ok (.goto 4, 3) := by decide +kernel
theorem dX8_thereOf_22 : decode cX8_thereOf 22 = .ok (.iload_n 2, 1) := by decide +kernel
theorem dX8_thereOf_23 : decode cX8_thereOf 23 = .ok (.ireturn, 1) := by decide +kernel
def f_X8_thereOf (x1 : Int32) (M : m_M) : Option Int32 :=
  m_gd (m_in x1 60) (
  m_bd ((M.1 187 x1.toNatClampNeg) - (M.1 188 x1.toNatClampNeg)) fun t2 =>
  if (0 : Int32) ≤ t2 then
  some t2
  else
  some 0)
set_option maxHeartbeats 4000000 in
set_option maxRecDepth 100000 in
theorem c_X8_thereOf (l : Launch) (G : m_G) {x1 : Int32} {M : m_M} {r0 : Int32}  (hres : f_X8_thereOf x1 M = some r0) : Met l yX8_thereOf (m_U yX8_thereOf cX8_thereOf 3 (some .int)) (m_R 0 0) (m_Pc G [.ref (m_ad G 172), .int x1] M) (m_Qi G r0 M) 0 0 (m_A G) := by
  refine m_i0 (n := 3) RX8 rfl (by decide) (Nat.le_of_ble_eq_true rfl) ?_
  intro p e s m args below meth c X hr hlk hSt hP hS ls hl
  have hl : lv_has ls 3 [(0, .ref (m_ad G 172)), (1, .int x1)] := hl
  unfold f_X8_thereOf at hres
  refine lv_aload_n X.1 X.2.1 dX8_thereOf_0 rfl (lv_at hl 0 rfl) ?_
  refine m_g8 (v := .ref (m_ad G 187)) X hSt hP m_z_172 17 (by decide) rfl k_f_X8_57 dX8_thereOf_1 ?_
  refine lv_iload_n X.1 X.2.1 dX8_thereOf_4 rfl (lv_at hl 1 rfl) ?_
  obtain ⟨hg1, hres⟩ := m_gd_e hres
  refine m_ia (j := x1.toNatClampNeg) X hSt hP m_z_187 hg1 rfl dX8_thereOf_5 ?_
  refine lv_aload_n X.1 X.2.1 dX8_thereOf_6 rfl (lv_at hl 0 rfl) ?_
  refine m_g8 (v := .ref (m_ad G 188)) X hSt hP m_z_172 18 (by decide) rfl k_f_X8_60 dX8_thereOf_7 ?_
  refine lv_iload_n X.1 X.2.1 dX8_thereOf_10 rfl (lv_at hl 1 rfl) ?_
  refine m_ia (j := x1.toNatClampNeg) X hSt hP m_z_188 hg1 rfl dX8_thereOf_11 ?_
  refine lv_isub X.1 X.2.1 dX8_thereOf_12 ?_
  obtain ⟨t2, et2, hres⟩ := m_bd_e hres
  refine m_ti et2 ?_
  refine lv_istore_n (lv' := [(2, .int t2), (0, .ref (m_ad G 172)), (1, .int x1)]) X.1 X.2.1 dX8_thereOf_13 rfl hl (by decide) rfl (fun ls hl => ?_)
  refine lv_iload_n X.1 X.2.1 dX8_thereOf_14 rfl (lv_at hl 0 rfl) ?_
  refine lv_if_ge (tgt := 22) X.1 X.2.1 dX8_thereOf_15 (by decide) (fun hc3 => ?_) (fun hc3 => ?_)
  · have hres := m_it hres hc3
    refine lv_iload_n X.1 X.2.1 dX8_thereOf_22 rfl (lv_at hl 0 rfl) ?_
    exact m_ri X hr hlk hP hS (Option.some.inj hres) rfl dX8_thereOf_23
  · have hres := m_if hres hc3
    refine lv_iconst (v := 0) X.1 X.2.1 dX8_thereOf_18 (by decide) ?_
    refine lv_goto (tgt := 23) X.1 X.2.1 dX8_thereOf_19 (by decide) ?_
    exact m_ri X hr hlk hP hS (Option.some.inj hres) rfl dX8_thereOf_23
theorem dX8_isOpen_0 : decode cX8_isOpen 0 = .ok (.aload_n 0, 1) := by decide +kernel
theorem dX8_isOpen_1 : decode cX8_isOpen 1 = .ok (.iload_n 1, 1) := by decide +kernel
theorem dX8_isOpen_2 : decode cX8_isOpen 2 = .ok (.invokevirtual 361, 3) := by decide +kernel
theorem dX8_isOpen_5 : decode cX8_isOpen 5 = .ok (.istore_n 2, 1) := by decide +kernel
theorem dX8_isOpen_6 : decode cX8_isOpen 6 = .ok (.aload_n 0, 1) := by decide +kernel
theorem dX8_isOpen_7 : decode cX8_isOpen 7 = .ok (.iload_n 1, 1) := by decide +kernel
theorem dX8_isOpen_8 : decode cX8_isOpen 8 = .ok (.invokevirtual 364, 3) := by decide +kernel
theorem dX8_isOpen_11 : decode cX8_isOpen 11 = .ok (.iconst (-1), 1) := by decide +kernel
theorem dX8_isOpen_12 : decode cX8_isOpen 12 = .ok (.if_icmp .ne 5, 3) := by decide +kernel
theorem dX8_isOpen_15 : decode cX8_isOpen 15 = .ok (.iconst 0, 1) := by decide +kernel
theorem dX8_isOpen_16 : decode cX8_isOpen 16 = .ok (.ireturn, 1) := by decide +kernel
theorem dX8_isOpen_17 : decode cX8_isOpen 17 = .ok (.aload_n 0, 1) := by decide +kernel
theorem dX8_isOpen_18 : decode cX8_isOpen 18 = .ok (.getfield 27, 3) := by decide +kernel
theorem dX8_isOpen_21 : decode cX8_isOpen 21 = .ok (.iload_n 2, 1) := by decide +kernel
theorem dX8_isOpen_22 : decode cX8_isOpen 22 = .ok (.iaload, 1) := by decide +kernel
theorem dX8_isOpen_23 : decode cX8_isOpen 23 = .ok (.iconst (-1), 1) := by decide +kernel
theorem dX8_isOpen_24 : decode cX8_isOpen 24 = .ok (.if_icmp .ne 30, 3) := by decide +kernel
theorem dX8_isOpen_27 : decode cX8_isOpen 27 = .ok (.aload_n 0, 1) := by decide +kernel
theorem dX8_isOpen_28 : decode cX8_isOpen 28 = .ok (.getfield 121, 3) := by decide +kernel
theorem dX8_isOpen_31 : decode cX8_isOpen 31 = .ok (.aload_n 0, 1) := by decide +kernel
theorem dX8_isOpen_32 : decode cX8_isOpen 32 = .ok (.getfield 33, 3) := by decide +kernel
theorem dX8_isOpen_35 : decode cX8_isOpen 35 = .ok (.iload_n 2, 1) := by decide +kernel
theorem dX8_isOpen_36 : decode cX8_isOpen 36 = .ok (.iaload, 1) := by decide +kernel
theorem dX8_isOpen_37 : decode cX8_isOpen 37 = .ok (.isub, 1) := by decide +kernel
theorem dX8_isOpen_38 : decode cX8_isOpen 38 = .ok (.sipush 360, 3) := by decide +kernel
theorem dX8_isOpen_41 : decode cX8_isOpen 41 = .ok (.if_icmp .gt 17, 3) := by decide +kernel
theorem dX8_isOpen_44 : decode cX8_isOpen 44 = .ok (.aload_n 0, 1) := by decide +kernel
theorem dX8_isOpen_45 : decode cX8_isOpen 45 = .ok (.getfield 36, 3) := by decide +kernel
theorem dX8_isOpen_48 : decode cX8_isOpen 48 = .ok (.iload_n 2, 1) := by decide +kernel
theorem dX8_isOpen_49 : decode cX8_isOpen 49 = .ok (.iaload, 1) := by decide +kernel
theorem dX8_isOpen_50 : decode cX8_isOpen 50 = .ok (.iconst 2, 1) := by decide +kernel
theorem dX8_isOpen_51 : decode cX8_isOpen 51 = .ok (.if_icmp .eq 7, 3) := by decide +kernel
theorem dX8_isOpen_54 : decode cX8_isOpen 54 = .ok (.iconst 1, 1) := by decide +kernel
theorem dX8_isOpen_55 : decode cX8_isOpen 55 = .ok (.goto 4, 3) := by decide +kernel
theorem dX8_isOpen_58 : decode cX8_isOpen 58 = .ok (.iconst 0, 1) := by decide +kernel
theorem dX8_isOpen_59 : decode cX8_isOpen 59 = .ok (.ireturn, 1) := by decide +kernel
def f_X8_isOpen (x1 : Int32) (M : m_M) : Option Int32 :=
  m_ob (f_X8_manOf x1 M) fun r1 =>
  m_ob (f_X8_whoOf x1 M) fun r2 =>
  if r2 = (-1) then
  some 0
  else
  m_gd (m_in r1 10) (
  if (M.1 177 r1.toNatClampNeg) = (-1) then
  if (360 : Int32) < ((M.1 172 26) - (M.1 179 r1.toNatClampNeg)) then
  some 0
  else
  if (M.1 180 r1.toNatClampNeg) = 2 then
  some 0
  else
  some 1
  else
  some 1)
set_option maxHeartbeats 4000000 in
set_option maxRecDepth 100000 in
theorem c_X8_isOpen (l : Launch) (G : m_G) {x1 : Int32} {M : m_M} {r0 : Int32}  (hres : f_X8_isOpen x1 M = some r0) : Met l yX8_isOpen (m_U yX8_isOpen cX8_isOpen 3 (some .boolean)) (m_R 3 65) (m_Pc G [.ref (m_ad G 172), .int x1] M) (m_Qz G r0 M) 0 0 (m_A G) := by
  refine m_i0 (n := 3) RX8 rfl (by decide) (Nat.le_of_ble_eq_true rfl) ?_
  intro p e s m args below meth c X hr hlk hSt hP hS ls hl
  have hl : lv_has ls 3 [(0, .ref (m_ad G 172)), (1, .int x1)] := hl
  unfold f_X8_isOpen at hres
  refine lv_aload_n X.1 X.2.1 dX8_isOpen_0 rfl (lv_at hl 0 rfl) ?_
  refine lv_iload_n X.1 X.2.1 dX8_isOpen_1 rfl (lv_at hl 1 rfl) ?_
  obtain ⟨r1, err1, hres⟩ := m_ob_e hres
  refine m_bi (m_cV (n := 1) (As := [.int x1]) (rest := []) X hSt hP hS hl.1 (c_X8_manOf l G  err1) k_c_yX8_manOf k_m_X8_361 k_i_yX8_manOf k_s_yX8_manOf k_n_X8 (by decide +kernel) (m_rc8 hSt hP m_z_172) rfl rfl ⟨Nat.le_of_ble_eq_true rfl, Nat.le_of_ble_eq_true rfl⟩ (Nat.le_of_ble_eq_true rfl) ⟨Nat.zero_le _, Nat.zero_le _⟩ dX8_isOpen_2) hS (fun H locs hP hS => ?_)
  refine lv_istore_n (lv' := [(2, .int r1), (0, .ref (m_ad G 172)), (1, .int x1)]) X.1 X.2.1 dX8_isOpen_5 rfl hl (by decide) rfl (fun ls hl => ?_)
  refine lv_aload_n X.1 X.2.1 dX8_isOpen_6 rfl (lv_at hl 1 rfl) ?_
  refine lv_iload_n X.1 X.2.1 dX8_isOpen_7 rfl (lv_at hl 2 rfl) ?_
  obtain ⟨r2, err2, hres⟩ := m_ob_e hres
  refine m_bi (m_cV (n := 1) (As := [.int x1]) (rest := []) X hSt hP hS hl.1 (c_X8_whoOf l G  err2) k_c_yX8_whoOf k_m_X8_364 k_i_yX8_whoOf k_s_yX8_whoOf k_n_X8 (by decide +kernel) (m_rc8 hSt hP m_z_172) rfl rfl ⟨Nat.le_of_ble_eq_true rfl, Nat.le_of_ble_eq_true rfl⟩ (Nat.le_of_ble_eq_true rfl) ⟨Nat.zero_le _, Nat.zero_le _⟩ dX8_isOpen_8) hS (fun H locs hP hS => ?_)
  refine lv_iconst (v := (-1)) X.1 X.2.1 dX8_isOpen_11 (by decide) ?_
  refine lv_icmp_ne (tgt := 17) X.1 X.2.1 dX8_isOpen_12 (by decide) (fun hc3 => ?_) (fun hc3 => ?_)
  · have hres := m_if hres hc3
    refine lv_aload_n X.1 X.2.1 dX8_isOpen_17 rfl (lv_at hl 1 rfl) ?_
    refine m_g8 (v := .ref (m_ad G 177)) X hSt hP m_z_172 7 (by decide) rfl k_f_X8_27 dX8_isOpen_18 ?_
    refine lv_iload_n X.1 X.2.1 dX8_isOpen_21 rfl (lv_at hl 0 rfl) ?_
    obtain ⟨hg4, hres⟩ := m_gd_e hres
    refine m_ia (j := r1.toNatClampNeg) X hSt hP m_z_177 hg4 rfl dX8_isOpen_22 ?_
    refine lv_iconst (v := (-1)) X.1 X.2.1 dX8_isOpen_23 (by decide) ?_
    refine lv_icmp_ne (tgt := 54) X.1 X.2.1 dX8_isOpen_24 (by decide) (fun hc5 => ?_) (fun hc5 => ?_)
    · have hres := m_if hres hc5
      refine lv_iconst (v := 1) X.1 X.2.1 dX8_isOpen_54 (by decide) ?_
      refine lv_goto (tgt := 59) X.1 X.2.1 dX8_isOpen_55 (by decide) ?_
      exact m_rz X hr hlk hP hS (Option.some.inj hres) rfl (by decide) dX8_isOpen_59
    · have hres := m_it hres hc5
      refine lv_aload_n X.1 X.2.1 dX8_isOpen_27 rfl (lv_at hl 1 rfl) ?_
      refine m_g8 (v := .int (M.1 172 26)) X hSt hP m_z_172 26 (by decide) rfl k_f_X8_121 dX8_isOpen_28 ?_
      refine lv_aload_n X.1 X.2.1 dX8_isOpen_31 rfl (lv_at hl 1 rfl) ?_
      refine m_g8 (v := .ref (m_ad G 179)) X hSt hP m_z_172 9 (by decide) rfl k_f_X8_33 dX8_isOpen_32 ?_
      refine lv_iload_n X.1 X.2.1 dX8_isOpen_35 rfl (lv_at hl 0 rfl) ?_
      refine m_ia (j := r1.toNatClampNeg) X hSt hP m_z_179 hg4 rfl dX8_isOpen_36 ?_
      refine lv_isub X.1 X.2.1 dX8_isOpen_37 ?_
      refine lv_sipush (v := 360) X.1 X.2.1 dX8_isOpen_38 (by decide) ?_
      refine lv_icmp_gt (tgt := 58) X.1 X.2.1 dX8_isOpen_41 (by decide) (fun hc6 => ?_) (fun hc6 => ?_)
      · have hres := m_it hres hc6
        refine lv_iconst (v := 0) X.1 X.2.1 dX8_isOpen_58 (by decide) ?_
        exact m_rz X hr hlk hP hS (Option.some.inj hres) rfl (by decide) dX8_isOpen_59
      · have hres := m_if hres hc6
        refine lv_aload_n X.1 X.2.1 dX8_isOpen_44 rfl (lv_at hl 1 rfl) ?_
        refine m_g8 (v := .ref (m_ad G 180)) X hSt hP m_z_172 10 (by decide) rfl k_f_X8_36 dX8_isOpen_45 ?_
        refine lv_iload_n X.1 X.2.1 dX8_isOpen_48 rfl (lv_at hl 0 rfl) ?_
        refine m_ia (j := r1.toNatClampNeg) X hSt hP m_z_180 hg4 rfl dX8_isOpen_49 ?_
        refine lv_iconst (v := 2) X.1 X.2.1 dX8_isOpen_50 (by decide) ?_
        refine lv_icmp_eq (tgt := 58) X.1 X.2.1 dX8_isOpen_51 (by decide) (fun hc7 => ?_) (fun hc7 => ?_)
        · have hres := m_it hres hc7
          refine lv_iconst (v := 0) X.1 X.2.1 dX8_isOpen_58 (by decide) ?_
          exact m_rz X hr hlk hP hS (Option.some.inj hres) rfl (by decide) dX8_isOpen_59
        · have hres := m_if hres hc7
          refine lv_iconst (v := 1) X.1 X.2.1 dX8_isOpen_54 (by decide) ?_
          refine lv_goto (tgt := 59) X.1 X.2.1 dX8_isOpen_55 (by decide) ?_
          exact m_rz X hr hlk hP hS (Option.some.inj hres) rfl (by decide) dX8_isOpen_59
  · have hres := m_it hres hc3
    refine lv_iconst (v := 0) X.1 X.2.1 dX8_isOpen_15 (by decide) ?_
    exact m_rz X hr hlk hP hS (Option.some.inj hres) rfl (by decide) dX8_isOpen_16
theorem dX8_hiddenOf_0 : decode cX8_hiddenOf 0 = .ok (.iconst 0, 1) := by decide +kernel
theorem dX8_hiddenOf_1 : decode cX8_hiddenOf 1 = .ok (.istore_n 2, 1) := by decide +kernel
theorem dX8_hiddenOf_2 : decode cX8_hiddenOf 2 = .ok (.iconst 0, 1) := by decide +kernel
theorem dX8_hiddenOf_3 : decode cX8_hiddenOf 3 = .ok (.istore_n 3, 1) := by decide +kernel
theorem dX8_hiddenOf_4 : decode cX8_hiddenOf 4 = .ok (.iconst 0, 1) := by decide +kernel
theorem dX8_hiddenOf_5 : decode cX8_hiddenOf 5 = .ok (.istore 4, 2) := by decide +kernel
theorem dX8_hiddenOf_7 : decode cX8_hiddenOf 7 = .ok (.iload 4, 2) := by decide +kernel
theorem dX8_hiddenOf_9 : decode cX8_hiddenOf 9 = .ok (.aload_n 0, 1) := by decide +kernel
theorem dX8_hiddenOf_10 : decode cX8_hiddenOf 10 = .ok (.invokevirtual 133, 3) := by decide +kernel
theorem dX8_hiddenOf_13 : decode cX8_hiddenOf 13 = .ok (.if_icmp .ge 114, 3) := by decide +kernel
theorem dX8_hiddenOf_16 : decode cX8_hiddenOf 16 = .ok (.aload_n 0, 1) := by decide +kernel
theorem dX8_hiddenOf_17 : decode cX8_hiddenOf 17 = .ok (.iload 4, 2) := by decide +kernel
theorem dX8_hiddenOf_19 : decode cX8_hiddenOf 19 = .ok (.iconst 5, 1) := by decide +kernel
theorem dX8_hiddenOf_20 : decode cX8_hiddenOf 20 = .ok (.invokevirtual 136, 3) := by decide +kernel
theorem dX8_hiddenOf_23 : decode cX8_hiddenOf 23 = .ok (.ifCond .eq 15, 3) := by decide +kernel
theorem dX8_hiddenOf_26 : decode cX8_hiddenOf 26 = .ok (.aload_n 0, 1) := by decide +kernel
theorem dX8_hiddenOf_27 : decode cX8_hiddenOf 27 = .ok (.getfield 72, 3) := by decide +kernel
theorem dX8_hiddenOf_30 : decode cX8_hiddenOf 30 = .ok (.iload_n 3, 1) := by decide +kernel
theorem dX8_hiddenOf_31 : decode cX8_hiddenOf 31 = .ok (.ishr, 1) := by decide +kernel
theorem dX8_hiddenOf_32 : decode cX8_hiddenOf 32 = .ok (.iconst 1, 1) := by decide +kernel
theorem dX8_hiddenOf_33 : decode cX8_hiddenOf 33 = .ok (.iand, 1) := by decide +kernel
theorem dX8_hiddenOf_34 : decode cX8_hiddenOf 34 = .ok (.iconst 1, 1) := by decide +kernel
theorem dX8_hiddenOf_35 : decode cX8_hiddenOf 35 = .ok (.if_icmp .ne 7, 3) := by decide +kernel
theorem dX8_hiddenOf_38 : decode cX8_hiddenOf 38 = .ok (.iconst 1, 1) := by decide +kernel
theorem dX8_hiddenOf_39 : decode cX8_hiddenOf 39 = .ok (.goto 4, 3) := by decide +kernel
theorem dX8_hiddenOf_42 : decode cX8_hiddenOf 42 = .ok (.iconst 0, 1) := by decide +kernel
theorem dX8_hiddenOf_43 : decode cX8_hiddenOf 43 = .ok (.istore 5, 2) := by decide +kernel
theorem dX8_hiddenOf_45 : decode cX8_hiddenOf 45 = .ok (.iload_n 3, 1) := by decide +kernel
theorem dX8_hiddenOf_46 : decode cX8_hiddenOf 46 = .ok (.aload_n 0, 1) := by decide +kernel
theorem dX8_hiddenOf_47 : decode cX8_hiddenOf 47 = .ok (.iload 4, 2) := by decide +kernel
theorem dX8_hiddenOf_49 : decode cX8_hiddenOf 49 = .ok (.iconst 5, 1) := by decide +kernel
theorem dX8_hiddenOf_50 : decode cX8_hiddenOf 50 = .ok (.invokevirtual 136, 3) := by decide +kernel
theorem dX8_hiddenOf_53 : decode cX8_hiddenOf 53 = .ok (.iadd, 1) := by decide +kernel
theorem dX8_hiddenOf_54 : decode cX8_hiddenOf 54 = .ok (.istore_n 3, 1) := by decide +kernel
theorem dX8_hiddenOf_55 : decode cX8_hiddenOf 55 = .ok (.iload 5, 2) := by decide +kernel
theorem dX8_hiddenOf_57 : decode cX8_hiddenOf 57 = .ok (.ifCond .eq 64, 3) := by decide +kernel
theorem dX8_hiddenOf_60 : decode cX8_hiddenOf 60 = .ok (.iload 4, 2) := by decide +kernel
theorem dX8_hiddenOf_62 : decode cX8_hiddenOf 62 = .ok (.aload_n 0, 1) := by decide +kernel
theorem dX8_hiddenOf_63 : decode cX8_hiddenOf 63 = .ok (.getfield 51, 3) := by decide +kernel
theorem dX8_hiddenOf_66 : decode cX8_hiddenOf 66 = .ok (.iload_n 1, 1) := by decide +kernel
theorem dX8_hiddenOf_67 : decode cX8_hiddenOf 67 = .ok (.iaload, 1) := by decide +kernel
theorem dX8_hiddenOf_68 : decode cX8_hiddenOf 68 = .ok (.if_icmp .le 53, 3) := by decide +kernel
theorem dX8_hiddenOf_71 : decode cX8_hiddenOf 71 = .ok (.aload_n 0, 1) := by decide +kernel
theorem dX8_hiddenOf_72 : decode cX8_hiddenOf 72 = .ok (.iload 4, 2) := by decide +kernel
theorem dX8_hiddenOf_74 : decode cX8_hiddenOf 74 = .ok (.iconst 0, 1) := by decide +kernel
theorem dX8_hiddenOf_75 : decode cX8_hiddenOf 75 = .ok (.invokevirtual 136, 3) := by decide +kernel
theorem dX8_hiddenOf_78 : decode cX8_hiddenOf 78 = .ok (.aload_n 0, 1) := by decide +kernel
theorem dX8_hiddenOf_79 : decode cX8_hiddenOf 79 = .ok (.getfield 121, 3) := by decide +kernel
theorem dX8_hiddenOf_82 : decode cX8_hiddenOf 82 = .ok (.if_icmp .gt 39, 3) := by decide +kernel
theorem dX8_hiddenOf_85 : decode cX8_hiddenOf 85 = .ok (.aload_n 0, 1) := by decide +kernel
theorem dX8_hiddenOf_86 : decode cX8_hiddenOf 86 = .ok (.iload 4, 2) := by decide +kernel
theorem dX8_hiddenOf_88 : decode cX8_hiddenOf 88 = .ok (.iconst 1, 1) := by decide +kernel
theorem dX8_hiddenOf_89 : decode cX8_hiddenOf 89 = .ok (.invokevirtual 136, 3) := by decide +kernel
theorem dX8_hiddenOf_92 : decode cX8_hiddenOf 92 = .ok (.iconst 3, 1) := by decide +kernel
theorem dX8_hiddenOf_93 : decode cX8_hiddenOf 93 = .ok (.if_icmp .ne 28, 3) := by decide +kernel
theorem dX8_hiddenOf_96 : decode cX8_hiddenOf 96 = .ok (.aload_n 0, 1) := by decide +kernel
theorem dX8_hiddenOf_97 : decode cX8_hiddenOf 97 = .ok (.iload 4, 2) := by decide +kernel
theorem dX8_hiddenOf_99 : decode cX8_hiddenOf 99 = .ok (.iconst 2, 1) := by decide +kernel
theorem dX8_hiddenOf_100 : decode cX8_hiddenOf 100 = .ok (.invokevirtual 136, 3) := by decide +kernel
theorem dX8_hiddenOf_103 : decode cX8_hiddenOf 103 = .ok (.aload_n 0, 1) := by decide +kernel
theorem dX8_hiddenOf_104 : decode cX8_hiddenOf 104 = .ok (.iload_n 1, 1) := by decide +kernel
theorem dX8_hiddenOf_105 : decode cX8_hiddenOf 105 = .ok (.invokevirtual 361, 3) := by decide +kernel
theorem dX8_hiddenOf_108 : decode cX8_hiddenOf 108 = .ok (.if_icmp .ne 13, 3) := by decide +kernel
theorem dX8_hiddenOf_111 : decode cX8_hiddenOf 111 = .ok (.iload_n 2, 1) := by decide +kernel
theorem dX8_hiddenOf_112 : decode cX8_hiddenOf 112 = .ok (.aload_n 0, 1) := by decide +kernel
theorem dX8_hiddenOf_113 : decode cX8_hiddenOf 113 = .ok (.iload 4, 2) := by decide +kernel
theorem dX8_hiddenOf_115 : decode cX8_hiddenOf 115 = .ok (.iconst 4, 1) := by decide +kernel
theorem dX8_hiddenOf_116 : decode cX8_hiddenOf 116 = .ok (.invokevirtual 136, 3) := by decide +kernel
theorem dX8_hiddenOf_119 : decode cX8_hiddenOf 119 = .ok (.iadd, 1) := by decide +kernel
theorem dX8_hiddenOf_120 : decode cX8_hiddenOf 120 = .ok (.istore_n 2, 1) := by decide +kernel
theorem dX8_hiddenOf_121 : decode cX8_hiddenOf 121 = .ok (.iinc 4 1, 3) := by decide +kernel
theorem dX8_hiddenOf_124 : decode cX8_hiddenOf 124 = .ok (.goto (-117), 3) := by decide +kernel
theorem dX8_hiddenOf_127 : decode cX8_hiddenOf 127 = .ok (.iload_n 2, 1) := by decide +kernel
theorem dX8_hiddenOf_128 : decode cX8_hiddenOf 128 = .ok (.ireturn, 1) := by decide +kernel
def f_X8_hiddenOf_b43 (n : Nat) (x1 : Int32) (M : m_M) (q7 : Int32 → Int32 → Int32 → Option Int32) (x2 : Int32) (x3 : Int32) (x4 : Int32) (s0 : Int32) : Option Int32 :=
  m_ob (f_X8_of x4 5 M) fun r1 =>
  if s0 = 0 then
  q7 x2 (x3 + r1) (x4 + 1)
  else
  m_gd (m_in x1 60) (
  if x4 ≤ (M.1 185 x1.toNatClampNeg) then
  q7 x2 (x3 + r1) (x4 + 1)
  else
  m_ob (f_X8_of x4 0 M) fun r5 =>
  if (M.1 172 26) < r5 then
  q7 x2 (x3 + r1) (x4 + 1)
  else
  m_ob (f_X8_of x4 1 M) fun r7 =>
  if r7 = 3 then
  m_ob (f_X8_of x4 2 M) fun r9 =>
  m_ob (f_X8_manOf x1 M) fun r10 =>
  if r9 = r10 then
  m_ob (f_X8_of x4 4 M) fun r12 =>
  q7 (x2 + r12) (x3 + r1) (x4 + 1)
  else
  q7 x2 (x3 + r1) (x4 + 1)
  else
  q7 x2 (x3 + r1) (x4 + 1))
def f_X8_hiddenOf_b7 (n : Nat) (x1 : Int32) (M : m_M) : Nat → Int32 → Int32 → Int32 → Option Int32
  | 0, _, _, _ => none
  | u + 1, x2, x3, x4 =>
    m_bd (f_X8_notes M) fun r13 =>
  if r13 ≤ x4 then
  some x2
  else
  m_ob (f_X8_of x4 5 M) fun r15 =>
  if r15 = 0 then
  f_X8_hiddenOf_b43 n x1 M (f_X8_hiddenOf_b7 n x1 M u) x2 x3 x4 1
  else
  if (((M.1 172 24) >>> (x3 &&& 31)) &&& (1 : Int32)) = 1 then
  f_X8_hiddenOf_b43 n x1 M (f_X8_hiddenOf_b7 n x1 M u) x2 x3 x4 1
  else
  f_X8_hiddenOf_b43 n x1 M (f_X8_hiddenOf_b7 n x1 M u) x2 x3 x4 0
def f_X8_hiddenOf (n : Nat) (x1 : Int32) (M : m_M) : Option Int32 :=
  f_X8_hiddenOf_b7 n x1 M n 0 0 0
set_option maxHeartbeats 4000000 in
set_option maxRecDepth 100000 in
theorem c_X8_hiddenOf (l : Launch) (G : m_G) {n : Nat} {x1 : Int32} {M : m_M} {r0 : Int32}  (hres : f_X8_hiddenOf n x1 M = some r0) : Met l yX8_hiddenOf (m_U yX8_hiddenOf cX8_hiddenOf 6 (some .int)) (m_R 2 43) (m_Pc G [.ref (m_ad G 172), .int x1] M) (m_Qi G r0 M) 0 0 (m_A G) := by
  refine m_i0 (n := 6) RX8 rfl (by decide) (Nat.le_of_ble_eq_true rfl) ?_
  intro p e s m args below meth c X hr hlk hSt hP hS ls hl
  have hl : lv_has ls 6 [(0, .ref (m_ad G 172)), (1, .int x1)] := hl
  have B43 : ∀ (q7 : Int32 → Int32 → Int32 → Option Int32) (hq7 : ∀ (x2 : Int32) (x3 : Int32) (x4 : Int32) (H : Heap) (locs : List Loc) (ls : Array Slot), m_P G M H → va_S (m_A G) s.heap H locs → lv_has ls 6 [(0, .ref (m_ad G 172)), (1, .int x1), (2, .int x2), (3, .int x3), (4, .int x4)] → q7 x2 x3 x4 = some r0 → W p l e (m_R 2 43) s m args below meth c H locs 0 0 (MQ below (m_Qi G r0 M) args s 0 0 (m_A G)) (F0 m 7 ls [])) (x2 : Int32) (x3 : Int32) (x4 : Int32) (s0 : Int32) (H : Heap) (locs : List Loc) (ls : Array Slot), m_P G M H → va_S (m_A G) s.heap H locs → lv_has ls 6 [(0, .ref (m_ad G 172)), (1, .int x1), (2, .int x2), (3, .int x3), (4, .int x4)] → f_X8_hiddenOf_b43 n x1 M q7 x2 x3 x4 s0 = some r0 → W p l e (m_R 2 43) s m args below meth c H locs 0 0 (MQ below (m_Qi G r0 M) args s 0 0 (m_A G)) (F0 m 43 ls [.int s0]) := by
    intro q7 hq7 x2 x3 x4 s0 H locs ls hP hS hl hres
    unfold f_X8_hiddenOf_b43 at hres
    refine lv_istore (lv' := [(5, .int s0), (0, .ref (m_ad G 172)), (1, .int x1), (2, .int x2), (3, .int x3), (4, .int x4)]) X.1 X.2.1 dX8_hiddenOf_43 hl (by decide) rfl (fun ls hl => ?_)
    refine lv_iload_n X.1 X.2.1 dX8_hiddenOf_45 rfl (lv_at hl 4 rfl) ?_
    refine lv_aload_n X.1 X.2.1 dX8_hiddenOf_46 rfl (lv_at hl 1 rfl) ?_
    refine lv_iload X.1 X.2.1 dX8_hiddenOf_47 (lv_at hl 5 rfl) ?_
    refine lv_iconst (v := 5) X.1 X.2.1 dX8_hiddenOf_49 (by decide) ?_
    obtain ⟨r1, err1, hres⟩ := m_ob_e hres
    refine m_bi (m_cV (n := 2) (As := [.int x4, .int 5]) (rest := [.int x3]) X hSt hP hS hl.1 (c_X8_of l G  err1) k_c_yX8_of k_m_X8_136 k_i_yX8_of k_s_yX8_of k_n_X8 (by decide +kernel) (m_rc8 hSt hP m_z_172) rfl rfl ⟨Nat.le_of_ble_eq_true rfl, Nat.le_of_ble_eq_true rfl⟩ (Nat.le_of_ble_eq_true rfl) ⟨Nat.zero_le _, Nat.zero_le _⟩ dX8_hiddenOf_50) hS (fun H locs hP hS => ?_)
    refine lv_iadd X.1 X.2.1 dX8_hiddenOf_53 ?_
    refine lv_istore_n (lv' := [(3, .int (x3 + r1)), (5, .int s0), (0, .ref (m_ad G 172)), (1, .int x1), (2, .int x2), (4, .int x4)]) X.1 X.2.1 dX8_hiddenOf_54 rfl hl (by decide) rfl (fun ls hl => ?_)
    refine lv_iload X.1 X.2.1 dX8_hiddenOf_55 (lv_at hl 1 rfl) ?_
    refine lv_if_eq (tgt := 121) X.1 X.2.1 dX8_hiddenOf_57 (by decide) (fun hc2 => ?_) (fun hc2 => ?_)
    · have hres := m_it hres hc2
      refine lv_iinc (v := (x4 + 1)) (lv' := [(4, .int (x4 + 1)), (3, .int (x3 + r1)), (5, .int s0), (0, .ref (m_ad G 172)), (1, .int x1), (2, .int x2)]) X.1 X.2.1 dX8_hiddenOf_121 hl (k := 5) rfl rfl (by decide) rfl (fun ls hl => ?_)
      refine lv_goto (tgt := 7) X.1 X.2.1 dX8_hiddenOf_124 (by decide) ?_
      exact hq7 x2 (x3 + r1) (x4 + 1) _ _ _ hP hS (lv_sub hl [3, 4, 5, 1, 0] rfl) hres
    · have hres := m_if hres hc2
      refine lv_iload X.1 X.2.1 dX8_hiddenOf_60 (lv_at hl 5 rfl) ?_
      refine lv_aload_n X.1 X.2.1 dX8_hiddenOf_62 rfl (lv_at hl 2 rfl) ?_
      refine m_g8 (v := .ref (m_ad G 185)) X hSt hP m_z_172 15 (by decide) rfl k_f_X8_51 dX8_hiddenOf_63 ?_
      refine lv_iload_n X.1 X.2.1 dX8_hiddenOf_66 rfl (lv_at hl 3 rfl) ?_
      obtain ⟨hg3, hres⟩ := m_gd_e hres
      refine m_ia (j := x1.toNatClampNeg) X hSt hP m_z_185 hg3 rfl dX8_hiddenOf_67 ?_
      refine lv_icmp_le (tgt := 121) X.1 X.2.1 dX8_hiddenOf_68 (by decide) (fun hc4 => ?_) (fun hc4 => ?_)
      · have hres := m_it hres hc4
        refine lv_iinc (v := (x4 + 1)) (lv' := [(4, .int (x4 + 1)), (3, .int (x3 + r1)), (5, .int s0), (0, .ref (m_ad G 172)), (1, .int x1), (2, .int x2)]) X.1 X.2.1 dX8_hiddenOf_121 hl (k := 5) rfl rfl (by decide) rfl (fun ls hl => ?_)
        refine lv_goto (tgt := 7) X.1 X.2.1 dX8_hiddenOf_124 (by decide) ?_
        exact hq7 x2 (x3 + r1) (x4 + 1) _ _ _ hP hS (lv_sub hl [3, 4, 5, 1, 0] rfl) hres
      · have hres := m_if hres hc4
        refine lv_aload_n X.1 X.2.1 dX8_hiddenOf_71 rfl (lv_at hl 2 rfl) ?_
        refine lv_iload X.1 X.2.1 dX8_hiddenOf_72 (lv_at hl 5 rfl) ?_
        refine lv_iconst (v := 0) X.1 X.2.1 dX8_hiddenOf_74 (by decide) ?_
        obtain ⟨r5, err5, hres⟩ := m_ob_e hres
        refine m_bi (m_cV (n := 2) (As := [.int x4, .int 0]) (rest := []) X hSt hP hS hl.1 (c_X8_of l G  err5) k_c_yX8_of k_m_X8_136 k_i_yX8_of k_s_yX8_of k_n_X8 (by decide +kernel) (m_rc8 hSt hP m_z_172) rfl rfl ⟨Nat.le_of_ble_eq_true rfl, Nat.le_of_ble_eq_true rfl⟩ (Nat.le_of_ble_eq_true rfl) ⟨Nat.zero_le _, Nat.zero_le _⟩ dX8_hiddenOf_75) hS (fun H locs hP hS => ?_)
        refine lv_aload_n X.1 X.2.1 dX8_hiddenOf_78 rfl (lv_at hl 2 rfl) ?_
        refine m_g8 (v := .int (M.1 172 26)) X hSt hP m_z_172 26 (by decide) rfl k_f_X8_121 dX8_hiddenOf_79 ?_
        refine lv_icmp_gt (tgt := 121) X.1 X.2.1 dX8_hiddenOf_82 (by decide) (fun hc6 => ?_) (fun hc6 => ?_)
        · have hres := m_it hres hc6
          refine lv_iinc (v := (x4 + 1)) (lv' := [(4, .int (x4 + 1)), (3, .int (x3 + r1)), (5, .int s0), (0, .ref (m_ad G 172)), (1, .int x1), (2, .int x2)]) X.1 X.2.1 dX8_hiddenOf_121 hl (k := 5) rfl rfl (by decide) rfl (fun ls hl => ?_)
          refine lv_goto (tgt := 7) X.1 X.2.1 dX8_hiddenOf_124 (by decide) ?_
          exact hq7 x2 (x3 + r1) (x4 + 1) _ _ _ hP hS (lv_sub hl [3, 4, 5, 1, 0] rfl) hres
        · have hres := m_if hres hc6
          refine lv_aload_n X.1 X.2.1 dX8_hiddenOf_85 rfl (lv_at hl 2 rfl) ?_
          refine lv_iload X.1 X.2.1 dX8_hiddenOf_86 (lv_at hl 5 rfl) ?_
          refine lv_iconst (v := 1) X.1 X.2.1 dX8_hiddenOf_88 (by decide) ?_
          obtain ⟨r7, err7, hres⟩ := m_ob_e hres
          refine m_bi (m_cV (n := 2) (As := [.int x4, .int 1]) (rest := []) X hSt hP hS hl.1 (c_X8_of l G  err7) k_c_yX8_of k_m_X8_136 k_i_yX8_of k_s_yX8_of k_n_X8 (by decide +kernel) (m_rc8 hSt hP m_z_172) rfl rfl ⟨Nat.le_of_ble_eq_true rfl, Nat.le_of_ble_eq_true rfl⟩ (Nat.le_of_ble_eq_true rfl) ⟨Nat.zero_le _, Nat.zero_le _⟩ dX8_hiddenOf_89) hS (fun H locs hP hS => ?_)
          refine lv_iconst (v := 3) X.1 X.2.1 dX8_hiddenOf_92 (by decide) ?_
          refine lv_icmp_ne (tgt := 121) X.1 X.2.1 dX8_hiddenOf_93 (by decide) (fun hc8 => ?_) (fun hc8 => ?_)
          · have hres := m_if hres hc8
            refine lv_iinc (v := (x4 + 1)) (lv' := [(4, .int (x4 + 1)), (3, .int (x3 + r1)), (5, .int s0), (0, .ref (m_ad G 172)), (1, .int x1), (2, .int x2)]) X.1 X.2.1 dX8_hiddenOf_121 hl (k := 5) rfl rfl (by decide) rfl (fun ls hl => ?_)
            refine lv_goto (tgt := 7) X.1 X.2.1 dX8_hiddenOf_124 (by decide) ?_
            exact hq7 x2 (x3 + r1) (x4 + 1) _ _ _ hP hS (lv_sub hl [3, 4, 5, 1, 0] rfl) hres
          · have hres := m_it hres hc8
            refine lv_aload_n X.1 X.2.1 dX8_hiddenOf_96 rfl (lv_at hl 2 rfl) ?_
            refine lv_iload X.1 X.2.1 dX8_hiddenOf_97 (lv_at hl 5 rfl) ?_
            refine lv_iconst (v := 2) X.1 X.2.1 dX8_hiddenOf_99 (by decide) ?_
            obtain ⟨r9, err9, hres⟩ := m_ob_e hres
            refine m_bi (m_cV (n := 2) (As := [.int x4, .int 2]) (rest := []) X hSt hP hS hl.1 (c_X8_of l G  err9) k_c_yX8_of k_m_X8_136 k_i_yX8_of k_s_yX8_of k_n_X8 (by decide +kernel) (m_rc8 hSt hP m_z_172) rfl rfl ⟨Nat.le_of_ble_eq_true rfl, Nat.le_of_ble_eq_true rfl⟩ (Nat.le_of_ble_eq_true rfl) ⟨Nat.zero_le _, Nat.zero_le _⟩ dX8_hiddenOf_100) hS (fun H locs hP hS => ?_)
            refine lv_aload_n X.1 X.2.1 dX8_hiddenOf_103 rfl (lv_at hl 2 rfl) ?_
            refine lv_iload_n X.1 X.2.1 dX8_hiddenOf_104 rfl (lv_at hl 3 rfl) ?_
            obtain ⟨r10, err10, hres⟩ := m_ob_e hres
            refine m_bi (m_cV (n := 1) (As := [.int x1]) (rest := [.int r9]) X hSt hP hS hl.1 (c_X8_manOf l G  err10) k_c_yX8_manOf k_m_X8_361 k_i_yX8_manOf k_s_yX8_manOf k_n_X8 (by decide +kernel) (m_rc8 hSt hP m_z_172) rfl rfl ⟨Nat.le_of_ble_eq_true rfl, Nat.le_of_ble_eq_true rfl⟩ (Nat.le_of_ble_eq_true rfl) ⟨Nat.zero_le _, Nat.zero_le _⟩ dX8_hiddenOf_105) hS (fun H locs hP hS => ?_)
            refine lv_icmp_ne (tgt := 121) X.1 X.2.1 dX8_hiddenOf_108 (by decide) (fun hc11 => ?_) (fun hc11 => ?_)
            · have hres := m_if hres hc11
              refine lv_iinc (v := (x4 + 1)) (lv' := [(4, .int (x4 + 1)), (3, .int (x3 + r1)), (5, .int s0), (0, .ref (m_ad G 172)), (1, .int x1), (2, .int x2)]) X.1 X.2.1 dX8_hiddenOf_121 hl (k := 5) rfl rfl (by decide) rfl (fun ls hl => ?_)
              refine lv_goto (tgt := 7) X.1 X.2.1 dX8_hiddenOf_124 (by decide) ?_
              exact hq7 x2 (x3 + r1) (x4 + 1) _ _ _ hP hS (lv_sub hl [3, 4, 5, 1, 0] rfl) hres
            · have hres := m_it hres hc11
              refine lv_iload_n X.1 X.2.1 dX8_hiddenOf_111 rfl (lv_at hl 4 rfl) ?_
              refine lv_aload_n X.1 X.2.1 dX8_hiddenOf_112 rfl (lv_at hl 2 rfl) ?_
              refine lv_iload X.1 X.2.1 dX8_hiddenOf_113 (lv_at hl 5 rfl) ?_
              refine lv_iconst (v := 4) X.1 X.2.1 dX8_hiddenOf_115 (by decide) ?_
              obtain ⟨r12, err12, hres⟩ := m_ob_e hres
              refine m_bi (m_cV (n := 2) (As := [.int x4, .int 4]) (rest := [.int x2]) X hSt hP hS hl.1 (c_X8_of l G  err12) k_c_yX8_of k_m_X8_136 k_i_yX8_of k_s_yX8_of k_n_X8 (by decide +kernel) (m_rc8 hSt hP m_z_172) rfl rfl ⟨Nat.le_of_ble_eq_true rfl, Nat.le_of_ble_eq_true rfl⟩ (Nat.le_of_ble_eq_true rfl) ⟨Nat.zero_le _, Nat.zero_le _⟩ dX8_hiddenOf_116) hS (fun H locs hP hS => ?_)
              refine lv_iadd X.1 X.2.1 dX8_hiddenOf_119 ?_
              refine lv_istore_n (lv' := [(2, .int (x2 + r12)), (3, .int (x3 + r1)), (5, .int s0), (0, .ref (m_ad G 172)), (1, .int x1), (4, .int x4)]) X.1 X.2.1 dX8_hiddenOf_120 rfl hl (by decide) rfl (fun ls hl => ?_)
              refine lv_iinc (v := (x4 + 1)) (lv' := [(4, .int (x4 + 1)), (2, .int (x2 + r12)), (3, .int (x3 + r1)), (5, .int s0), (0, .ref (m_ad G 172)), (1, .int x1)]) X.1 X.2.1 dX8_hiddenOf_121 hl (k := 5) rfl rfl (by decide) rfl (fun ls hl => ?_)
              refine lv_goto (tgt := 7) X.1 X.2.1 dX8_hiddenOf_124 (by decide) ?_
              exact hq7 (x2 + r12) (x3 + r1) (x4 + 1) _ _ _ hP hS (lv_sub hl [4, 5, 1, 2, 0] rfl) hres
  have B7 : ∀ (u : Nat) (x2 : Int32) (x3 : Int32) (x4 : Int32) (H : Heap) (locs : List Loc) (ls : Array Slot), m_P G M H → va_S (m_A G) s.heap H locs → lv_has ls 6 [(0, .ref (m_ad G 172)), (1, .int x1), (2, .int x2), (3, .int x3), (4, .int x4)] → f_X8_hiddenOf_b7 n x1 M u x2 x3 x4 = some r0 → W p l e (m_R 2 43) s m args below meth c H locs 0 0 (MQ below (m_Qi G r0 M) args s 0 0 (m_A G)) (F0 m 7 ls []) := by
    intro u
    induction u with
    | zero =>
      intro x2 x3 x4 H locs ls hP hS hl hres
      cases hres
    | succ u ih =>
      intro x2 x3 x4 H locs ls hP hS hl hres
      rw [f_X8_hiddenOf_b7] at hres
      refine lv_iload X.1 X.2.1 dX8_hiddenOf_7 (lv_at hl 4 rfl) ?_
      refine lv_aload_n X.1 X.2.1 dX8_hiddenOf_9 rfl (lv_at hl 0 rfl) ?_
      obtain ⟨r13, err13, hres⟩ := m_bd_e hres
      refine m_bi (m_cV (n := 0) (As := []) (rest := [.int x4]) X hSt hP hS hl.1 (c_X8_notes l G  err13) k_c_yX8_notes k_m_X8_133 k_i_yX8_notes k_s_yX8_notes k_n_X8 (by decide +kernel) (m_rc8 hSt hP m_z_172) rfl rfl ⟨Nat.le_of_ble_eq_true rfl, Nat.le_of_ble_eq_true rfl⟩ (Nat.le_of_ble_eq_true rfl) ⟨Nat.zero_le _, Nat.zero_le _⟩ dX8_hiddenOf_10) hS (fun H locs hP hS => ?_)
      refine lv_icmp_ge (tgt := 127) X.1 X.2.1 dX8_hiddenOf_13 (by decide) (fun hc14 => ?_) (fun hc14 => ?_)
      · have hres := m_it hres hc14
        refine lv_iload_n X.1 X.2.1 dX8_hiddenOf_127 rfl (lv_at hl 2 rfl) ?_
        exact m_ri X hr hlk hP hS (Option.some.inj hres) rfl dX8_hiddenOf_128
      · have hres := m_if hres hc14
        refine lv_aload_n X.1 X.2.1 dX8_hiddenOf_16 rfl (lv_at hl 0 rfl) ?_
        refine lv_iload X.1 X.2.1 dX8_hiddenOf_17 (lv_at hl 4 rfl) ?_
        refine lv_iconst (v := 5) X.1 X.2.1 dX8_hiddenOf_19 (by decide) ?_
        obtain ⟨r15, err15, hres⟩ := m_ob_e hres
        refine m_bi (m_cV (n := 2) (As := [.int x4, .int 5]) (rest := []) X hSt hP hS hl.1 (c_X8_of l G  err15) k_c_yX8_of k_m_X8_136 k_i_yX8_of k_s_yX8_of k_n_X8 (by decide +kernel) (m_rc8 hSt hP m_z_172) rfl rfl ⟨Nat.le_of_ble_eq_true rfl, Nat.le_of_ble_eq_true rfl⟩ (Nat.le_of_ble_eq_true rfl) ⟨Nat.zero_le _, Nat.zero_le _⟩ dX8_hiddenOf_20) hS (fun H locs hP hS => ?_)
        refine lv_if_eq (tgt := 38) X.1 X.2.1 dX8_hiddenOf_23 (by decide) (fun hc16 => ?_) (fun hc16 => ?_)
        · have hres := m_it hres hc16
          refine lv_iconst (v := 1) X.1 X.2.1 dX8_hiddenOf_38 (by decide) ?_
          refine lv_goto (tgt := 43) X.1 X.2.1 dX8_hiddenOf_39 (by decide) ?_
          exact B43 (f_X8_hiddenOf_b7 n x1 M u) ih x2 x3 x4 1 _ _ _ hP hS (lv_sub hl [0, 1, 2, 3, 4] rfl) hres
        · have hres := m_if hres hc16
          refine lv_aload_n X.1 X.2.1 dX8_hiddenOf_26 rfl (lv_at hl 0 rfl) ?_
          refine m_g8 (v := .int (M.1 172 24)) X hSt hP m_z_172 24 (by decide) rfl k_f_X8_72 dX8_hiddenOf_27 ?_
          refine lv_iload_n X.1 X.2.1 dX8_hiddenOf_30 rfl (lv_at hl 3 rfl) ?_
          refine lv_ishr X.1 X.2.1 dX8_hiddenOf_31 ?_
          refine lv_iconst (v := 1) X.1 X.2.1 dX8_hiddenOf_32 (by decide) ?_
          refine lv_iand X.1 X.2.1 dX8_hiddenOf_33 ?_
          refine lv_iconst (v := 1) X.1 X.2.1 dX8_hiddenOf_34 (by decide) ?_
          refine lv_icmp_ne (tgt := 42) X.1 X.2.1 dX8_hiddenOf_35 (by decide) (fun hc17 => ?_) (fun hc17 => ?_)
          · have hres := m_if hres hc17
            refine lv_iconst (v := 0) X.1 X.2.1 dX8_hiddenOf_42 (by decide) ?_
            exact B43 (f_X8_hiddenOf_b7 n x1 M u) ih x2 x3 x4 0 _ _ _ hP hS (lv_sub hl [0, 1, 2, 3, 4] rfl) hres
          · have hres := m_it hres hc17
            refine lv_iconst (v := 1) X.1 X.2.1 dX8_hiddenOf_38 (by decide) ?_
            refine lv_goto (tgt := 43) X.1 X.2.1 dX8_hiddenOf_39 (by decide) ?_
            exact B43 (f_X8_hiddenOf_b7 n x1 M u) ih x2 x3 x4 1 _ _ _ hP hS (lv_sub hl [0, 1, 2, 3, 4] rfl) hres
  unfold f_X8_hiddenOf at hres
  refine lv_iconst (v := 0) X.1 X.2.1 dX8_hiddenOf_0 (by decide) ?_
  refine lv_istore_n (lv' := [(2, .int 0), (0, .ref (m_ad G 172)), (1, .int x1)]) X.1 X.2.1 dX8_hiddenOf_1 rfl hl (by decide) rfl (fun ls hl => ?_)
  refine lv_iconst (v := 0) X.1 X.2.1 dX8_hiddenOf_2 (by decide) ?_
  refine lv_istore_n (lv' := [(3, .int 0), (2, .int 0), (0, .ref (m_ad G 172)), (1, .int x1)]) X.1 X.2.1 dX8_hiddenOf_3 rfl hl (by decide) rfl (fun ls hl => ?_)
  refine lv_iconst (v := 0) X.1 X.2.1 dX8_hiddenOf_4 (by decide) ?_
  refine lv_istore (lv' := [(4, .int 0), (3, .int 0), (2, .int 0), (0, .ref (m_ad G 172)), (1, .int x1)]) X.1 X.2.1 dX8_hiddenOf_5 hl (by decide) rfl (fun ls hl => ?_)
  exact B7 n 0 0 0 _ _ _ hP hS (lv_sub hl [3, 4, 2, 1, 0] rfl) hres
theorem dX8_tradeOf_0 : decode cX8_tradeOf 0 = .ok (.aload_n 0, 1) := by decide +kernel
theorem dX8_tradeOf_1 : decode cX8_tradeOf 1 = .ok (.aload_n 0, 1) := by decide +kernel
theorem dX8_tradeOf_2 : decode cX8_tradeOf 2 = .ok (.getfield 51, 3) := by decide +kernel
theorem dX8_tradeOf_5 : decode cX8_tradeOf 5 = .ok (.iload_n 1, 1) := by decide +kernel
theorem dX8_tradeOf_6 : decode cX8_tradeOf 6 = .ok (.iaload, 1) := by decide +kernel
theorem dX8_tradeOf_7 : decode cX8_tradeOf 7 = .ok (.iconst 3, 1) := by decide +kernel
theorem dX8_tradeOf_8 : decode cX8_tradeOf 8 = .ok (.invokevirtual 136, 3) := by decide +kernel
theorem dX8_tradeOf_11 : decode cX8_tradeOf 11 = .ok (.ireturn, 1) := by decide +kernel
def f_X8_tradeOf (x1 : Int32) (M : m_M) : Option Int32 :=
  m_gd (m_in x1 60) (
  m_ob (f_X8_of (M.1 185 x1.toNatClampNeg) 3 M) fun r2 =>
  some r2)
set_option maxHeartbeats 4000000 in
set_option maxRecDepth 100000 in
theorem c_X8_tradeOf (l : Launch) (G : m_G) {x1 : Int32} {M : m_M} {r0 : Int32}  (hres : f_X8_tradeOf x1 M = some r0) : Met l yX8_tradeOf (m_U yX8_tradeOf cX8_tradeOf 2 (some .int)) (m_R 1 22) (m_Pc G [.ref (m_ad G 172), .int x1] M) (m_Qi G r0 M) 0 0 (m_A G) := by
  refine m_i0 (n := 2) RX8 rfl (by decide) (Nat.le_of_ble_eq_true rfl) ?_
  intro p e s m args below meth c X hr hlk hSt hP hS ls hl
  have hl : lv_has ls 2 [(0, .ref (m_ad G 172)), (1, .int x1)] := hl
  unfold f_X8_tradeOf at hres
  refine lv_aload_n X.1 X.2.1 dX8_tradeOf_0 rfl (lv_at hl 0 rfl) ?_
  refine lv_aload_n X.1 X.2.1 dX8_tradeOf_1 rfl (lv_at hl 0 rfl) ?_
  refine m_g8 (v := .ref (m_ad G 185)) X hSt hP m_z_172 15 (by decide) rfl k_f_X8_51 dX8_tradeOf_2 ?_
  refine lv_iload_n X.1 X.2.1 dX8_tradeOf_5 rfl (lv_at hl 1 rfl) ?_
  obtain ⟨hg1, hres⟩ := m_gd_e hres
  refine m_ia (j := x1.toNatClampNeg) X hSt hP m_z_185 hg1 rfl dX8_tradeOf_6 ?_
  refine lv_iconst (v := 3) X.1 X.2.1 dX8_tradeOf_7 (by decide) ?_
  obtain ⟨r2, err2, hres⟩ := m_ob_e hres
  refine m_bi (m_cV (n := 2) (As := [.int (M.1 185 x1.toNatClampNeg), .int 3]) (rest := []) X hSt hP hS hl.1 (c_X8_of l G  err2) k_c_yX8_of k_m_X8_136 k_i_yX8_of k_s_yX8_of k_n_X8 (by decide +kernel) (m_rc8 hSt hP m_z_172) rfl rfl ⟨Nat.le_of_ble_eq_true rfl, Nat.le_of_ble_eq_true rfl⟩ (Nat.le_of_ble_eq_true rfl) ⟨Nat.zero_le _, Nat.zero_le _⟩ dX8_tradeOf_8) hS (fun H locs hP hS => ?_)
  exact m_ri X hr hlk hP hS (Option.some.inj hres) rfl dX8_tradeOf_11
