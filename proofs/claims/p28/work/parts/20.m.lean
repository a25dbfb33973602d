theorem dX12_many_0 : decode cX12_many 0 = .ok (.aload_n 0, 1) := by decide +kernel
theorem dX12_many_1 : decode cX12_many 1 = .ok (.iload_n 1, 1) := by decide +kernel
theorem dX12_many_2 : decode cX12_many 2 = .ok (.invokevirtual 379, 3) := by decide +kernel
theorem dX12_many_5 : decode cX12_many 5 = .ok (.ifCond .eq 27, 3) := by decide +kernel
theorem dX12_many_8 : decode cX12_many 8 = .ok (.iload_n 2, 1) := by decide +kernel
theorem dX12_many_9 : decode cX12_many 9 = .ok (.i2l, 1) := by decide +kernel
theorem dX12_many_10 : decode cX12_many 10 = .ok (.lconst 1, 1) := by decide +kernel
theorem dX12_many_11 : decode cX12_many 11 = .ok (.ldc2_w 382, 3) := by decide +kernel
theorem dX12_many_14 : decode cX12_many 14 = .ok (.invokestatic 143, 3) := by decide +kernel
theorem dX12_many_17 : decode cX12_many 17 = .ok (.ifCond .eq 15, 3) := by decide +kernel
theorem dX12_many_20 : decode cX12_many 20 = .ok (.iload_n 3, 1) := by decide +kernel
theorem dX12_many_21 : decode cX12_many 21 = .ok (.i2l, 1) := by decide +kernel
theorem dX12_many_22 : decode cX12_many 22 = .ok (.lconst 0, 1) := by decide +kernel
theorem dX12_many_23 : decode cX12_many 23 = .ok (.ldc2_w 353, 3) := by decide +kernel
theorem dX12_many_26 : decode cX12_many 26 = .ok (.invokestatic 143, 3) := by decide +kernel
theorem dX12_many_29 : decode cX12_many 29 = .ok (.ifCond .ne 5, 3) := by decide +kernel
theorem dX12_many_32 : decode cX12_many 32 = .ok (.iconst (-1), 1) := by decide +kernel
theorem dX12_many_33 : decode cX12_many 33 = .ok (.ireturn, 1) := by decide +kernel
theorem dX12_many_34 : decode cX12_many 34 = .ok (.aload_n 0, 1) := by decide +kernel
theorem dX12_many_35 : decode cX12_many 35 = .ok (.invokevirtual 384, 3) := by decide +kernel
theorem dX12_many_38 : decode cX12_many 38 = .ok (.iconst 0, 1) := by decide +kernel
theorem dX12_many_39 : decode cX12_many 39 = .ok (.istore 4, 2) := by decide +kernel
theorem dX12_many_41 : decode cX12_many 41 = .ok (.iload 4, 2) := by decide +kernel
theorem dX12_many_43 : decode cX12_many 43 = .ok (.iconst 4, 1) := by decide +kernel
theorem dX12_many_44 : decode cX12_many 44 = .ok (.aload_n 0, 1) := by decide +kernel
theorem dX12_many_45 : decode cX12_many 45 = .ok (.getfield 367, 3) := by decide +kernel
theorem dX12_many_48 : decode cX12_many 48 = .ok (.imul, 1) := by decide +kernel
theorem dX12_many_49 : decode cX12_many 49 = .ok (.if_icmp .ge 17, 3) := by decide +kernel
theorem dX12_many_52 : decode cX12_many 52 = .ok (.aload_n 0, 1) := by decide +kernel
theorem dX12_many_53 : decode cX12_many 53 = .ok (.getfield 101, 3) := by decide +kernel
theorem dX12_many_56 : decode cX12_many 56 = .ok (.iload 4, 2) := by decide +kernel
theorem dX12_many_58 : decode cX12_many 58 = .ok (.lconst 0, 1) := by decide +kernel
theorem dX12_many_59 : decode cX12_many 59 = .ok (.lastore, 1) := by decide +kernel
theorem dX12_many_60 : decode cX12_many 60 = .ok (.iinc 4 1, 3) := by decide +kernel
theorem dX12_many_63 : decode cX12_many 63 = .ok (.goto (-22), 3) := by decide +kernel
theorem dX12_many_66 : decode cX12_many 66 = .ok (.iconst 0, 1) := by decide +kernel
theorem dX12_many_67 : decode cX12_many 67 = .ok (.istore 4, 2) := by decide +kernel
theorem dX12_many_69 : decode cX12_many 69 = .ok (.iload 4, 2) := by decide +kernel
theorem dX12_many_71 : decode cX12_many 71 = .ok (.aload_n 0, 1) := by decide +kernel
theorem dX12_many_72 : decode cX12_many 72 = .ok (.getfield 364, 3) := by decide +kernel
theorem dX12_many_75 : decode cX12_many 75 = .ok (.if_icmp .ge 60, 3) := by decide +kernel
theorem dX12_many_78 : decode cX12_many 78 = .ok (.aload_n 0, 1) := by decide +kernel
theorem dX12_many_79 : decode cX12_many 79 = .ok (.getfield 55, 3) := by decide +kernel
theorem dX12_many_82 : decode cX12_many 82 = .ok (.aload_n 0, 1) := by decide +kernel
theorem dX12_many_83 : decode cX12_many 83 = .ok (.getfield 80, 3) := by decide +kernel
theorem dX12_many_86 : decode cX12_many 86 = .ok (.iload 4, 2) := by decide +kernel
theorem dX12_many_88 : decode cX12_many 88 = .ok (.iaload, 1) := by decide +kernel
theorem dX12_many_89 : decode cX12_many 89 = .ok (.laload, 1) := by decide +kernel
theorem dX12_many_90 : decode cX12_many 90 = .ok (.ldc2_w 370, 3) := by decide +kernel
theorem dX12_many_93 : decode cX12_many 93 = .ok (.lcmp, 1) := by decide +kernel
theorem dX12_many_94 : decode cX12_many 94 = .ok (.ifCond .ge 35, 3) := by decide +kernel
theorem dX12_many_97 : decode cX12_many 97 = .ok (.aload_n 0, 1) := by decide +kernel
theorem dX12_many_98 : decode cX12_many 98 = .ok (.getfield 101, 3) := by decide +kernel
theorem dX12_many_101 : decode cX12_many 101 = .ok (.iconst 4, 1) := by decide +kernel
theorem dX12_many_102 : decode cX12_many 102 = .ok (.aload_n 0, 1) := by decide +kernel
theorem dX12_many_103 : decode cX12_many 103 = .ok (.getfield 95, 3) := by decide +kernel
theorem dX12_many_106 : decode cX12_many 106 = .ok (.iload 4, 2) := by decide +kernel
theorem dX12_many_108 : decode cX12_many 108 = .ok (.iaload, 1) := by decide +kernel
theorem dX12_many_109 : decode cX12_many 109 = .ok (.imul, 1) := by decide +kernel
theorem dX12_many_110 : decode cX12_many 110 = .ok (.aload_n 0, 1) := by decide +kernel
theorem dX12_many_111 : decode cX12_many 111 = .ok (.getfield 55, 3) := by decide +kernel
theorem dX12_many_114 : decode cX12_many 114 = .ok (.aload_n 0, 1) := by decide +kernel
theorem dX12_many_115 : decode cX12_many 115 = .ok (.getfield 80, 3) := by decide +kernel
theorem dX12_many_118 : decode cX12_many 118 = .ok (.iload 4, 2) := by decide +kernel
theorem dX12_many_120 : decode cX12_many 120 = .ok (.iaload, 1) := by decide +kernel
theorem dX12_many_121 : decode cX12_many 121 = .ok (.laload, 1) := by decide +kernel
theorem dX12_many_122 : decode cX12_many 122 = .ok (.l2i, 1) := by decide +kernel
theorem dX12_many_123 : decode cX12_many 123 = .ok (.iadd, 1) := by decide +kernel
theorem dX12_many_124 : decode cX12_many 124 = .ok (.dup2, 1) := by decide +kernel
theorem dX12_many_125 : decode cX12_many 125 = .ok (.laload, 1) := by decide +kernel
theorem dX12_many_126 : decode cX12_many 126 = .ok (.lconst 1, 1) := by decide +kernel
theorem dX12_many_127 : decode cX12_many 127 = .ok (.ladd, 1) := by decide +kernel
theorem dX12_many_128 : decode cX12_many 128 = .ok (.lastore, 1) := by decide +kernel
theorem dX12_many_129 : decode cX12_many 129 = .ok (.iinc 4 1, 3) := by decide +kernel
theorem dX12_many_132 : decode cX12_many 132 = .ok (.goto (-63), 3) := by decide +kernel
theorem dX12_many_135 : decode cX12_many 135 = .ok (.iconst 1, 1) := by decide +kernel
theorem dX12_many_136 : decode cX12_many 136 = .ok (.istore 4, 2) := by decide +kernel
theorem dX12_many_138 : decode cX12_many 138 = .ok (.iload 4, 2) := by decide +kernel
theorem dX12_many_140 : decode cX12_many 140 = .ok (.iload_n 2, 1) := by decide +kernel
theorem dX12_many_141 : decode cX12_many 141 = .ok (.if_icmp .ge 197, 3) := by decide +kernel
theorem dX12_many_144 : decode cX12_many 144 = .ok (.iconst 0, 1) := by decide +kernel
theorem dX12_many_145 : decode cX12_many 145 = .ok (.istore 5, 2) := by decide +kernel
theorem dX12_many_147 : decode cX12_many 147 = .ok (.iload 5, 2) := by decide +kernel
theorem dX12_many_149 : decode cX12_many 149 = .ok (.iconst 4, 1) := by decide +kernel
theorem dX12_many_150 : decode cX12_many 150 = .ok (.aload_n 0, 1) := by decide +kernel
theorem dX12_many_151 : decode cX12_many 151 = .ok (.getfield 367, 3) := by decide +kernel
theorem dX12_many_154 : decode cX12_many 154 = .ok (.imul, 1) := by decide +kernel
theorem dX12_many_155 : decode cX12_many 155 = .ok (.if_icmp .ge 17, 3) := by decide +kernel
theorem dX12_many_158 : decode cX12_many 158 = .ok (.aload_n 0, 1) := by decide +kernel
theorem dX12_many_159 : decode cX12_many 159 = .ok (.getfield 104, 3) := by decide +kernel
theorem dX12_many_162 : decode cX12_many 162 = .ok (.iload 5, 2) := by decide +kernel
theorem dX12_many_164 : decode cX12_many 164 = .ok (.lconst 0, 1) := by decide +kernel
theorem dX12_many_165 : decode cX12_many 165 = .ok (.lastore, 1) := by decide +kernel
theorem dX12_many_166 : decode cX12_many 166 = .ok (.iinc 5 1, 3) := by decide +kernel
theorem dX12_many_169 : decode cX12_many 169 = .ok (.goto (-22), 3) := by decide +kernel
theorem dX12_many_172 : decode cX12_many 172 = .ok (.iconst 0, 1) := by decide +kernel
theorem dX12_many_173 : decode cX12_many 173 = .ok (.istore 5, 2) := by decide +kernel
theorem dX12_many_175 : decode cX12_many 175 = .ok (.iload 5, 2) := by decide +kernel
theorem dX12_many_177 : decode cX12_many 177 = .ok (.iconst 4, 1) := by decide +kernel
theorem dX12_many_178 : decode cX12_many 178 = .ok (.aload_n 0, 1) := by decide +kernel
theorem dX12_many_179 : decode cX12_many 179 = .ok (.getfield 367, 3) := by decide +kernel
theorem dX12_many_182 : decode cX12_many 182 = .ok (.imul, 1) := by decide +kernel
theorem dX12_many_183 : decode cX12_many 183 = .ok (.if_icmp .ge 115, 3) := by decide +kernel
theorem dX12_many_186 : decode cX12_many 186 = .ok (.iconst 0, 1) := by decide +kernel
theorem dX12_many_187 : decode cX12_many 187 = .ok (.istore 6, 2) := by decide +kernel
theorem dX12_many_189 : decode cX12_many 189 = .ok (.iload 6, 2) := by decide +kernel
theorem dX12_many_191 : decode cX12_many 191 = .ok (.aload_n 0, 1) := by decide +kernel
theorem dX12_many_192 : decode cX12_many 192 = .ok (.getfield 364, 3) := by decide +kernel
theorem dX12_many_195 : decode cX12_many 195 = .ok (.if_icmp .ge 97, 3) := by decide +kernel
theorem dX12_many_198 : decode cX12_many 198 = .ok (.aload_n 0, 1) := by decide +kernel
theorem dX12_many_199 : decode cX12_many 199 = .ok (.getfield 101, 3) := by decide +kernel
theorem dX12_many_202 : decode cX12_many 202 = .ok (.iload 5, 2) := by decide +kernel
theorem dX12_many_204 : decode cX12_many 204 = .ok (.laload, 1) := by decide +kernel
theorem dX12_many_205 : decode cX12_many 205 = .ok (.lconst 0, 1) := by decide +kernel
theorem dX12_many_206 : decode cX12_many 206 = .ok (.lcmp, 1) := by decide +kernel
theorem dX12_many_207 : decode cX12_many 207 = .ok (.ifCond .le 85, 3) := by decide +kernel
theorem dX12_many_210 : decode cX12_many 210 = .ok (.iload 5, 2) := by decide +kernel
theorem dX12_many_212 : decode cX12_many 212 = .ok (.iconst 4, 1) := by decide +kernel
theorem dX12_many_213 : decode cX12_many 213 = .ok (.irem, 1) := by decide +kernel
theorem dX12_many_214 : decode cX12_many 214 = .ok (.aload_n 0, 1) := by decide +kernel
theorem dX12_many_215 : decode cX12_many 215 = .ok (.getfield 92, 3) := by decide +kernel
theorem dX12_many_218 : decode cX12_many 218 = .ok (.bipush 6, 2) := by decide +kernel
theorem dX12_many_220 : decode cX12_many 220 = .ok (.iload 5, 2) := by decide +kernel
theorem dX12_many_222 : decode cX12_many 222 = .ok (.iconst 4, 1) := by decide +kernel
theorem dX12_many_223 : decode cX12_many 223 = .ok (.idiv, 1) := by decide +kernel
theorem dX12_many_224 : decode cX12_many 224 = .ok (.imul, 1) := by decide +kernel
theorem dX12_many_225 : decode cX12_many 225 = .ok (.iload 6, 2) := by decide +kernel
theorem dX12_many_227 : decode cX12_many 227 = .ok (.iadd, 1) := by decide +kernel
theorem dX12_many_228 : decode cX12_many 228 = .ok (.iaload, 1) := by decide +kernel
theorem dX12_many_229 : decode cX12_many 229 = .ok (.iadd, 1) := by decide +kernel
theorem dX12_many_230 : decode cX12_many 230 = .ok (.istore 7, 2) := by decide +kernel
theorem dX12_many_232 : decode cX12_many 232 = .ok (.iconst 4, 1) := by decide +kernel
theorem dX12_many_233 : decode cX12_many 233 = .ok (.aload_n 0, 1) := by decide +kernel
theorem dX12_many_234 : decode cX12_many 234 = .ok (.getfield 89, 3) := by decide +kernel
theorem dX12_many_237 : decode cX12_many 237 = .ok (.bipush 6, 2) := by decide +kernel
theorem dX12_many_239 : decode cX12_many 239 = .ok (.iload 5, 2) := by decide +kernel
theorem dX12_many_241 : decode cX12_many 241 = .ok (.iconst 4, 1) := by decide +kernel
theorem dX12_many_242 : decode cX12_many 242 = .ok (.idiv, 1) := by decide +kernel
theorem dX12_many_243 : decode cX12_many 243 = .ok (.imul, 1) := by decide +kernel
theorem dX12_many_244 : decode cX12_many 244 = .ok (.iload 6, 2) := by decide +kernel
theorem dX12_many_246 : decode cX12_many 246 = .ok (.iadd, 1) := by decide +kernel
theorem dX12_many_247 : decode cX12_many 247 = .ok (.iaload, 1) := by decide +kernel
theorem dX12_many_248 : decode cX12_many 248 = .ok (.imul, 1) := by decide +kernel
theorem dX12_many_249 : decode cX12_many 249 = .ok (.iload 7, 2) := by decide +kernel
theorem dX12_many_251 : decode cX12_many 251 = .ok (.iadd, 1) := by decide +kernel
theorem dX12_many_252 : decode cX12_many 252 = .ok (.istore 8, 2) := by decide +kernel
theorem dX12_many_254 : decode cX12_many 254 = .ok (.iload 7, 2) := by decide +kernel
theorem dX12_many_256 : decode cX12_many 256 = .ok (.iconst 4, 1) := by decide +kernel
theorem dX12_many_257 : decode cX12_many 257 = .ok (.if_icmp .ge 29, 3) := by decide +kernel
theorem dX12_many_260 : decode cX12_many 260 = .ok (.aload_n 0, 1) := by decide +kernel
theorem dX12_many_261 : decode cX12_many 261 = .ok (.getfield 104, 3) := by decide +kernel
theorem dX12_many_264 : decode cX12_many 264 = .ok (.iload 8, 2) := by decide +kernel
theorem dX12_many_266 : decode cX12_many 266 = .ok (.aload_n 0, 1) := by decide +kernel
theorem dX12_many_267 : decode cX12_many 267 = .ok (.getfield 104, 3) := by decide +kernel
theorem dX12_many_270 : decode cX12_many 270 = .ok (.iload 8, 2) := by decide +kernel
theorem dX12_many_272 : decode cX12_many 272 = .ok (.laload, 1) := by decide +kernel
theorem dX12_many_273 : decode cX12_many 273 = .ok (.aload_n 0, 1) := by decide +kernel
theorem dX12_many_274 : decode cX12_many 274 = .ok (.getfield 101, 3) := by decide +kernel
theorem dX12_many_277 : decode cX12_many 277 = .ok (.iload 5, 2) := by decide +kernel
theorem dX12_many_279 : decode cX12_many 279 = .ok (.laload, 1) := by decide +kernel
theorem dX12_many_280 : decode cX12_many 280 = .ok (.ladd, 1) := by decide +kernel
theorem dX12_many_281 : decode cX12_many 281 = .ok (.ldc2_w 387, 3) := by decide +kernel
theorem dX12_many_284 : decode cX12_many 284 = .ok (.lrem, 1) := by decide +kernel
theorem dX12_many_285 : decode cX12_many 285 = .ok (.lastore, 1) := by decide +kernel
theorem dX12_many_286 : decode cX12_many 286 = .ok (.iinc 6 1, 3) := by decide +kernel
theorem dX12_many_289 : decode cX12_many 289 = .ok (.goto (-100), 3) := by decide +kernel
theorem dX12_many_292 : decode cX12_many 292 = .ok (.iinc 5 1, 3) := by decide +kernel
theorem dX12_many_295 : decode cX12_many 295 = .ok (.goto (-120), 3) := by decide +kernel
theorem dX12_many_298 : decode cX12_many 298 = .ok (.iconst 0, 1) := by decide +kernel
theorem dX12_many_299 : decode cX12_many 299 = .ok (.istore 5, 2) := by decide +kernel
theorem dX12_many_301 : decode cX12_many 301 = .ok (.iload 5, 2) := by decide +kernel
theorem dX12_many_303 : decode cX12_many 303 = .ok (.iconst 4, 1) := by decide +kernel
theorem dX12_many_304 : decode cX12_many 304 = .ok (.aload_n 0, 1) := by decide +kernel
theorem dX12_many_305 : decode cX12_many 305 = .ok (.getfield 367, 3) := by decide +kernel
theorem dX12_many_308 : decode cX12_many 308 = .ok (.imul, 1) := by decide +kernel
theorem dX12_many_309 : decode cX12_many 309 = .ok (.if_icmp .ge 23, 3) := by decide +kernel
theorem dX12_many_312 : decode cX12_many 312 = .ok (.aload_n 0, 1) := by decide +kernel
theorem dX12_many_313 : decode cX12_many 313 = .ok (.getfield 101, 3) := by decide +kernel
theorem dX12_many_316 : decode cX12_many 316 = .ok (.iload 5, 2) := by decide +kernel
theorem dX12_many_318 : decode cX12_many 318 = .ok (.aload_n 0, 1) := by decide +kernel
theorem dX12_many_319 : decode cX12_many 319 = .ok (.getfield 104, 3) := by decide +kernel
theorem dX12_many_322 : decode cX12_many 322 = .ok (.iload 5, 2) := by decide +kernel
theorem dX12_many_324 : decode cX12_many 324 = .ok (.laload, 1) := by decide +kernel
theorem dX12_many_325 : decode cX12_many 325 = .ok (.lastore, 1) := by decide +kernel
theorem dX12_many_326 : decode cX12_many 326 = .ok (.iinc 5 1, 3) := by decide +kernel
theorem dX12_many_329 : decode cX12_many 329 = .ok (.goto (-28), 3) := by decide +kernel
theorem dX12_many_332 : decode cX12_many 332 = .ok (.iinc 4 1, 3) := by decide +kernel
theorem dX12_many_335 : decode cX12_many 335 = .ok (.goto (-197), 3) := by decide +kernel
theorem dX12_many_338 : decode cX12_many 338 = .ok (.lconst 0, 1) := by decide +kernel
theorem dX12_many_339 : decode cX12_many 339 = .ok (.lstore 4, 2) := by decide +kernel
theorem dX12_many_341 : decode cX12_many 341 = .ok (.iconst 0, 1) := by decide +kernel
theorem dX12_many_342 : decode cX12_many 342 = .ok (.istore 6, 2) := by decide +kernel
theorem dX12_many_344 : decode cX12_many 344 = .ok (.iload 6, 2) := by decide +kernel
theorem dX12_many_346 : decode cX12_many 346 = .ok (.iconst 4, 1) := by decide +kernel
theorem dX12_many_347 : decode cX12_many 347 = .ok (.aload_n 0, 1) := by decide +kernel
theorem dX12_many_348 : decode cX12_many 348 = .ok (.getfield 367, 3) := by decide +kernel
theorem dX12_many_351 : decode cX12_many 351 = .ok (.imul, 1) := by decide +kernel
theorem dX12_many_352 : decode cX12_many 352 = .ok (.if_icmp .ge 43, 3) := by decide +kernel
theorem dX12_many_355 : decode cX12_many 355 = .ok (.lload 4, 2) := by decide +kernel
theorem dX12_many_357 : decode cX12_many 357 = .ok (.iload 6, 2) := by decide +kernel
theorem dX12_many_359 : decode cX12_many 359 = .ok (.iconst 4, 1) := by decide +kernel
theorem dX12_many_360 : decode cX12_many 360 = .ok (.irem, 1) := by decide +kernel
theorem dX12_many_361 : decode cX12_many 361 = .ok (.aload_n 0, 1) := by decide +kernel
theorem dX12_many_362 : decode cX12_many 362 = .ok (.getfield 98, 3) := by decide +kernel
theorem dX12_many_365 : decode cX12_many 365 = .ok (.iload 6, 2) := by decide +kernel
theorem dX12_many_367 : decode cX12_many 367 = .ok (.iconst 4, 1) := by decide +kernel
theorem dX12_many_368 : decode cX12_many 368 = .ok (.idiv, 1) := by decide +kernel
theorem dX12_many_369 : decode cX12_many 369 = .ok (.iaload, 1) := by decide +kernel
theorem dX12_many_370 : decode cX12_many 370 = .ok (.iadd, 1) := by decide +kernel
theorem dX12_many_371 : decode cX12_many 371 = .ok (.iload_n 3, 1) := by decide +kernel
theorem dX12_many_372 : decode cX12_many 372 = .ok (.if_icmp .ne 13, 3) := by decide +kernel
theorem dX12_many_375 : decode cX12_many 375 = .ok (.aload_n 0, 1) := by decide +kernel
theorem dX12_many_376 : decode cX12_many 376 = .ok (.getfield 101, 3) := by decide +kernel
theorem dX12_many_379 : decode cX12_many 379 = .ok (.iload 6, 2) := by decide +kernel
theorem dX12_many_381 : decode cX12_many 381 = .ok (.laload, 1) := by decide +kernel
theorem dX12_many_382 : decode cX12_many 382 = .ok (.goto 4, 3) := by decide +kernel
theorem dX12_many_385 : decode cX12_many 385 = .ok (.lconst 0, 1) := by decide +kernel
theorem dX12_many_386 : decode cX12_many 386 = .ok (.ladd, 1) := by decide +kernel
theorem dX12_many_387 : decode cX12_many 387 = .ok (.lstore 4, 2) := by decide +kernel
theorem dX12_many_389 : decode cX12_many 389 = .ok (.iinc 6 1, 3) := by decide +kernel
theorem dX12_many_392 : decode cX12_many 392 = .ok (.goto (-48), 3) := by decide +kernel
theorem dX12_many_395 : decode cX12_many 395 = .ok (.lload 4, 2) := by decide +kernel
theorem dX12_many_397 : decode cX12_many 397 = .ok (.ldc2_w 387, 3) := by decide +kernel
theorem dX12_many_400 : decode cX12_many 400 = .ok (.lrem, 1) := by decide +kernel
theorem dX12_many_401 : decode cX12_many 401 = .ok (.l2i, 1) := by decide +kernel
theorem dX12_many_402 : decode cX12_many 402 = .ok (.ireturn, 1) := by decide +kernel
def f_X12_many_u32 (Q : Int → ml_St → Prop) (σ : ml_St) : Prop :=
Q (-1) σ
def f_X12_many_u41 (Q : Int → ml_St → Prop) (K66 : ml_St → Int → Int → Prop) : Nat → ml_St → Int → Int → Int → Prop
| 0, _, _, _, _ => False
| N + 1, σ, x2, x3, x4 =>
∀ _ : I32 (σ 215 39),
I32 (4 * (σ 215 39)) ∧
((4 * (σ 215 39)) ≤ x4 →
K66 σ x2 x3) ∧
(¬ ((4 * (σ 215 39)) ≤ x4) →
(0 : Int) ≤ x4 ∧ (x4 : Int) < 3800 ∧
∀ σ4, σ4 = ml_up σ 244 x4 0 →
I32 (x4 + 1) ∧
∀ y5 : Int, y5 = x4 + 1 →
f_X12_many_u41 Q K66 N σ4 x2 x3 y5)
def f_X12_many_u129 (Q : Int → ml_St → Prop) (K69 : ml_St → Int → Int → Int → Prop) (σ : ml_St) (x2 : Int) (x3 : Int) (x4 : Int) : Prop :=
I32 (x4 + 1) ∧
∀ y1 : Int, y1 = x4 + 1 →
K69 σ x2 x3 y1
def f_X12_many_u69 (Q : Int → ml_St → Prop) (K135 : ml_St → Int → Int → Prop) : Nat → ml_St → Int → Int → Int → Prop
| 0, _, _, _, _ => False
| N + 1, σ, x2, x3, x4 =>
∀ _ : I32 (σ 215 38),
((σ 215 38) ≤ x4 →
K135 σ x2 x3) ∧
(¬ ((σ 215 38) ≤ x4) →
(0 : Int) ≤ x4 ∧ (x4 : Int) < 6 ∧
∀ _ : I32 (σ 237 x4),
(0 : Int) ≤ (σ 237 x4) ∧ ((σ 237 x4) : Int) < 64 ∧
∀ _ : I64 (σ 229 (σ 237 x4)),
(4 ≤ ((σ 229 (σ 237 x4)) : Int) →
f_X12_many_u129 Q (f_X12_many_u69 Q K135 N) σ x2 x3 x4) ∧
(¬ (4 ≤ ((σ 229 (σ 237 x4)) : Int)) →
(0 : Int) ≤ x4 ∧ (x4 : Int) < 6 ∧
∀ _ : I32 (σ 242 x4),
I32 (4 * (σ 242 x4)) ∧
(0 : Int) ≤ x4 ∧ (x4 : Int) < 6 ∧
∀ _ : I32 (σ 237 x4),
(0 : Int) ≤ (σ 237 x4) ∧ ((σ 237 x4) : Int) < 64 ∧
∀ _ : I64 (σ 229 (σ 237 x4)),
I32 ((4 * (σ 242 x4)) + (b_l2i (σ 229 (σ 237 x4)))) ∧
(0 : Int) ≤ ((4 * (σ 242 x4)) + (b_l2i (σ 229 (σ 237 x4)))) ∧ (((4 * (σ 242 x4)) + (b_l2i (σ 229 (σ 237 x4)))) : Int) < 3800 ∧
∀ _ : I64 (σ 244 ((4 * (σ 242 x4)) + (b_l2i (σ 229 (σ 237 x4))))),
(0 : Int) ≤ ((4 * (σ 242 x4)) + (b_l2i (σ 229 (σ 237 x4)))) ∧ (((4 * (σ 242 x4)) + (b_l2i (σ 229 (σ 237 x4)))) : Int) < 3800 ∧
∀ σ13, σ13 = ml_up σ 244 ((4 * (σ 242 x4)) + (b_l2i (σ 229 (σ 237 x4)))) (w64 ((σ 244 ((4 * (σ 242 x4)) + (b_l2i (σ 229 (σ 237 x4))))) + 1)) →
f_X12_many_u129 Q (f_X12_many_u69 Q K135 N) σ13 x2 x3 x4))
def f_X12_many_u147 (Q : Int → ml_St → Prop) (K172 : ml_St → Int → Int → Int → Prop) : Nat → ml_St → Int → Int → Int → Int → Prop
| 0, _, _, _, _, _ => False
| N + 1, σ, x2, x3, x4, x5 =>
∀ _ : I32 (σ 215 39),
I32 (4 * (σ 215 39)) ∧
((4 * (σ 215 39)) ≤ x5 →
K172 σ x2 x3 x4) ∧
(¬ ((4 * (σ 215 39)) ≤ x5) →
(0 : Int) ≤ x5 ∧ (x5 : Int) < 3800 ∧
∀ σ4, σ4 = ml_up σ 245 x5 0 →
I32 (x5 + 1) ∧
∀ y5 : Int, y5 = x5 + 1 →
f_X12_many_u147 Q K172 N σ4 x2 x3 x4 y5)
def f_X12_many_u286 (Q : Int → ml_St → Prop) (K189 : ml_St → Int → Int → Int → Int → Int → Prop) (σ : ml_St) (x2 : Int) (x3 : Int) (x4 : Int) (x5 : Int) (x6 : Int) : Prop :=
I32 (x6 + 1) ∧
∀ y1 : Int, y1 = x6 + 1 →
K189 σ x2 x3 x4 x5 y1
def f_X12_many_u189 (Q : Int → ml_St → Prop) (K292 : ml_St → Int → Int → Int → Int → Prop) : Nat → ml_St → Int → Int → Int → Int → Int → Prop
| 0, _, _, _, _, _, _ => False
| N + 1, σ, x2, x3, x4, x5, x6 =>
∀ _ : I32 (σ 215 38),
((σ 215 38) ≤ x6 →
K292 σ x2 x3 x4 x5) ∧
(¬ ((σ 215 38) ≤ x6) →
(0 : Int) ≤ x5 ∧ (x5 : Int) < 3800 ∧
∀ _ : I64 (σ 244 x5),
(((σ 244 x5) : Int) ≤ 0 →
K292 σ x2 x3 x4 x5) ∧
(¬ (((σ 244 x5) : Int) ≤ 0) →
(4 : Int) ≠ 0 ∧ I32 (Int.tmod x5 4) ∧
(4 : Int) ≠ 0 ∧ I32 (Int.tdiv x5 4) ∧
I32 (6 * (Int.tdiv x5 4)) ∧
I32 ((6 * (Int.tdiv x5 4)) + x6) ∧
(0 : Int) ≤ ((6 * (Int.tdiv x5 4)) + x6) ∧ (((6 * (Int.tdiv x5 4)) + x6) : Int) < 5700 ∧
∀ _ : I32 (σ 241 ((6 * (Int.tdiv x5 4)) + x6)),
I32 ((Int.tmod x5 4) + (σ 241 ((6 * (Int.tdiv x5 4)) + x6))) ∧
∀ y11 : Int, y11 = (Int.tmod x5 4) + (σ 241 ((6 * (Int.tdiv x5 4)) + x6)) →
(4 : Int) ≠ 0 ∧ I32 (Int.tdiv x5 4) ∧
I32 (6 * (Int.tdiv x5 4)) ∧
I32 ((6 * (Int.tdiv x5 4)) + x6) ∧
(0 : Int) ≤ ((6 * (Int.tdiv x5 4)) + x6) ∧ (((6 * (Int.tdiv x5 4)) + x6) : Int) < 5700 ∧
∀ _ : I32 (σ 240 ((6 * (Int.tdiv x5 4)) + x6)),
I32 (4 * (σ 240 ((6 * (Int.tdiv x5 4)) + x6))) ∧
I32 ((4 * (σ 240 ((6 * (Int.tdiv x5 4)) + x6))) + y11) ∧
∀ y18 : Int, y18 = (4 * (σ 240 ((6 * (Int.tdiv x5 4)) + x6))) + y11 →
(4 ≤ y11 →
f_X12_many_u286 Q (f_X12_many_u189 Q K292 N) σ x2 x3 x4 x5 x6) ∧
(¬ (4 ≤ y11) →
(0 : Int) ≤ y18 ∧ (y18 : Int) < 3800 ∧
∀ _ : I64 (σ 245 y18),
(0 : Int) ≤ x5 ∧ (x5 : Int) < 3800 ∧
∀ _ : I64 (σ 244 x5),
(998244353 : Int) ≠ 0 ∧
(0 : Int) ≤ y18 ∧ (y18 : Int) < 3800 ∧
∀ σ24, σ24 = ml_up σ 245 y18 (Int.tmod (w64 ((σ 245 y18) + (σ 244 x5))) 998244353) →
f_X12_many_u286 Q (f_X12_many_u189 Q K292 N) σ24 x2 x3 x4 x5 x6)))
def f_X12_many_u292 (Q : Int → ml_St → Prop) (K175 : ml_St → Int → Int → Int → Int → Prop) (σ : ml_St) (x2 : Int) (x3 : Int) (x4 : Int) (x5 : Int) : Prop :=
I32 (x5 + 1) ∧
∀ y1 : Int, y1 = x5 + 1 →
K175 σ x2 x3 x4 y1
def f_X12_many_u175 (Q : Int → ml_St → Prop) (K298 : ml_St → Int → Int → Int → Prop) : Nat → ml_St → Int → Int → Int → Int → Prop
| 0, _, _, _, _, _ => False
| N + 1, σ, x2, x3, x4, x5 =>
∀ _ : I32 (σ 215 39),
I32 (4 * (σ 215 39)) ∧
((4 * (σ 215 39)) ≤ x5 →
K298 σ x2 x3 x4) ∧
(¬ ((4 * (σ 215 39)) ≤ x5) →
∃ N1, f_X12_many_u189 Q (f_X12_many_u292 Q (f_X12_many_u175 Q K298 N)) N1 σ x2 x3 x4 x5 0)
def f_X12_many_u301 (Q : Int → ml_St → Prop) (K332 : ml_St → Int → Int → Int → Prop) : Nat → ml_St → Int → Int → Int → Int → Prop
| 0, _, _, _, _, _ => False
| N + 1, σ, x2, x3, x4, x5 =>
∀ _ : I32 (σ 215 39),
I32 (4 * (σ 215 39)) ∧
((4 * (σ 215 39)) ≤ x5 →
K332 σ x2 x3 x4) ∧
(¬ ((4 * (σ 215 39)) ≤ x5) →
(0 : Int) ≤ x5 ∧ (x5 : Int) < 3800 ∧
∀ _ : I64 (σ 245 x5),
(0 : Int) ≤ x5 ∧ (x5 : Int) < 3800 ∧
∀ σ5, σ5 = ml_up σ 244 x5 (σ 245 x5) →
I32 (x5 + 1) ∧
∀ y6 : Int, y6 = x5 + 1 →
f_X12_many_u301 Q K332 N σ5 x2 x3 x4 y6)
def f_X12_many_u332 (Q : Int → ml_St → Prop) (K138 : ml_St → Int → Int → Int → Prop) (σ : ml_St) (x2 : Int) (x3 : Int) (x4 : Int) : Prop :=
I32 (x4 + 1) ∧
∀ y1 : Int, y1 = x4 + 1 →
K138 σ x2 x3 y1
def f_X12_many_u298 (Q : Int → ml_St → Prop) (K138 : ml_St → Int → Int → Int → Prop) (σ : ml_St) (x2 : Int) (x3 : Int) (x4 : Int) : Prop :=
∃ N1, f_X12_many_u301 Q (f_X12_many_u332 Q K138) N1 σ x2 x3 x4 0
def f_X12_many_u172 (Q : Int → ml_St → Prop) (K138 : ml_St → Int → Int → Int → Prop) (σ : ml_St) (x2 : Int) (x3 : Int) (x4 : Int) : Prop :=
∃ N1, f_X12_many_u175 Q (f_X12_many_u298 Q K138) N1 σ x2 x3 x4 0
def f_X12_many_u138 (Q : Int → ml_St → Prop) (K338 : ml_St → Int → Prop) : Nat → ml_St → Int → Int → Int → Prop
| 0, _, _, _, _ => False
| N + 1, σ, x2, x3, x4 =>
(x2 ≤ x4 →
K338 σ x3) ∧
(¬ (x2 ≤ x4) →
∃ N1, f_X12_many_u147 Q (f_X12_many_u172 Q (f_X12_many_u138 Q K338 N)) N1 σ x2 x3 x4 0)
def f_X12_many_u386 (Q : Int → ml_St → Prop) (K344 : ml_St → Int → Int → Int → Prop) (σ : ml_St) (x3 : Int) (x6 : Int) (s0 : Int) (s1 : Int) : Prop :=
∀ y2 : Int, y2 = w64 (s0 + s1) →
I32 (x6 + 1) ∧
∀ y3 : Int, y3 = x6 + 1 →
K344 σ x3 y2 y3
def f_X12_many_u344 (Q : Int → ml_St → Prop) (K395 : ml_St → Int → Prop) : Nat → ml_St → Int → Int → Int → Prop
| 0, _, _, _, _ => False
| N + 1, σ, x3, x4, x6 =>
∀ _ : I32 (σ 215 39),
I32 (4 * (σ 215 39)) ∧
((4 * (σ 215 39)) ≤ x6 →
K395 σ x4) ∧
(¬ ((4 * (σ 215 39)) ≤ x6) →
(4 : Int) ≠ 0 ∧ I32 (Int.tmod x6 4) ∧
(4 : Int) ≠ 0 ∧ I32 (Int.tdiv x6 4) ∧
(0 : Int) ≤ (Int.tdiv x6 4) ∧ ((Int.tdiv x6 4) : Int) < 950 ∧
∀ _ : I32 (σ 243 (Int.tdiv x6 4)),
I32 ((Int.tmod x6 4) + (σ 243 (Int.tdiv x6 4))) ∧
(((Int.tmod x6 4) + (σ 243 (Int.tdiv x6 4))) ≠ x3 →
f_X12_many_u386 Q (f_X12_many_u344 Q K395 N) σ x3 x6 x4 0) ∧
(((Int.tmod x6 4) + (σ 243 (Int.tdiv x6 4))) = x3 →
(0 : Int) ≤ x6 ∧ (x6 : Int) < 3800 ∧
∀ _ : I64 (σ 244 x6),
f_X12_many_u386 Q (f_X12_many_u344 Q K395 N) σ x3 x6 x4 (σ 244 x6)))
def f_X12_many_u395 (Q : Int → ml_St → Prop) (σ : ml_St) (x4 : Int) : Prop :=
(998244353 : Int) ≠ 0 ∧
Q (b_l2i (Int.tmod x4 998244353)) σ
def f_X12_many_u338 (Q : Int → ml_St → Prop) (σ : ml_St) (x3 : Int) : Prop :=
∃ N1, f_X12_many_u344 Q (f_X12_many_u395 Q) N1 σ x3 0 0
def f_X12_many_u135 (Q : Int → ml_St → Prop) (σ : ml_St) (x2 : Int) (x3 : Int) : Prop :=
∃ N1, f_X12_many_u138 Q (f_X12_many_u338 Q) N1 σ x2 x3 1
def f_X12_many_u66 (Q : Int → ml_St → Prop) (σ : ml_St) (x2 : Int) (x3 : Int) : Prop :=
∃ N1, f_X12_many_u69 Q (f_X12_many_u135 Q) N1 σ x2 x3 0
def f_X12_many_u0 (Q : Int → ml_St → Prop) (σ : ml_St) (x1 : Int) (x2 : Int) (x3 : Int) : Prop :=
f_X12_isLetters σ x1 (fun r1 σ1 => ∀ _ : ml_B r1,
(r1 = 0 →
f_X12_many_u32 Q σ1) ∧
(r1 ≠ 0 →
f_X12_lies σ1 x2 1 1000 (fun r3 σ3 => ∀ _ : ml_B r3,
(r3 = 0 →
f_X12_many_u32 Q σ3) ∧
(r3 ≠ 0 →
f_X12_lies σ3 x3 0 3 (fun r5 σ5 => ∀ _ : ml_B r5,
(r5 ≠ 0 →
f_X12_joinsAll σ5 (fun σ7 =>
∃ N1, f_X12_many_u41 Q (f_X12_many_u66 Q) N1 σ7 x2 x3 0)) ∧
(r5 = 0 →
f_X12_many_u32 Q σ5))))))
def f_X12_many (σ : ml_St) (x1 : Int) (x2 : Int) (x3 : Int) (Q : Int → ml_St → Prop) : Prop := f_X12_many_u0 Q σ x1 x2 x3
def rm_X12_many : Room := { frames := 4, cells := 0, slots := 0, locals := 92 }
set_option maxRecDepth 100000 in
set_option maxHeartbeats 4000000 in
theorem u_X12_many_32 {p : Program} {e : Env} {s : State} {m : MethodId} {args : Array Value} {below : List Frame} {meth : Method} {c : Code} {base : Nat} {D : va_G} {cA : Nat → ClassId} {n : Nat} {l : Launch} {Q : Int → ml_St → Prop} (X : ml_X p s m c meth args D cA cX12_many 9 RX12 (some .int)) (hn : 256 ≤ n) (σ : ml_St) (ls : Array Slot) (hl : lv_has ls 9 []) (hw : f_X12_many_u32 Q σ) : ml_V p l e rm_X12_many s m args below meth c (MQ below (ml_Qi I32 base D cA n Q) args s 0 0 (ml_A base)) base D cA 0 0 n n σ (F0 m 32 ls []) := by
  unfold f_X12_many_u32 at hw
  refine ml_iconst (pc := 32) X dX12_many_32 ?_
  exact ml_iret (pc := 33) X ⟨by decide, by decide⟩ hw dX12_many_33
set_option maxRecDepth 100000 in
set_option maxHeartbeats 4000000 in
theorem u_X12_many_41 {p : Program} {e : Env} {s : State} {m : MethodId} {args : Array Value} {below : List Frame} {meth : Method} {c : Code} {base : Nat} {D : va_G} {cA : Nat → ClassId} {n : Nat} {l : Launch} {Q : Int → ml_St → Prop} {K66 : ml_St → Int → Int → Prop} (X : ml_X p s m c meth args D cA cX12_many 9 RX12 (some .int)) (hn : 256 ≤ n) (hK66 : ∀ (σ : ml_St) (x2 : Int) (x3 : Int) (h_x2 : I32 x2) (h_x3 : I32 x3) (ls : Array Slot), lv_has ls 9 [(0, .ref (base + (215 : Int).toNat)), (2, .int (Int32.ofInt x2)), (3, .int (Int32.ofInt x3))] → K66 σ x2 x3 → ml_V p l e rm_X12_many s m args below meth c (MQ below (ml_Qi I32 base D cA n Q) args s 0 0 (ml_A base)) base D cA 0 0 n n σ (F0 m 66 ls [])) : ∀ (N : Nat) (σ : ml_St) (x2 : Int) (x3 : Int) (x4 : Int) (h_x2 : I32 x2) (h_x3 : I32 x3) (h_x4 : I32 x4) (ls : Array Slot), lv_has ls 9 [(0, .ref (base + (215 : Int).toNat)), (2, .int (Int32.ofInt x2)), (3, .int (Int32.ofInt x3)), (4, .int (Int32.ofInt x4))] → f_X12_many_u41 Q K66 N σ x2 x3 x4 → ml_V p l e rm_X12_many s m args below meth c (MQ below (ml_Qi I32 base D cA n Q) args s 0 0 (ml_A base)) base D cA 0 0 n n σ (F0 m 41 ls []) := by
  intro N
  induction N with
  | zero => intro σ x2 x3 x4 h_x2 h_x3 h_x4 ls hl hw; exact False.elim hw
  | succ N ih =>
    intro σ x2 x3 x4 h_x2 h_x3 h_x4 ls hl hw
    unfold f_X12_many_u41 at hw
    refine ml_iload (pc := 41) X hl 3 rfl dX12_many_41 ?_
    refine ml_iconst (pc := 43) X dX12_many_43 ?_
    refine ml_aload_n (pc := 44) X hl 0 rfl rfl dX12_many_44 ?_
    refine gf_X12_367 (pc := 45) X (ml_c215 hn) dX12_many_45 (fun r1 => ?_)
    have hw := hw r1
    obtain ⟨v2, hw⟩ := hw
    refine ml_imul (pc := 48) X dX12_many_48 ?_
    refine ml_icmp_ge (pc := 49) (tgt := 66) X h_x4 v2 dX12_many_49 (by decide) (fun c3 => ?_) (fun c3 => ?_)
    · have hw := hw.1 c3
      exact hK66 σ x2 x3 h_x2 h_x3 _ (lv_sub hl [0, 1, 2] rfl) hw
    · have hw := hw.2 c3
      refine ml_aload_n (pc := 52) X hl 0 rfl rfl dX12_many_52 ?_
      refine gf_X12_101 (pc := 53) X (ml_c215 hn) dX12_many_53 ?_
      refine ml_iload (pc := 56) X hl 3 rfl dX12_many_56 ?_
      refine ml_lconst0 (pc := 58) X dX12_many_58 ?_
      obtain ⟨a4, b4, hw⟩ := hw
      refine ml_last (pc := 59) (N := 3800) X (ml_c244 hn) a4 b4 ⟨by decide, by decide⟩ dX12_many_59 (fun σ4 g4 => ?_)
      have hw := hw σ4 g4
      obtain ⟨v5, hw⟩ := hw
      obtain ⟨y5, e5⟩ : ∃ y : Int, y = x4 + 1 := ⟨_, rfl⟩
      have hw := hw y5 e5
      rw [← e5] at v5
      refine ml_iinc (pc := 60) X e5 hl 3 rfl (by decide) (lst' := [(4, .int (Int32.ofInt y5)), (0, .ref (base + (215 : Int).toNat)), (2, .int (Int32.ofInt x2)), (3, .int (Int32.ofInt x3))]) rfl dX12_many_60 (fun ls hl => ?_)
      refine ml_goto (pc := 63) (tgt := 41) X dX12_many_63 (by decide) ?_
      exact ih σ4 x2 x3 y5 h_x2 h_x3 v5 _ (lv_sub hl [1, 2, 3, 0] rfl) hw
set_option maxRecDepth 100000 in
set_option maxHeartbeats 4000000 in
theorem u_X12_many_129 {p : Program} {e : Env} {s : State} {m : MethodId} {args : Array Value} {below : List Frame} {meth : Method} {c : Code} {base : Nat} {D : va_G} {cA : Nat → ClassId} {n : Nat} {l : Launch} {Q : Int → ml_St → Prop} {K69 : ml_St → Int → Int → Int → Prop} (X : ml_X p s m c meth args D cA cX12_many 9 RX12 (some .int)) (hn : 256 ≤ n) (hK69 : ∀ (σ : ml_St) (x2 : Int) (x3 : Int) (x4 : Int) (h_x2 : I32 x2) (h_x3 : I32 x3) (h_x4 : I32 x4) (ls : Array Slot), lv_has ls 9 [(0, .ref (base + (215 : Int).toNat)), (2, .int (Int32.ofInt x2)), (3, .int (Int32.ofInt x3)), (4, .int (Int32.ofInt x4))] → K69 σ x2 x3 x4 → ml_V p l e rm_X12_many s m args below meth c (MQ below (ml_Qi I32 base D cA n Q) args s 0 0 (ml_A base)) base D cA 0 0 n n σ (F0 m 69 ls [])) (σ : ml_St) (x2 : Int) (x3 : Int) (x4 : Int) (h_x2 : I32 x2) (h_x3 : I32 x3) (h_x4 : I32 x4) (ls : Array Slot) (hl : lv_has ls 9 [(0, .ref (base + (215 : Int).toNat)), (2, .int (Int32.ofInt x2)), (3, .int (Int32.ofInt x3)), (4, .int (Int32.ofInt x4))]) (hw : f_X12_many_u129 Q K69 σ x2 x3 x4) : ml_V p l e rm_X12_many s m args below meth c (MQ below (ml_Qi I32 base D cA n Q) args s 0 0 (ml_A base)) base D cA 0 0 n n σ (F0 m 129 ls []) := by
  unfold f_X12_many_u129 at hw
  obtain ⟨v1, hw⟩ := hw
  obtain ⟨y1, e1⟩ : ∃ y : Int, y = x4 + 1 := ⟨_, rfl⟩
  have hw := hw y1 e1
  rw [← e1] at v1
  refine ml_iinc (pc := 129) X e1 hl 3 rfl (by decide) (lst' := [(4, .int (Int32.ofInt y1)), (0, .ref (base + (215 : Int).toNat)), (2, .int (Int32.ofInt x2)), (3, .int (Int32.ofInt x3))]) rfl dX12_many_129 (fun ls hl => ?_)
  refine ml_goto (pc := 132) (tgt := 69) X dX12_many_132 (by decide) ?_
  exact hK69 σ x2 x3 y1 h_x2 h_x3 v1 _ (lv_sub hl [1, 2, 3, 0] rfl) hw
set_option maxRecDepth 100000 in
set_option maxHeartbeats 4000000 in
theorem u_X12_many_69 {p : Program} {e : Env} {s : State} {m : MethodId} {args : Array Value} {below : List Frame} {meth : Method} {c : Code} {base : Nat} {D : va_G} {cA : Nat → ClassId} {n : Nat} {l : Launch} {Q : Int → ml_St → Prop} {K135 : ml_St → Int → Int → Prop} (X : ml_X p s m c meth args D cA cX12_many 9 RX12 (some .int)) (hn : 256 ≤ n) (hK135 : ∀ (σ : ml_St) (x2 : Int) (x3 : Int) (h_x2 : I32 x2) (h_x3 : I32 x3) (ls : Array Slot), lv_has ls 9 [(0, .ref (base + (215 : Int).toNat)), (2, .int (Int32.ofInt x2)), (3, .int (Int32.ofInt x3))] → K135 σ x2 x3 → ml_V p l e rm_X12_many s m args below meth c (MQ below (ml_Qi I32 base D cA n Q) args s 0 0 (ml_A base)) base D cA 0 0 n n σ (F0 m 135 ls [])) : ∀ (N : Nat) (σ : ml_St) (x2 : Int) (x3 : Int) (x4 : Int) (h_x2 : I32 x2) (h_x3 : I32 x3) (h_x4 : I32 x4) (ls : Array Slot), lv_has ls 9 [(0, .ref (base + (215 : Int).toNat)), (2, .int (Int32.ofInt x2)), (3, .int (Int32.ofInt x3)), (4, .int (Int32.ofInt x4))] → f_X12_many_u69 Q K135 N σ x2 x3 x4 → ml_V p l e rm_X12_many s m args below meth c (MQ below (ml_Qi I32 base D cA n Q) args s 0 0 (ml_A base)) base D cA 0 0 n n σ (F0 m 69 ls []) := by
  intro N
  induction N with
  | zero => intro σ x2 x3 x4 h_x2 h_x3 h_x4 ls hl hw; exact False.elim hw
  | succ N ih =>
    intro σ x2 x3 x4 h_x2 h_x3 h_x4 ls hl hw
    unfold f_X12_many_u69 at hw
    refine ml_iload (pc := 69) X hl 3 rfl dX12_many_69 ?_
    refine ml_aload_n (pc := 71) X hl 0 rfl rfl dX12_many_71 ?_
    refine gf_X12_364 (pc := 72) X (ml_c215 hn) dX12_many_72 (fun r1 => ?_)
    have hw := hw r1
    refine ml_icmp_ge (pc := 75) (tgt := 135) X h_x4 r1 dX12_many_75 (by decide) (fun c2 => ?_) (fun c2 => ?_)
    · have hw := hw.1 c2
      exact hK135 σ x2 x3 h_x2 h_x3 _ (lv_sub hl [0, 1, 2] rfl) hw
    · have hw := hw.2 c2
      refine ml_aload_n (pc := 78) X hl 0 rfl rfl dX12_many_78 ?_
      refine gf_X12_55 (pc := 79) X (ml_c215 hn) dX12_many_79 ?_
      refine ml_aload_n (pc := 82) X hl 0 rfl rfl dX12_many_82 ?_
      refine gf_X12_80 (pc := 83) X (ml_c215 hn) dX12_many_83 ?_
      refine ml_iload (pc := 86) X hl 3 rfl dX12_many_86 ?_
      obtain ⟨a3, b3, hw⟩ := hw
      refine ml_iald (pc := 88) (N := 6) X (ml_c237 hn) a3 b3 dX12_many_88 (fun r3 => ?_)
      have hw := hw r3
      obtain ⟨a4, b4, hw⟩ := hw
      refine ml_lald (pc := 89) (N := 64) X (ml_c229 hn) a4 b4 dX12_many_89 (fun r4 => ?_)
      have hw := hw r4
      refine ml_ldc2 (pc := 90) (v := 4) X dX12_many_90 tc_6_173 ?_
      refine ml_lcmp_ge (pc := 93) (tgt := 129) X r4 ⟨by decide, by decide⟩ dX12_many_93 dX12_many_94 (by decide) (fun c5 => ?_) (fun c5 => ?_)
      · have hw := hw.1 c5
        exact u_X12_many_129 X hn ih σ x2 x3 x4 h_x2 h_x3 h_x4 _ (lv_sub hl [0, 1, 2, 3] rfl) hw
      · have hw := hw.2 c5
        refine ml_aload_n (pc := 97) X hl 0 rfl rfl dX12_many_97 ?_
        refine gf_X12_101 (pc := 98) X (ml_c215 hn) dX12_many_98 ?_
        refine ml_iconst (pc := 101) X dX12_many_101 ?_
        refine ml_aload_n (pc := 102) X hl 0 rfl rfl dX12_many_102 ?_
        refine gf_X12_95 (pc := 103) X (ml_c215 hn) dX12_many_103 ?_
        refine ml_iload (pc := 106) X hl 3 rfl dX12_many_106 ?_
        obtain ⟨a6, b6, hw⟩ := hw
        refine ml_iald (pc := 108) (N := 6) X (ml_c242 hn) a6 b6 dX12_many_108 (fun r6 => ?_)
        have hw := hw r6
        obtain ⟨v7, hw⟩ := hw
        refine ml_imul (pc := 109) X dX12_many_109 ?_
        refine ml_aload_n (pc := 110) X hl 0 rfl rfl dX12_many_110 ?_
        refine gf_X12_55 (pc := 111) X (ml_c215 hn) dX12_many_111 ?_
        refine ml_aload_n (pc := 114) X hl 0 rfl rfl dX12_many_114 ?_
        refine gf_X12_80 (pc := 115) X (ml_c215 hn) dX12_many_115 ?_
        refine ml_iload (pc := 118) X hl 3 rfl dX12_many_118 ?_
        obtain ⟨a8, b8, hw⟩ := hw
        refine ml_iald (pc := 120) (N := 6) X (ml_c237 hn) a8 b8 dX12_many_120 (fun r8 => ?_)
        have hw := hw r8
        obtain ⟨a9, b9, hw⟩ := hw
        refine ml_lald (pc := 121) (N := 64) X (ml_c229 hn) a9 b9 dX12_many_121 (fun r9 => ?_)
        have hw := hw r9
        refine ml_l2i (pc := 122) X dX12_many_122 ?_
        obtain ⟨v10, hw⟩ := hw
        refine ml_iadd (pc := 123) X dX12_many_123 ?_
        refine ml_dup2 (pc := 124) X dX12_many_124 rfl rfl ?_
        obtain ⟨a11, b11, hw⟩ := hw
        refine ml_lald (pc := 125) (N := 3800) X (ml_c244 hn) a11 b11 dX12_many_125 (fun r11 => ?_)
        have hw := hw r11
        refine ml_lconst1 (pc := 126) X dX12_many_126 ?_
        refine ml_laddW (pc := 127) X dX12_many_127 ?_
        obtain ⟨a13, b13, hw⟩ := hw
        refine ml_last (pc := 128) (N := 3800) X (ml_c244 hn) a13 b13 (w64_r _) dX12_many_128 (fun σ13 g13 => ?_)
        have hw := hw σ13 g13
        exact u_X12_many_129 X hn ih σ13 x2 x3 x4 h_x2 h_x3 h_x4 _ (lv_sub hl [0, 1, 2, 3] rfl) hw
set_option maxRecDepth 100000 in
set_option maxHeartbeats 4000000 in
theorem u_X12_many_147 {p : Program} {e : Env} {s : State} {m : MethodId} {args : Array Value} {below : List Frame} {meth : Method} {c : Code} {base : Nat} {D : va_G} {cA : Nat → ClassId} {n : Nat} {l : Launch} {Q : Int → ml_St → Prop} {K172 : ml_St → Int → Int → Int → Prop} (X : ml_X p s m c meth args D cA cX12_many 9 RX12 (some .int)) (hn : 256 ≤ n) (hK172 : ∀ (σ : ml_St) (x2 : Int) (x3 : Int) (x4 : Int) (h_x2 : I32 x2) (h_x3 : I32 x3) (h_x4 : I32 x4) (ls : Array Slot), lv_has ls 9 [(0, .ref (base + (215 : Int).toNat)), (2, .int (Int32.ofInt x2)), (3, .int (Int32.ofInt x3)), (4, .int (Int32.ofInt x4))] → K172 σ x2 x3 x4 → ml_V p l e rm_X12_many s m args below meth c (MQ below (ml_Qi I32 base D cA n Q) args s 0 0 (ml_A base)) base D cA 0 0 n n σ (F0 m 172 ls [])) : ∀ (N : Nat) (σ : ml_St) (x2 : Int) (x3 : Int) (x4 : Int) (x5 : Int) (h_x2 : I32 x2) (h_x3 : I32 x3) (h_x4 : I32 x4) (h_x5 : I32 x5) (ls : Array Slot), lv_has ls 9 [(0, .ref (base + (215 : Int).toNat)), (2, .int (Int32.ofInt x2)), (3, .int (Int32.ofInt x3)), (4, .int (Int32.ofInt x4)), (5, .int (Int32.ofInt x5))] → f_X12_many_u147 Q K172 N σ x2 x3 x4 x5 → ml_V p l e rm_X12_many s m args below meth c (MQ below (ml_Qi I32 base D cA n Q) args s 0 0 (ml_A base)) base D cA 0 0 n n σ (F0 m 147 ls []) := by
  intro N
  induction N with
  | zero => intro σ x2 x3 x4 x5 h_x2 h_x3 h_x4 h_x5 ls hl hw; exact False.elim hw
  | succ N ih =>
    intro σ x2 x3 x4 x5 h_x2 h_x3 h_x4 h_x5 ls hl hw
    unfold f_X12_many_u147 at hw
    refine ml_iload (pc := 147) X hl 4 rfl dX12_many_147 ?_
    refine ml_iconst (pc := 149) X dX12_many_149 ?_
    refine ml_aload_n (pc := 150) X hl 0 rfl rfl dX12_many_150 ?_
    refine gf_X12_367 (pc := 151) X (ml_c215 hn) dX12_many_151 (fun r1 => ?_)
    have hw := hw r1
    obtain ⟨v2, hw⟩ := hw
    refine ml_imul (pc := 154) X dX12_many_154 ?_
    refine ml_icmp_ge (pc := 155) (tgt := 172) X h_x5 v2 dX12_many_155 (by decide) (fun c3 => ?_) (fun c3 => ?_)
    · have hw := hw.1 c3
      exact hK172 σ x2 x3 x4 h_x2 h_x3 h_x4 _ (lv_sub hl [0, 1, 2, 3] rfl) hw
    · have hw := hw.2 c3
      refine ml_aload_n (pc := 158) X hl 0 rfl rfl dX12_many_158 ?_
      refine gf_X12_104 (pc := 159) X (ml_c215 hn) dX12_many_159 ?_
      refine ml_iload (pc := 162) X hl 4 rfl dX12_many_162 ?_
      refine ml_lconst0 (pc := 164) X dX12_many_164 ?_
      obtain ⟨a4, b4, hw⟩ := hw
      refine ml_last (pc := 165) (N := 3800) X (ml_c245 hn) a4 b4 ⟨by decide, by decide⟩ dX12_many_165 (fun σ4 g4 => ?_)
      have hw := hw σ4 g4
      obtain ⟨v5, hw⟩ := hw
      obtain ⟨y5, e5⟩ : ∃ y : Int, y = x5 + 1 := ⟨_, rfl⟩
      have hw := hw y5 e5
      rw [← e5] at v5
      refine ml_iinc (pc := 166) X e5 hl 4 rfl (by decide) (lst' := [(5, .int (Int32.ofInt y5)), (0, .ref (base + (215 : Int).toNat)), (2, .int (Int32.ofInt x2)), (3, .int (Int32.ofInt x3)), (4, .int (Int32.ofInt x4))]) rfl dX12_many_166 (fun ls hl => ?_)
      refine ml_goto (pc := 169) (tgt := 147) X dX12_many_169 (by decide) ?_
      exact ih σ4 x2 x3 x4 y5 h_x2 h_x3 h_x4 v5 _ (lv_sub hl [1, 2, 3, 4, 0] rfl) hw
set_option maxRecDepth 100000 in
set_option maxHeartbeats 4000000 in
theorem u_X12_many_286 {p : Program} {e : Env} {s : State} {m : MethodId} {args : Array Value} {below : List Frame} {meth : Method} {c : Code} {base : Nat} {D : va_G} {cA : Nat → ClassId} {n : Nat} {l : Launch} {Q : Int → ml_St → Prop} {K189 : ml_St → Int → Int → Int → Int → Int → Prop} (X : ml_X p s m c meth args D cA cX12_many 9 RX12 (some .int)) (hn : 256 ≤ n) (hK189 : ∀ (σ : ml_St) (x2 : Int) (x3 : Int) (x4 : Int) (x5 : Int) (x6 : Int) (h_x2 : I32 x2) (h_x3 : I32 x3) (h_x4 : I32 x4) (h_x5 : I32 x5) (h_x6 : I32 x6) (ls : Array Slot), lv_has ls 9 [(0, .ref (base + (215 : Int).toNat)), (2, .int (Int32.ofInt x2)), (3, .int (Int32.ofInt x3)), (4, .int (Int32.ofInt x4)), (5, .int (Int32.ofInt x5)), (6, .int (Int32.ofInt x6))] → K189 σ x2 x3 x4 x5 x6 → ml_V p l e rm_X12_many s m args below meth c (MQ below (ml_Qi I32 base D cA n Q) args s 0 0 (ml_A base)) base D cA 0 0 n n σ (F0 m 189 ls [])) (σ : ml_St) (x2 : Int) (x3 : Int) (x4 : Int) (x5 : Int) (x6 : Int) (h_x2 : I32 x2) (h_x3 : I32 x3) (h_x4 : I32 x4) (h_x5 : I32 x5) (h_x6 : I32 x6) (ls : Array Slot) (hl : lv_has ls 9 [(0, .ref (base + (215 : Int).toNat)), (2, .int (Int32.ofInt x2)), (3, .int (Int32.ofInt x3)), (4, .int (Int32.ofInt x4)), (5, .int (Int32.ofInt x5)), (6, .int (Int32.ofInt x6))]) (hw : f_X12_many_u286 Q K189 σ x2 x3 x4 x5 x6) : ml_V p l e rm_X12_many s m args below meth c (MQ below (ml_Qi I32 base D cA n Q) args s 0 0 (ml_A base)) base D cA 0 0 n n σ (F0 m 286 ls []) := by
  unfold f_X12_many_u286 at hw
  obtain ⟨v1, hw⟩ := hw
  obtain ⟨y1, e1⟩ : ∃ y : Int, y = x6 + 1 := ⟨_, rfl⟩
  have hw := hw y1 e1
  rw [← e1] at v1
  refine ml_iinc (pc := 286) X e1 hl 5 rfl (by decide) (lst' := [(6, .int (Int32.ofInt y1)), (0, .ref (base + (215 : Int).toNat)), (2, .int (Int32.ofInt x2)), (3, .int (Int32.ofInt x3)), (4, .int (Int32.ofInt x4)), (5, .int (Int32.ofInt x5))]) rfl dX12_many_286 (fun ls hl => ?_)
  refine ml_goto (pc := 289) (tgt := 189) X dX12_many_289 (by decide) ?_
  exact hK189 σ x2 x3 x4 x5 y1 h_x2 h_x3 h_x4 h_x5 v1 _ (lv_sub hl [1, 2, 3, 4, 5, 0] rfl) hw
set_option maxRecDepth 100000 in
set_option maxHeartbeats 4000000 in
theorem u_X12_many_189 {p : Program} {e : Env} {s : State} {m : MethodId} {args : Array Value} {below : List Frame} {meth : Method} {c : Code} {base : Nat} {D : va_G} {cA : Nat → ClassId} {n : Nat} {l : Launch} {Q : Int → ml_St → Prop} {K292 : ml_St → Int → Int → Int → Int → Prop} (X : ml_X p s m c meth args D cA cX12_many 9 RX12 (some .int)) (hn : 256 ≤ n) (hK292 : ∀ (σ : ml_St) (x2 : Int) (x3 : Int) (x4 : Int) (x5 : Int) (h_x2 : I32 x2) (h_x3 : I32 x3) (h_x4 : I32 x4) (h_x5 : I32 x5) (ls : Array Slot), lv_has ls 9 [(0, .ref (base + (215 : Int).toNat)), (2, .int (Int32.ofInt x2)), (3, .int (Int32.ofInt x3)), (4, .int (Int32.ofInt x4)), (5, .int (Int32.ofInt x5))] → K292 σ x2 x3 x4 x5 → ml_V p l e rm_X12_many s m args below meth c (MQ below (ml_Qi I32 base D cA n Q) args s 0 0 (ml_A base)) base D cA 0 0 n n σ (F0 m 292 ls [])) : ∀ (N : Nat) (σ : ml_St) (x2 : Int) (x3 : Int) (x4 : Int) (x5 : Int) (x6 : Int) (h_x2 : I32 x2) (h_x3 : I32 x3) (h_x4 : I32 x4) (h_x5 : I32 x5) (h_x6 : I32 x6) (ls : Array Slot), lv_has ls 9 [(0, .ref (base + (215 : Int).toNat)), (2, .int (Int32.ofInt x2)), (3, .int (Int32.ofInt x3)), (4, .int (Int32.ofInt x4)), (5, .int (Int32.ofInt x5)), (6, .int (Int32.ofInt x6))] → f_X12_many_u189 Q K292 N σ x2 x3 x4 x5 x6 → ml_V p l e rm_X12_many s m args below meth c (MQ below (ml_Qi I32 base D cA n Q) args s 0 0 (ml_A base)) base D cA 0 0 n n σ (F0 m 189 ls []) := by
  intro N
  induction N with
  | zero => intro σ x2 x3 x4 x5 x6 h_x2 h_x3 h_x4 h_x5 h_x6 ls hl hw; exact False.elim hw
  | succ N ih =>
    intro σ x2 x3 x4 x5 x6 h_x2 h_x3 h_x4 h_x5 h_x6 ls hl hw
    unfold f_X12_many_u189 at hw
    refine ml_iload (pc := 189) X hl 5 rfl dX12_many_189 ?_
    refine ml_aload_n (pc := 191) X hl 0 rfl rfl dX12_many_191 ?_
    refine gf_X12_364 (pc := 192) X (ml_c215 hn) dX12_many_192 (fun r1 => ?_)
    have hw := hw r1
    refine ml_icmp_ge (pc := 195) (tgt := 292) X h_x6 r1 dX12_many_195 (by decide) (fun c2 => ?_) (fun c2 => ?_)
    · have hw := hw.1 c2
      exact hK292 σ x2 x3 x4 x5 h_x2 h_x3 h_x4 h_x5 _ (lv_sub hl [0, 1, 2, 3, 4] rfl) hw
    · have hw := hw.2 c2
      refine ml_aload_n (pc := 198) X hl 0 rfl rfl dX12_many_198 ?_
      refine gf_X12_101 (pc := 199) X (ml_c215 hn) dX12_many_199 ?_
      refine ml_iload (pc := 202) X hl 4 rfl dX12_many_202 ?_
      obtain ⟨a3, b3, hw⟩ := hw
      refine ml_lald (pc := 204) (N := 3800) X (ml_c244 hn) a3 b3 dX12_many_204 (fun r3 => ?_)
      have hw := hw r3
      refine ml_lconst0 (pc := 205) X dX12_many_205 ?_
      refine ml_lcmp_le (pc := 206) (tgt := 292) X r3 ⟨by decide, by decide⟩ dX12_many_206 dX12_many_207 (by decide) (fun c4 => ?_) (fun c4 => ?_)
      · have hw := hw.1 c4
        exact hK292 σ x2 x3 x4 x5 h_x2 h_x3 h_x4 h_x5 _ (lv_sub hl [0, 1, 2, 3, 4] rfl) hw
      · have hw := hw.2 c4
        refine ml_iload (pc := 210) X hl 4 rfl dX12_many_210 ?_
        refine ml_iconst (pc := 212) X dX12_many_212 ?_
        obtain ⟨z5, v5, hw⟩ := hw
        refine ml_irem (pc := 213) X h_x5 ⟨by decide, by decide⟩ z5 dX12_many_213 ?_
        refine ml_aload_n (pc := 214) X hl 0 rfl rfl dX12_many_214 ?_
        refine gf_X12_92 (pc := 215) X (ml_c215 hn) dX12_many_215 ?_
        refine ml_bipush (pc := 218) X dX12_many_218 (by decide) ?_
        refine ml_iload (pc := 220) X hl 4 rfl dX12_many_220 ?_
        refine ml_iconst (pc := 222) X dX12_many_222 ?_
        obtain ⟨z6, v6, hw⟩ := hw
        refine ml_idiv (pc := 223) X h_x5 ⟨by decide, by decide⟩ z6 dX12_many_223 ?_
        obtain ⟨v7, hw⟩ := hw
        refine ml_imul (pc := 224) X dX12_many_224 ?_
        refine ml_iload (pc := 225) X hl 5 rfl dX12_many_225 ?_
        obtain ⟨v8, hw⟩ := hw
        refine ml_iadd (pc := 227) X dX12_many_227 ?_
        obtain ⟨a9, b9, hw⟩ := hw
        refine ml_iald (pc := 228) (N := 5700) X (ml_c241 hn) a9 b9 dX12_many_228 (fun r9 => ?_)
        have hw := hw r9
        obtain ⟨v10, hw⟩ := hw
        refine ml_iadd (pc := 229) X dX12_many_229 ?_
        refine ml_topI (pc := 230) (fun y11 e11 => ?_)
        have hw := hw y11 e11
        have q11 : I32 y11 := by rw [e11]; exact v10
        refine ml_istore (pc := 230) X hl (by decide) (lst' := [(7, .int (Int32.ofInt y11)), (0, .ref (base + (215 : Int).toNat)), (2, .int (Int32.ofInt x2)), (3, .int (Int32.ofInt x3)), (4, .int (Int32.ofInt x4)), (5, .int (Int32.ofInt x5)), (6, .int (Int32.ofInt x6))]) rfl dX12_many_230 (fun ls hl => ?_)
        refine ml_iconst (pc := 232) X dX12_many_232 ?_
        refine ml_aload_n (pc := 233) X hl 1 rfl rfl dX12_many_233 ?_
        refine gf_X12_89 (pc := 234) X (ml_c215 hn) dX12_many_234 ?_
        refine ml_bipush (pc := 237) X dX12_many_237 (by decide) ?_
        refine ml_iload (pc := 239) X hl 5 rfl dX12_many_239 ?_
        refine ml_iconst (pc := 241) X dX12_many_241 ?_
        obtain ⟨z12, v12, hw⟩ := hw
        refine ml_idiv (pc := 242) X h_x5 ⟨by decide, by decide⟩ z12 dX12_many_242 ?_
        obtain ⟨v13, hw⟩ := hw
        refine ml_imul (pc := 243) X dX12_many_243 ?_
        refine ml_iload (pc := 244) X hl 6 rfl dX12_many_244 ?_
        obtain ⟨v14, hw⟩ := hw
        refine ml_iadd (pc := 246) X dX12_many_246 ?_
        obtain ⟨a15, b15, hw⟩ := hw
        refine ml_iald (pc := 247) (N := 5700) X (ml_c240 hn) a15 b15 dX12_many_247 (fun r15 => ?_)
        have hw := hw r15
        obtain ⟨v16, hw⟩ := hw
        refine ml_imul (pc := 248) X dX12_many_248 ?_
        refine ml_iload (pc := 249) X hl 0 rfl dX12_many_249 ?_
        obtain ⟨v17, hw⟩ := hw
        refine ml_iadd (pc := 251) X dX12_many_251 ?_
        refine ml_topI (pc := 252) (fun y18 e18 => ?_)
        have hw := hw y18 e18
        have q18 : I32 y18 := by rw [e18]; exact v17
        refine ml_istore (pc := 252) X hl (by decide) (lst' := [(8, .int (Int32.ofInt y18)), (7, .int (Int32.ofInt y11)), (0, .ref (base + (215 : Int).toNat)), (2, .int (Int32.ofInt x2)), (3, .int (Int32.ofInt x3)), (4, .int (Int32.ofInt x4)), (5, .int (Int32.ofInt x5)), (6, .int (Int32.ofInt x6))]) rfl dX12_many_252 (fun ls hl => ?_)
        refine ml_iload (pc := 254) X hl 1 rfl dX12_many_254 ?_
        refine ml_iconst (pc := 256) X dX12_many_256 ?_
        refine ml_icmp_ge (pc := 257) (tgt := 286) X q11 ⟨by decide, by decide⟩ dX12_many_257 (by decide) (fun c19 => ?_) (fun c19 => ?_)
        · have hw := hw.1 c19
          exact u_X12_many_286 X hn ih σ x2 x3 x4 x5 x6 h_x2 h_x3 h_x4 h_x5 h_x6 _ (lv_sub hl [2, 3, 4, 5, 6, 7] rfl) hw
        · have hw := hw.2 c19
          refine ml_aload_n (pc := 260) X hl 2 rfl rfl dX12_many_260 ?_
          refine gf_X12_104 (pc := 261) X (ml_c215 hn) dX12_many_261 ?_
          refine ml_iload (pc := 264) X hl 0 rfl dX12_many_264 ?_
          refine ml_aload_n (pc := 266) X hl 2 rfl rfl dX12_many_266 ?_
          refine gf_X12_104 (pc := 267) X (ml_c215 hn) dX12_many_267 ?_
          refine ml_iload (pc := 270) X hl 0 rfl dX12_many_270 ?_
          obtain ⟨a20, b20, hw⟩ := hw
          refine ml_lald (pc := 272) (N := 3800) X (ml_c245 hn) a20 b20 dX12_many_272 (fun r20 => ?_)
          have hw := hw r20
          refine ml_aload_n (pc := 273) X hl 2 rfl rfl dX12_many_273 ?_
          refine gf_X12_101 (pc := 274) X (ml_c215 hn) dX12_many_274 ?_
          refine ml_iload (pc := 277) X hl 6 rfl dX12_many_277 ?_
          obtain ⟨a21, b21, hw⟩ := hw
          refine ml_lald (pc := 279) (N := 3800) X (ml_c244 hn) a21 b21 dX12_many_279 (fun r21 => ?_)
          have hw := hw r21
          refine ml_laddW (pc := 280) X dX12_many_280 ?_
          refine ml_ldc2 (pc := 281) (v := 998244353) X dX12_many_281 tc_6_174 ?_
          obtain ⟨z23, hw⟩ := hw
          refine ml_lrem (pc := 284) X (w64_r _) ⟨by decide, by decide⟩ z23 dX12_many_284 ?_
          obtain ⟨a24, b24, hw⟩ := hw
          refine ml_last (pc := 285) (N := 3800) X (ml_c245 hn) a24 b24 (ml_tmod_r (w64_r _)) dX12_many_285 (fun σ24 g24 => ?_)
          have hw := hw σ24 g24
          exact u_X12_many_286 X hn ih σ24 x2 x3 x4 x5 x6 h_x2 h_x3 h_x4 h_x5 h_x6 _ (lv_sub hl [2, 3, 4, 5, 6, 7] rfl) hw
set_option maxRecDepth 100000 in
set_option maxHeartbeats 4000000 in
theorem u_X12_many_292 {p : Program} {e : Env} {s : State} {m : MethodId} {args : Array Value} {below : List Frame} {meth : Method} {c : Code} {base : Nat} {D : va_G} {cA : Nat → ClassId} {n : Nat} {l : Launch} {Q : Int → ml_St → Prop} {K175 : ml_St → Int → Int → Int → Int → Prop} (X : ml_X p s m c meth args D cA cX12_many 9 RX12 (some .int)) (hn : 256 ≤ n) (hK175 : ∀ (σ : ml_St) (x2 : Int) (x3 : Int) (x4 : Int) (x5 : Int) (h_x2 : I32 x2) (h_x3 : I32 x3) (h_x4 : I32 x4) (h_x5 : I32 x5) (ls : Array Slot), lv_has ls 9 [(0, .ref (base + (215 : Int).toNat)), (2, .int (Int32.ofInt x2)), (3, .int (Int32.ofInt x3)), (4, .int (Int32.ofInt x4)), (5, .int (Int32.ofInt x5))] → K175 σ x2 x3 x4 x5 → ml_V p l e rm_X12_many s m args below meth c (MQ below (ml_Qi I32 base D cA n Q) args s 0 0 (ml_A base)) base D cA 0 0 n n σ (F0 m 175 ls [])) (σ : ml_St) (x2 : Int) (x3 : Int) (x4 : Int) (x5 : Int) (h_x2 : I32 x2) (h_x3 : I32 x3) (h_x4 : I32 x4) (h_x5 : I32 x5) (ls : Array Slot) (hl : lv_has ls 9 [(0, .ref (base + (215 : Int).toNat)), (2, .int (Int32.ofInt x2)), (3, .int (Int32.ofInt x3)), (4, .int (Int32.ofInt x4)), (5, .int (Int32.ofInt x5))]) (hw : f_X12_many_u292 Q K175 σ x2 x3 x4 x5) : ml_V p l e rm_X12_many s m args below meth c (MQ below (ml_Qi I32 base D cA n Q) args s 0 0 (ml_A base)) base D cA 0 0 n n σ (F0 m 292 ls []) := by
  unfold f_X12_many_u292 at hw
  obtain ⟨v1, hw⟩ := hw
  obtain ⟨y1, e1⟩ : ∃ y : Int, y = x5 + 1 := ⟨_, rfl⟩
  have hw := hw y1 e1
  rw [← e1] at v1
  refine ml_iinc (pc := 292) X e1 hl 4 rfl (by decide) (lst' := [(5, .int (Int32.ofInt y1)), (0, .ref (base + (215 : Int).toNat)), (2, .int (Int32.ofInt x2)), (3, .int (Int32.ofInt x3)), (4, .int (Int32.ofInt x4))]) rfl dX12_many_292 (fun ls hl => ?_)
  refine ml_goto (pc := 295) (tgt := 175) X dX12_many_295 (by decide) ?_
  exact hK175 σ x2 x3 x4 y1 h_x2 h_x3 h_x4 v1 _ (lv_sub hl [1, 2, 3, 4, 0] rfl) hw
set_option maxRecDepth 100000 in
set_option maxHeartbeats 4000000 in
theorem u_X12_many_175 {p : Program} {e : Env} {s : State} {m : MethodId} {args : Array Value} {below : List Frame} {meth : Method} {c : Code} {base : Nat} {D : va_G} {cA : Nat → ClassId} {n : Nat} {l : Launch} {Q : Int → ml_St → Prop} {K298 : ml_St → Int → Int → Int → Prop} (X : ml_X p s m c meth args D cA cX12_many 9 RX12 (some .int)) (hn : 256 ≤ n) (hK298 : ∀ (σ : ml_St) (x2 : Int) (x3 : Int) (x4 : Int) (h_x2 : I32 x2) (h_x3 : I32 x3) (h_x4 : I32 x4) (ls : Array Slot), lv_has ls 9 [(0, .ref (base + (215 : Int).toNat)), (2, .int (Int32.ofInt x2)), (3, .int (Int32.ofInt x3)), (4, .int (Int32.ofInt x4))] → K298 σ x2 x3 x4 → ml_V p l e rm_X12_many s m args below meth c (MQ below (ml_Qi I32 base D cA n Q) args s 0 0 (ml_A base)) base D cA 0 0 n n σ (F0 m 298 ls [])) : ∀ (N : Nat) (σ : ml_St) (x2 : Int) (x3 : Int) (x4 : Int) (x5 : Int) (h_x2 : I32 x2) (h_x3 : I32 x3) (h_x4 : I32 x4) (h_x5 : I32 x5) (ls : Array Slot), lv_has ls 9 [(0, .ref (base + (215 : Int).toNat)), (2, .int (Int32.ofInt x2)), (3, .int (Int32.ofInt x3)), (4, .int (Int32.ofInt x4)), (5, .int (Int32.ofInt x5))] → f_X12_many_u175 Q K298 N σ x2 x3 x4 x5 → ml_V p l e rm_X12_many s m args below meth c (MQ below (ml_Qi I32 base D cA n Q) args s 0 0 (ml_A base)) base D cA 0 0 n n σ (F0 m 175 ls []) := by
  intro N
  induction N with
  | zero => intro σ x2 x3 x4 x5 h_x2 h_x3 h_x4 h_x5 ls hl hw; exact False.elim hw
  | succ N ih =>
    intro σ x2 x3 x4 x5 h_x2 h_x3 h_x4 h_x5 ls hl hw
    unfold f_X12_many_u175 at hw
    refine ml_iload (pc := 175) X hl 4 rfl dX12_many_175 ?_
    refine ml_iconst (pc := 177) X dX12_many_177 ?_
    refine ml_aload_n (pc := 178) X hl 0 rfl rfl dX12_many_178 ?_
    refine gf_X12_367 (pc := 179) X (ml_c215 hn) dX12_many_179 (fun r1 => ?_)
    have hw := hw r1
    obtain ⟨v2, hw⟩ := hw
    refine ml_imul (pc := 182) X dX12_many_182 ?_
    refine ml_icmp_ge (pc := 183) (tgt := 298) X h_x5 v2 dX12_many_183 (by decide) (fun c3 => ?_) (fun c3 => ?_)
    · have hw := hw.1 c3
      exact hK298 σ x2 x3 x4 h_x2 h_x3 h_x4 _ (lv_sub hl [0, 1, 2, 3] rfl) hw
    · have hw := hw.2 c3
      refine ml_iconst (pc := 186) X dX12_many_186 ?_
      refine ml_istore (pc := 187) X hl (by decide) (lst' := [(6, .int (Int32.ofInt 0)), (0, .ref (base + (215 : Int).toNat)), (2, .int (Int32.ofInt x2)), (3, .int (Int32.ofInt x3)), (4, .int (Int32.ofInt x4)), (5, .int (Int32.ofInt x5))]) rfl dX12_many_187 (fun ls hl => ?_)
      obtain ⟨N0, hw⟩ := hw
      exact u_X12_many_189 X hn (fun σ x2 x3 x4 x5 h_x2 h_x3 h_x4 h_x5 ls hl hw => u_X12_many_292 X hn ih σ x2 x3 x4 x5 h_x2 h_x3 h_x4 h_x5 ls hl hw) N0 σ x2 x3 x4 x5 0 h_x2 h_x3 h_x4 h_x5 ⟨by decide, by decide⟩ _ (lv_sub hl [1, 2, 3, 4, 5, 0] rfl) hw
set_option maxRecDepth 100000 in
set_option maxHeartbeats 4000000 in
theorem u_X12_many_301 {p : Program} {e : Env} {s : State} {m : MethodId} {args : Array Value} {below : List Frame} {meth : Method} {c : Code} {base : Nat} {D : va_G} {cA : Nat → ClassId} {n : Nat} {l : Launch} {Q : Int → ml_St → Prop} {K332 : ml_St → Int → Int → Int → Prop} (X : ml_X p s m c meth args D cA cX12_many 9 RX12 (some .int)) (hn : 256 ≤ n) (hK332 : ∀ (σ : ml_St) (x2 : Int) (x3 : Int) (x4 : Int) (h_x2 : I32 x2) (h_x3 : I32 x3) (h_x4 : I32 x4) (ls : Array Slot), lv_has ls 9 [(0, .ref (base + (215 : Int).toNat)), (2, .int (Int32.ofInt x2)), (3, .int (Int32.ofInt x3)), (4, .int (Int32.ofInt x4))] → K332 σ x2 x3 x4 → ml_V p l e rm_X12_many s m args below meth c (MQ below (ml_Qi I32 base D cA n Q) args s 0 0 (ml_A base)) base D cA 0 0 n n σ (F0 m 332 ls [])) : ∀ (N : Nat) (σ : ml_St) (x2 : Int) (x3 : Int) (x4 : Int) (x5 : Int) (h_x2 : I32 x2) (h_x3 : I32 x3) (h_x4 : I32 x4) (h_x5 : I32 x5) (ls : Array Slot), lv_has ls 9 [(0, .ref (base + (215 : Int).toNat)), (2, .int (Int32.ofInt x2)), (3, .int (Int32.ofInt x3)), (4, .int (Int32.ofInt x4)), (5, .int (Int32.ofInt x5))] → f_X12_many_u301 Q K332 N σ x2 x3 x4 x5 → ml_V p l e rm_X12_many s m args below meth c (MQ below (ml_Qi I32 base D cA n Q) args s 0 0 (ml_A base)) base D cA 0 0 n n σ (F0 m 301 ls []) := by
  intro N
  induction N with
  | zero => intro σ x2 x3 x4 x5 h_x2 h_x3 h_x4 h_x5 ls hl hw; exact False.elim hw
  | succ N ih =>
    intro σ x2 x3 x4 x5 h_x2 h_x3 h_x4 h_x5 ls hl hw
    unfold f_X12_many_u301 at hw
    refine ml_iload (pc := 301) X hl 4 rfl dX12_many_301 ?_
    refine ml_iconst (pc := 303) X dX12_many_303 ?_
    refine ml_aload_n (pc := 304) X hl 0 rfl rfl dX12_many_304 ?_
    refine gf_X12_367 (pc := 305) X (ml_c215 hn) dX12_many_305 (fun r1 => ?_)
    have hw := hw r1
    obtain ⟨v2, hw⟩ := hw
    refine ml_imul (pc := 308) X dX12_many_308 ?_
    refine ml_icmp_ge (pc := 309) (tgt := 332) X h_x5 v2 dX12_many_309 (by decide) (fun c3 => ?_) (fun c3 => ?_)
    · have hw := hw.1 c3
      exact hK332 σ x2 x3 x4 h_x2 h_x3 h_x4 _ (lv_sub hl [0, 1, 2, 3] rfl) hw
    · have hw := hw.2 c3
      refine ml_aload_n (pc := 312) X hl 0 rfl rfl dX12_many_312 ?_
      refine gf_X12_101 (pc := 313) X (ml_c215 hn) dX12_many_313 ?_
      refine ml_iload (pc := 316) X hl 4 rfl dX12_many_316 ?_
      refine ml_aload_n (pc := 318) X hl 0 rfl rfl dX12_many_318 ?_
      refine gf_X12_104 (pc := 319) X (ml_c215 hn) dX12_many_319 ?_
      refine ml_iload (pc := 322) X hl 4 rfl dX12_many_322 ?_
      obtain ⟨a4, b4, hw⟩ := hw
      refine ml_lald (pc := 324) (N := 3800) X (ml_c245 hn) a4 b4 dX12_many_324 (fun r4 => ?_)
      have hw := hw r4
      obtain ⟨a5, b5, hw⟩ := hw
      refine ml_last (pc := 325) (N := 3800) X (ml_c244 hn) a5 b5 r4 dX12_many_325 (fun σ5 g5 => ?_)
      have hw := hw σ5 g5
      obtain ⟨v6, hw⟩ := hw
      obtain ⟨y6, e6⟩ : ∃ y : Int, y = x5 + 1 := ⟨_, rfl⟩
      have hw := hw y6 e6
      rw [← e6] at v6
      refine ml_iinc (pc := 326) X e6 hl 4 rfl (by decide) (lst' := [(5, .int (Int32.ofInt y6)), (0, .ref (base + (215 : Int).toNat)), (2, .int (Int32.ofInt x2)), (3, .int (Int32.ofInt x3)), (4, .int (Int32.ofInt x4))]) rfl dX12_many_326 (fun ls hl => ?_)
      refine ml_goto (pc := 329) (tgt := 301) X dX12_many_329 (by decide) ?_
      exact ih σ5 x2 x3 x4 y6 h_x2 h_x3 h_x4 v6 _ (lv_sub hl [1, 2, 3, 4, 0] rfl) hw
set_option maxRecDepth 100000 in
set_option maxHeartbeats 4000000 in
theorem u_X12_many_332 {p : Program} {e : Env} {s : State} {m : MethodId} {args : Array Value} {below : List Frame} {meth : Method} {c : Code} {base : Nat} {D : va_G} {cA : Nat → ClassId} {n : Nat} {l : Launch} {Q : Int → ml_St → Prop} {K138 : ml_St → Int → Int → Int → Prop} (X : ml_X p s m c meth args D cA cX12_many 9 RX12 (some .int)) (hn : 256 ≤ n) (hK138 : ∀ (σ : ml_St) (x2 : Int) (x3 : Int) (x4 : Int) (h_x2 : I32 x2) (h_x3 : I32 x3) (h_x4 : I32 x4) (ls : Array Slot), lv_has ls 9 [(0, .ref (base + (215 : Int).toNat)), (2, .int (Int32.ofInt x2)), (3, .int (Int32.ofInt x3)), (4, .int (Int32.ofInt x4))] → K138 σ x2 x3 x4 → ml_V p l e rm_X12_many s m args below meth c (MQ below (ml_Qi I32 base D cA n Q) args s 0 0 (ml_A base)) base D cA 0 0 n n σ (F0 m 138 ls [])) (σ : ml_St) (x2 : Int) (x3 : Int) (x4 : Int) (h_x2 : I32 x2) (h_x3 : I32 x3) (h_x4 : I32 x4) (ls : Array Slot) (hl : lv_has ls 9 [(0, .ref (base + (215 : Int).toNat)), (2, .int (Int32.ofInt x2)), (3, .int (Int32.ofInt x3)), (4, .int (Int32.ofInt x4))]) (hw : f_X12_many_u332 Q K138 σ x2 x3 x4) : ml_V p l e rm_X12_many s m args below meth c (MQ below (ml_Qi I32 base D cA n Q) args s 0 0 (ml_A base)) base D cA 0 0 n n σ (F0 m 332 ls []) := by
  unfold f_X12_many_u332 at hw
  obtain ⟨v1, hw⟩ := hw
  obtain ⟨y1, e1⟩ : ∃ y : Int, y = x4 + 1 := ⟨_, rfl⟩
  have hw := hw y1 e1
  rw [← e1] at v1
  refine ml_iinc (pc := 332) X e1 hl 3 rfl (by decide) (lst' := [(4, .int (Int32.ofInt y1)), (0, .ref (base + (215 : Int).toNat)), (2, .int (Int32.ofInt x2)), (3, .int (Int32.ofInt x3))]) rfl dX12_many_332 (fun ls hl => ?_)
  refine ml_goto (pc := 335) (tgt := 138) X dX12_many_335 (by decide) ?_
  exact hK138 σ x2 x3 y1 h_x2 h_x3 v1 _ (lv_sub hl [1, 2, 3, 0] rfl) hw
set_option maxRecDepth 100000 in
set_option maxHeartbeats 4000000 in
theorem u_X12_many_298 {p : Program} {e : Env} {s : State} {m : MethodId} {args : Array Value} {below : List Frame} {meth : Method} {c : Code} {base : Nat} {D : va_G} {cA : Nat → ClassId} {n : Nat} {l : Launch} {Q : Int → ml_St → Prop} {K138 : ml_St → Int → Int → Int → Prop} (X : ml_X p s m c meth args D cA cX12_many 9 RX12 (some .int)) (hn : 256 ≤ n) (hK138 : ∀ (σ : ml_St) (x2 : Int) (x3 : Int) (x4 : Int) (h_x2 : I32 x2) (h_x3 : I32 x3) (h_x4 : I32 x4) (ls : Array Slot), lv_has ls 9 [(0, .ref (base + (215 : Int).toNat)), (2, .int (Int32.ofInt x2)), (3, .int (Int32.ofInt x3)), (4, .int (Int32.ofInt x4))] → K138 σ x2 x3 x4 → ml_V p l e rm_X12_many s m args below meth c (MQ below (ml_Qi I32 base D cA n Q) args s 0 0 (ml_A base)) base D cA 0 0 n n σ (F0 m 138 ls [])) (σ : ml_St) (x2 : Int) (x3 : Int) (x4 : Int) (h_x2 : I32 x2) (h_x3 : I32 x3) (h_x4 : I32 x4) (ls : Array Slot) (hl : lv_has ls 9 [(0, .ref (base + (215 : Int).toNat)), (2, .int (Int32.ofInt x2)), (3, .int (Int32.ofInt x3)), (4, .int (Int32.ofInt x4))]) (hw : f_X12_many_u298 Q K138 σ x2 x3 x4) : ml_V p l e rm_X12_many s m args below meth c (MQ below (ml_Qi I32 base D cA n Q) args s 0 0 (ml_A base)) base D cA 0 0 n n σ (F0 m 298 ls []) := by
  unfold f_X12_many_u298 at hw
  refine ml_iconst (pc := 298) X dX12_many_298 ?_
  refine ml_istore (pc := 299) X hl (by decide) (lst' := [(5, .int (Int32.ofInt 0)), (0, .ref (base + (215 : Int).toNat)), (2, .int (Int32.ofInt x2)), (3, .int (Int32.ofInt x3)), (4, .int (Int32.ofInt x4))]) rfl dX12_many_299 (fun ls hl => ?_)
  obtain ⟨N0, hw⟩ := hw
  exact u_X12_many_301 X hn (fun σ x2 x3 x4 h_x2 h_x3 h_x4 ls hl hw => u_X12_many_332 X hn hK138 σ x2 x3 x4 h_x2 h_x3 h_x4 ls hl hw) N0 σ x2 x3 x4 0 h_x2 h_x3 h_x4 ⟨by decide, by decide⟩ _ (lv_sub hl [1, 2, 3, 4, 0] rfl) hw
set_option maxRecDepth 100000 in
set_option maxHeartbeats 4000000 in
theorem u_X12_many_172 {p : Program} {e : Env} {s : State} {m : MethodId} {args : Array Value} {below : List Frame} {meth : Method} {c : Code} {base : Nat} {D : va_G} {cA : Nat → ClassId} {n : Nat} {l : Launch} {Q : Int → ml_St → Prop} {K138 : ml_St → Int → Int → Int → Prop} (X : ml_X p s m c meth args D cA cX12_many 9 RX12 (some .int)) (hn : 256 ≤ n) (hK138 : ∀ (σ : ml_St) (x2 : Int) (x3 : Int) (x4 : Int) (h_x2 : I32 x2) (h_x3 : I32 x3) (h_x4 : I32 x4) (ls : Array Slot), lv_has ls 9 [(0, .ref (base + (215 : Int).toNat)), (2, .int (Int32.ofInt x2)), (3, .int (Int32.ofInt x3)), (4, .int (Int32.ofInt x4))] → K138 σ x2 x3 x4 → ml_V p l e rm_X12_many s m args below meth c (MQ below (ml_Qi I32 base D cA n Q) args s 0 0 (ml_A base)) base D cA 0 0 n n σ (F0 m 138 ls [])) (σ : ml_St) (x2 : Int) (x3 : Int) (x4 : Int) (h_x2 : I32 x2) (h_x3 : I32 x3) (h_x4 : I32 x4) (ls : Array Slot) (hl : lv_has ls 9 [(0, .ref (base + (215 : Int).toNat)), (2, .int (Int32.ofInt x2)), (3, .int (Int32.ofInt x3)), (4, .int (Int32.ofInt x4))]) (hw : f_X12_many_u172 Q K138 σ x2 x3 x4) : ml_V p l e rm_X12_many s m args below meth c (MQ below (ml_Qi I32 base D cA n Q) args s 0 0 (ml_A base)) base D cA 0 0 n n σ (F0 m 172 ls []) := by
  unfold f_X12_many_u172 at hw
  refine ml_iconst (pc := 172) X dX12_many_172 ?_
  refine ml_istore (pc := 173) X hl (by decide) (lst' := [(5, .int (Int32.ofInt 0)), (0, .ref (base + (215 : Int).toNat)), (2, .int (Int32.ofInt x2)), (3, .int (Int32.ofInt x3)), (4, .int (Int32.ofInt x4))]) rfl dX12_many_173 (fun ls hl => ?_)
  obtain ⟨N0, hw⟩ := hw
  exact u_X12_many_175 X hn (fun σ x2 x3 x4 h_x2 h_x3 h_x4 ls hl hw => u_X12_many_298 X hn hK138 σ x2 x3 x4 h_x2 h_x3 h_x4 ls hl hw) N0 σ x2 x3 x4 0 h_x2 h_x3 h_x4 ⟨by decide, by decide⟩ _ (lv_sub hl [1, 2, 3, 4, 0] rfl) hw
set_option maxRecDepth 100000 in
set_option maxHeartbeats 4000000 in
theorem u_X12_many_138 {p : Program} {e : Env} {s : State} {m : MethodId} {args : Array Value} {below : List Frame} {meth : Method} {c : Code} {base : Nat} {D : va_G} {cA : Nat → ClassId} {n : Nat} {l : Launch} {Q : Int → ml_St → Prop} {K338 : ml_St → Int → Prop} (X : ml_X p s m c meth args D cA cX12_many 9 RX12 (some .int)) (hn : 256 ≤ n) (hK338 : ∀ (σ : ml_St) (x3 : Int) (h_x3 : I32 x3) (ls : Array Slot), lv_has ls 9 [(0, .ref (base + (215 : Int).toNat)), (3, .int (Int32.ofInt x3))] → K338 σ x3 → ml_V p l e rm_X12_many s m args below meth c (MQ below (ml_Qi I32 base D cA n Q) args s 0 0 (ml_A base)) base D cA 0 0 n n σ (F0 m 338 ls [])) : ∀ (N : Nat) (σ : ml_St) (x2 : Int) (x3 : Int) (x4 : Int) (h_x2 : I32 x2) (h_x3 : I32 x3) (h_x4 : I32 x4) (ls : Array Slot), lv_has ls 9 [(0, .ref (base + (215 : Int).toNat)), (2, .int (Int32.ofInt x2)), (3, .int (Int32.ofInt x3)), (4, .int (Int32.ofInt x4))] → f_X12_many_u138 Q K338 N σ x2 x3 x4 → ml_V p l e rm_X12_many s m args below meth c (MQ below (ml_Qi I32 base D cA n Q) args s 0 0 (ml_A base)) base D cA 0 0 n n σ (F0 m 138 ls []) := by
  intro N
  induction N with
  | zero => intro σ x2 x3 x4 h_x2 h_x3 h_x4 ls hl hw; exact False.elim hw
  | succ N ih =>
    intro σ x2 x3 x4 h_x2 h_x3 h_x4 ls hl hw
    unfold f_X12_many_u138 at hw
    refine ml_iload (pc := 138) X hl 3 rfl dX12_many_138 ?_
    refine ml_iload_n (pc := 140) X hl 1 rfl rfl dX12_many_140 ?_
    refine ml_icmp_ge (pc := 141) (tgt := 338) X h_x4 h_x2 dX12_many_141 (by decide) (fun c1 => ?_) (fun c1 => ?_)
    · have hw := hw.1 c1
      exact hK338 σ x3 h_x3 _ (lv_sub hl [0, 2] rfl) hw
    · have hw := hw.2 c1
      refine ml_iconst (pc := 144) X dX12_many_144 ?_
      refine ml_istore (pc := 145) X hl (by decide) (lst' := [(5, .int (Int32.ofInt 0)), (0, .ref (base + (215 : Int).toNat)), (2, .int (Int32.ofInt x2)), (3, .int (Int32.ofInt x3)), (4, .int (Int32.ofInt x4))]) rfl dX12_many_145 (fun ls hl => ?_)
      obtain ⟨N0, hw⟩ := hw
      exact u_X12_many_147 X hn (fun σ x2 x3 x4 h_x2 h_x3 h_x4 ls hl hw => u_X12_many_172 X hn ih σ x2 x3 x4 h_x2 h_x3 h_x4 ls hl hw) N0 σ x2 x3 x4 0 h_x2 h_x3 h_x4 ⟨by decide, by decide⟩ _ (lv_sub hl [1, 2, 3, 4, 0] rfl) hw
set_option maxRecDepth 100000 in
set_option maxHeartbeats 4000000 in
theorem u_X12_many_386 {p : Program} {e : Env} {s : State} {m : MethodId} {args : Array Value} {below : List Frame} {meth : Method} {c : Code} {base : Nat} {D : va_G} {cA : Nat → ClassId} {n : Nat} {l : Launch} {Q : Int → ml_St → Prop} {K344 : ml_St → Int → Int → Int → Prop} (X : ml_X p s m c meth args D cA cX12_many 9 RX12 (some .int)) (hn : 256 ≤ n) (hK344 : ∀ (σ : ml_St) (x3 : Int) (x4 : Int) (x6 : Int) (h_x3 : I32 x3) (h_x4 : I64 x4) (h_x6 : I32 x6) (ls : Array Slot), lv_has ls 9 [(0, .ref (base + (215 : Int).toNat)), (3, .int (Int32.ofInt x3)), (4, .long (Int64.ofInt x4)), (6, .int (Int32.ofInt x6))] → K344 σ x3 x4 x6 → ml_V p l e rm_X12_many s m args below meth c (MQ below (ml_Qi I32 base D cA n Q) args s 0 0 (ml_A base)) base D cA 0 0 n n σ (F0 m 344 ls [])) (σ : ml_St) (x3 : Int) (x6 : Int) (s0 : Int) (s1 : Int) (h_x3 : I32 x3) (h_x6 : I32 x6) (h_s0 : I64 s0) (h_s1 : I64 s1) (ls : Array Slot) (hl : lv_has ls 9 [(0, .ref (base + (215 : Int).toNat)), (3, .int (Int32.ofInt x3)), (6, .int (Int32.ofInt x6))]) (hw : f_X12_many_u386 Q K344 σ x3 x6 s0 s1) : ml_V p l e rm_X12_many s m args below meth c (MQ below (ml_Qi I32 base D cA n Q) args s 0 0 (ml_A base)) base D cA 0 0 n n σ (F0 m 386 ls [.long (Int64.ofInt s1), .long (Int64.ofInt s0)]) := by
  unfold f_X12_many_u386 at hw
  refine ml_laddW (pc := 386) X dX12_many_386 ?_
  refine ml_topL (pc := 387) (fun y2 e2 => ?_)
  have hw := hw y2 e2
  have q2 : I64 y2 := by rw [e2]; exact (w64_r _)
  refine ml_lstore (pc := 387) X hl (by decide) (lst' := [(4, .long (Int64.ofInt y2)), (0, .ref (base + (215 : Int).toNat)), (3, .int (Int32.ofInt x3)), (6, .int (Int32.ofInt x6))]) rfl dX12_many_387 (fun ls hl => ?_)
  obtain ⟨v3, hw⟩ := hw
  obtain ⟨y3, e3⟩ : ∃ y : Int, y = x6 + 1 := ⟨_, rfl⟩
  have hw := hw y3 e3
  rw [← e3] at v3
  refine ml_iinc (pc := 389) X e3 hl 3 rfl (by decide) (lst' := [(6, .int (Int32.ofInt y3)), (4, .long (Int64.ofInt y2)), (0, .ref (base + (215 : Int).toNat)), (3, .int (Int32.ofInt x3))]) rfl dX12_many_389 (fun ls hl => ?_)
  refine ml_goto (pc := 392) (tgt := 344) X dX12_many_392 (by decide) ?_
  exact hK344 σ x3 y2 y3 h_x3 q2 v3 _ (lv_sub hl [2, 3, 1, 0] rfl) hw
set_option maxRecDepth 100000 in
set_option maxHeartbeats 4000000 in
theorem u_X12_many_344 {p : Program} {e : Env} {s : State} {m : MethodId} {args : Array Value} {below : List Frame} {meth : Method} {c : Code} {base : Nat} {D : va_G} {cA : Nat → ClassId} {n : Nat} {l : Launch} {Q : Int → ml_St → Prop} {K395 : ml_St → Int → Prop} (X : ml_X p s m c meth args D cA cX12_many 9 RX12 (some .int)) (hn : 256 ≤ n) (hK395 : ∀ (σ : ml_St) (x4 : Int) (h_x4 : I64 x4) (ls : Array Slot), lv_has ls 9 [(4, .long (Int64.ofInt x4))] → K395 σ x4 → ml_V p l e rm_X12_many s m args below meth c (MQ below (ml_Qi I32 base D cA n Q) args s 0 0 (ml_A base)) base D cA 0 0 n n σ (F0 m 395 ls [])) : ∀ (N : Nat) (σ : ml_St) (x3 : Int) (x4 : Int) (x6 : Int) (h_x3 : I32 x3) (h_x4 : I64 x4) (h_x6 : I32 x6) (ls : Array Slot), lv_has ls 9 [(0, .ref (base + (215 : Int).toNat)), (3, .int (Int32.ofInt x3)), (4, .long (Int64.ofInt x4)), (6, .int (Int32.ofInt x6))] → f_X12_many_u344 Q K395 N σ x3 x4 x6 → ml_V p l e rm_X12_many s m args below meth c (MQ below (ml_Qi I32 base D cA n Q) args s 0 0 (ml_A base)) base D cA 0 0 n n σ (F0 m 344 ls []) := by
  intro N
  induction N with
  | zero => intro σ x3 x4 x6 h_x3 h_x4 h_x6 ls hl hw; exact False.elim hw
  | succ N ih =>
    intro σ x3 x4 x6 h_x3 h_x4 h_x6 ls hl hw
    unfold f_X12_many_u344 at hw
    refine ml_iload (pc := 344) X hl 3 rfl dX12_many_344 ?_
    refine ml_iconst (pc := 346) X dX12_many_346 ?_
    refine ml_aload_n (pc := 347) X hl 0 rfl rfl dX12_many_347 ?_
    refine gf_X12_367 (pc := 348) X (ml_c215 hn) dX12_many_348 (fun r1 => ?_)
    have hw := hw r1
    obtain ⟨v2, hw⟩ := hw
    refine ml_imul (pc := 351) X dX12_many_351 ?_
    refine ml_icmp_ge (pc := 352) (tgt := 395) X h_x6 v2 dX12_many_352 (by decide) (fun c3 => ?_) (fun c3 => ?_)
    · have hw := hw.1 c3
      exact hK395 σ x4 h_x4 _ (lv_sub hl [2] rfl) hw
    · have hw := hw.2 c3
      refine ml_lload (pc := 355) X hl 2 rfl dX12_many_355 ?_
      refine ml_iload (pc := 357) X hl 3 rfl dX12_many_357 ?_
      refine ml_iconst (pc := 359) X dX12_many_359 ?_
      obtain ⟨z4, v4, hw⟩ := hw
      refine ml_irem (pc := 360) X h_x6 ⟨by decide, by decide⟩ z4 dX12_many_360 ?_
      refine ml_aload_n (pc := 361) X hl 0 rfl rfl dX12_many_361 ?_
      refine gf_X12_98 (pc := 362) X (ml_c215 hn) dX12_many_362 ?_
      refine ml_iload (pc := 365) X hl 3 rfl dX12_many_365 ?_
      refine ml_iconst (pc := 367) X dX12_many_367 ?_
      obtain ⟨z5, v5, hw⟩ := hw
      refine ml_idiv (pc := 368) X h_x6 ⟨by decide, by decide⟩ z5 dX12_many_368 ?_
      obtain ⟨a6, b6, hw⟩ := hw
      refine ml_iald (pc := 369) (N := 950) X (ml_c243 hn) a6 b6 dX12_many_369 (fun r6 => ?_)
      have hw := hw r6
      obtain ⟨v7, hw⟩ := hw
      refine ml_iadd (pc := 370) X dX12_many_370 ?_
      refine ml_iload_n (pc := 371) X hl 1 rfl rfl dX12_many_371 ?_
      refine ml_icmp_ne (pc := 372) (tgt := 385) X v7 h_x3 dX12_many_372 (by decide) (fun c8 => ?_) (fun c8 => ?_)
      · have hw := hw.1 c8
        refine ml_lconst0 (pc := 385) X dX12_many_385 ?_
        exact u_X12_many_386 X hn ih σ x3 x6 x4 0 h_x3 h_x6 h_x4 ⟨by decide, by decide⟩ _ (lv_sub hl [0, 1, 3] rfl) hw
      · have hw := hw.2 c8
        refine ml_aload_n (pc := 375) X hl 0 rfl rfl dX12_many_375 ?_
        refine gf_X12_101 (pc := 376) X (ml_c215 hn) dX12_many_376 ?_
        refine ml_iload (pc := 379) X hl 3 rfl dX12_many_379 ?_
        obtain ⟨a9, b9, hw⟩ := hw
        refine ml_lald (pc := 381) (N := 3800) X (ml_c244 hn) a9 b9 dX12_many_381 (fun r9 => ?_)
        have hw := hw r9
        refine ml_goto (pc := 382) (tgt := 386) X dX12_many_382 (by decide) ?_
        exact u_X12_many_386 X hn ih σ x3 x6 x4 (σ 244 x6) h_x3 h_x6 h_x4 r9 _ (lv_sub hl [0, 1, 3] rfl) hw
set_option maxRecDepth 100000 in
set_option maxHeartbeats 4000000 in
theorem u_X12_many_395 {p : Program} {e : Env} {s : State} {m : MethodId} {args : Array Value} {below : List Frame} {meth : Method} {c : Code} {base : Nat} {D : va_G} {cA : Nat → ClassId} {n : Nat} {l : Launch} {Q : Int → ml_St → Prop} (X : ml_X p s m c meth args D cA cX12_many 9 RX12 (some .int)) (hn : 256 ≤ n) (σ : ml_St) (x4 : Int) (h_x4 : I64 x4) (ls : Array Slot) (hl : lv_has ls 9 [(4, .long (Int64.ofInt x4))]) (hw : f_X12_many_u395 Q σ x4) : ml_V p l e rm_X12_many s m args below meth c (MQ below (ml_Qi I32 base D cA n Q) args s 0 0 (ml_A base)) base D cA 0 0 n n σ (F0 m 395 ls []) := by
  unfold f_X12_many_u395 at hw
  refine ml_lload (pc := 395) X hl 0 rfl dX12_many_395 ?_
  refine ml_ldc2 (pc := 397) (v := 998244353) X dX12_many_397 tc_6_174 ?_
  obtain ⟨z1, hw⟩ := hw
  refine ml_lrem (pc := 400) X h_x4 ⟨by decide, by decide⟩ z1 dX12_many_400 ?_
  refine ml_l2i (pc := 401) X dX12_many_401 ?_
  exact ml_iret (pc := 402) X (b_l2i_r _) hw dX12_many_402
set_option maxRecDepth 100000 in
set_option maxHeartbeats 4000000 in
theorem u_X12_many_338 {p : Program} {e : Env} {s : State} {m : MethodId} {args : Array Value} {below : List Frame} {meth : Method} {c : Code} {base : Nat} {D : va_G} {cA : Nat → ClassId} {n : Nat} {l : Launch} {Q : Int → ml_St → Prop} (X : ml_X p s m c meth args D cA cX12_many 9 RX12 (some .int)) (hn : 256 ≤ n) (σ : ml_St) (x3 : Int) (h_x3 : I32 x3) (ls : Array Slot) (hl : lv_has ls 9 [(0, .ref (base + (215 : Int).toNat)), (3, .int (Int32.ofInt x3))]) (hw : f_X12_many_u338 Q σ x3) : ml_V p l e rm_X12_many s m args below meth c (MQ below (ml_Qi I32 base D cA n Q) args s 0 0 (ml_A base)) base D cA 0 0 n n σ (F0 m 338 ls []) := by
  unfold f_X12_many_u338 at hw
  refine ml_lconst0 (pc := 338) X dX12_many_338 ?_
  refine ml_lstore (pc := 339) X hl (by decide) (lst' := [(4, .long (Int64.ofInt 0)), (0, .ref (base + (215 : Int).toNat)), (3, .int (Int32.ofInt x3))]) rfl dX12_many_339 (fun ls hl => ?_)
  refine ml_iconst (pc := 341) X dX12_many_341 ?_
  refine ml_istore (pc := 342) X hl (by decide) (lst' := [(6, .int (Int32.ofInt 0)), (4, .long (Int64.ofInt 0)), (0, .ref (base + (215 : Int).toNat)), (3, .int (Int32.ofInt x3))]) rfl dX12_many_342 (fun ls hl => ?_)
  obtain ⟨N0, hw⟩ := hw
  exact u_X12_many_344 X hn (fun σ x4 h_x4 ls hl hw => u_X12_many_395 X hn σ x4 h_x4 ls hl hw) N0 σ x3 0 0 h_x3 ⟨by decide, by decide⟩ ⟨by decide, by decide⟩ _ (lv_sub hl [2, 3, 1, 0] rfl) hw
set_option maxRecDepth 100000 in
set_option maxHeartbeats 4000000 in
theorem u_X12_many_135 {p : Program} {e : Env} {s : State} {m : MethodId} {args : Array Value} {below : List Frame} {meth : Method} {c : Code} {base : Nat} {D : va_G} {cA : Nat → ClassId} {n : Nat} {l : Launch} {Q : Int → ml_St → Prop} (X : ml_X p s m c meth args D cA cX12_many 9 RX12 (some .int)) (hn : 256 ≤ n) (σ : ml_St) (x2 : Int) (x3 : Int) (h_x2 : I32 x2) (h_x3 : I32 x3) (ls : Array Slot) (hl : lv_has ls 9 [(0, .ref (base + (215 : Int).toNat)), (2, .int (Int32.ofInt x2)), (3, .int (Int32.ofInt x3))]) (hw : f_X12_many_u135 Q σ x2 x3) : ml_V p l e rm_X12_many s m args below meth c (MQ below (ml_Qi I32 base D cA n Q) args s 0 0 (ml_A base)) base D cA 0 0 n n σ (F0 m 135 ls []) := by
  unfold f_X12_many_u135 at hw
  refine ml_iconst (pc := 135) X dX12_many_135 ?_
  refine ml_istore (pc := 136) X hl (by decide) (lst' := [(4, .int (Int32.ofInt 1)), (0, .ref (base + (215 : Int).toNat)), (2, .int (Int32.ofInt x2)), (3, .int (Int32.ofInt x3))]) rfl dX12_many_136 (fun ls hl => ?_)
  obtain ⟨N0, hw⟩ := hw
  exact u_X12_many_138 X hn (fun σ x3 h_x3 ls hl hw => u_X12_many_338 X hn σ x3 h_x3 ls hl hw) N0 σ x2 x3 1 h_x2 h_x3 ⟨by decide, by decide⟩ _ (lv_sub hl [1, 2, 3, 0] rfl) hw
set_option maxRecDepth 100000 in
set_option maxHeartbeats 4000000 in
theorem u_X12_many_66 {p : Program} {e : Env} {s : State} {m : MethodId} {args : Array Value} {below : List Frame} {meth : Method} {c : Code} {base : Nat} {D : va_G} {cA : Nat → ClassId} {n : Nat} {l : Launch} {Q : Int → ml_St → Prop} (X : ml_X p s m c meth args D cA cX12_many 9 RX12 (some .int)) (hn : 256 ≤ n) (σ : ml_St) (x2 : Int) (x3 : Int) (h_x2 : I32 x2) (h_x3 : I32 x3) (ls : Array Slot) (hl : lv_has ls 9 [(0, .ref (base + (215 : Int).toNat)), (2, .int (Int32.ofInt x2)), (3, .int (Int32.ofInt x3))]) (hw : f_X12_many_u66 Q σ x2 x3) : ml_V p l e rm_X12_many s m args below meth c (MQ below (ml_Qi I32 base D cA n Q) args s 0 0 (ml_A base)) base D cA 0 0 n n σ (F0 m 66 ls []) := by
  unfold f_X12_many_u66 at hw
  refine ml_iconst (pc := 66) X dX12_many_66 ?_
  refine ml_istore (pc := 67) X hl (by decide) (lst' := [(4, .int (Int32.ofInt 0)), (0, .ref (base + (215 : Int).toNat)), (2, .int (Int32.ofInt x2)), (3, .int (Int32.ofInt x3))]) rfl dX12_many_67 (fun ls hl => ?_)
  obtain ⟨N0, hw⟩ := hw
  exact u_X12_many_69 X hn (fun σ x2 x3 h_x2 h_x3 ls hl hw => u_X12_many_135 X hn σ x2 x3 h_x2 h_x3 ls hl hw) N0 σ x2 x3 0 h_x2 h_x3 ⟨by decide, by decide⟩ _ (lv_sub hl [1, 2, 3, 0] rfl) hw
set_option maxRecDepth 100000 in
set_option maxHeartbeats 4000000 in
theorem u_X12_many_0 {p : Program} {e : Env} {s : State} {m : MethodId} {args : Array Value} {below : List Frame} {meth : Method} {c : Code} {base : Nat} {D : va_G} {cA : Nat → ClassId} {n : Nat} {l : Launch} {Q : Int → ml_St → Prop} (X : ml_X p s m c meth args D cA cX12_many 9 RX12 (some .int)) (hn : 256 ≤ n) (σ : ml_St) (x1 : Int) (x2 : Int) (x3 : Int) (h_x1 : I32 x1) (h_x2 : I32 x2) (h_x3 : I32 x3) (ls : Array Slot) (hl : lv_has ls 9 [(0, .ref (base + (215 : Int).toNat)), (1, .int (Int32.ofInt x1)), (2, .int (Int32.ofInt x2)), (3, .int (Int32.ofInt x3))]) (hw : f_X12_many_u0 Q σ x1 x2 x3) : ml_V p l e rm_X12_many s m args below meth c (MQ below (ml_Qi I32 base D cA n Q) args s 0 0 (ml_A base)) base D cA 0 0 n n σ (F0 m 0 ls []) := by
  unfold f_X12_many_u0 at hw
  refine ml_aload_n (pc := 0) X hl 0 rfl rfl dX12_many_0 ?_
  refine ml_iload_n (pc := 1) X hl 1 rfl rfl dX12_many_1 ?_
  refine ml_callzV (pc := 2) (rest := []) X [.int (Int32.ofInt x1)] (by decide) rfl (ml_c215 hn) (c_X12_isLetters l base D cA n hn σ x1 h_x1 _ hw) cv_X12_379 ⟨rfl, rfl⟩ ⟨by decide, by decide⟩ rfl rfl hl (Nat.le_of_ble_eq_true rfl) ⟨Nat.zero_le _, Nat.zero_le _⟩ dX12_many_2 (fun r1 σ1 t1 hw => ?_)
  have hw := hw t1
  refine ml_if_eq (pc := 5) (tgt := 32) X t1.i dX12_many_5 (by decide) (fun c2 => ?_) (fun c2 => ?_)
  · have hw := hw.1 c2
    exact u_X12_many_32 X hn σ1   _ (lv_sub hl [] rfl) hw
  · have hw := hw.2 c2
    refine ml_iload_n (pc := 8) X hl 2 rfl rfl dX12_many_8 ?_
    refine ml_i2l (pc := 9) X h_x2 dX12_many_9 ?_
    refine ml_lconst1 (pc := 10) X dX12_many_10 ?_
    refine ml_ldc2 (pc := 11) (v := 1000) X dX12_many_11 tc_6_161 ?_
    refine ml_callzS (pc := 14) (rest := []) X [.long (Int64.ofInt x2), .long (Int64.ofInt 1), .long (Int64.ofInt 1000)] (c_X12_lies l base D cA n hn σ1 x2 1 1000 (h_x2).l ⟨by decide, by decide⟩ ⟨by decide, by decide⟩ _ hw) cv_X12_143 ⟨rfl, rfl⟩ ⟨by decide, by decide⟩ rfl rfl hl (Nat.le_of_ble_eq_true rfl) ⟨Nat.zero_le _, Nat.zero_le _⟩ dX12_many_14 (fun r3 σ3 t3 hw => ?_)
    have hw := hw t3
    refine ml_if_eq (pc := 17) (tgt := 32) X t3.i dX12_many_17 (by decide) (fun c4 => ?_) (fun c4 => ?_)
    · have hw := hw.1 c4
      exact u_X12_many_32 X hn σ3   _ (lv_sub hl [] rfl) hw
    · have hw := hw.2 c4
      refine ml_iload_n (pc := 20) X hl 3 rfl rfl dX12_many_20 ?_
      refine ml_i2l (pc := 21) X h_x3 dX12_many_21 ?_
      refine ml_lconst0 (pc := 22) X dX12_many_22 ?_
      refine ml_ldc2 (pc := 23) (v := 3) X dX12_many_23 tc_6_133 ?_
      refine ml_callzS (pc := 26) (rest := []) X [.long (Int64.ofInt x3), .long (Int64.ofInt 0), .long (Int64.ofInt 3)] (c_X12_lies l base D cA n hn σ3 x3 0 3 (h_x3).l ⟨by decide, by decide⟩ ⟨by decide, by decide⟩ _ hw) cv_X12_143 ⟨rfl, rfl⟩ ⟨by decide, by decide⟩ rfl rfl hl (Nat.le_of_ble_eq_true rfl) ⟨Nat.zero_le _, Nat.zero_le _⟩ dX12_many_26 (fun r5 σ5 t5 hw => ?_)
      have hw := hw t5
      refine ml_if_ne (pc := 29) (tgt := 34) X t5.i dX12_many_29 (by decide) (fun c6 => ?_) (fun c6 => ?_)
      · have hw := hw.1 c6
        refine ml_aload_n (pc := 34) X hl 0 rfl rfl dX12_many_34 ?_
        refine ml_callvV (pc := 35) (rest := []) X [] (by decide) rfl (ml_c215 hn) (c_X12_joinsAll l base D cA n hn σ5 _ hw) cv_X12_384 ⟨rfl, rfl⟩ ⟨by decide, by decide⟩ rfl rfl hl (Nat.le_of_ble_eq_true rfl) ⟨Nat.zero_le _, Nat.zero_le _⟩ dX12_many_35 (fun σ7 hw => ?_)
        refine ml_iconst (pc := 38) X dX12_many_38 ?_
        refine ml_istore (pc := 39) X hl (by decide) (lst' := [(4, .int (Int32.ofInt 0)), (0, .ref (base + (215 : Int).toNat)), (1, .int (Int32.ofInt x1)), (2, .int (Int32.ofInt x2)), (3, .int (Int32.ofInt x3))]) rfl dX12_many_39 (fun ls hl => ?_)
        obtain ⟨N0, hw⟩ := hw
        exact u_X12_many_41 X hn (fun σ x2 x3 h_x2 h_x3 ls hl hw => u_X12_many_66 X hn σ x2 x3 h_x2 h_x3 ls hl hw) N0 σ7 x2 x3 0 h_x2 h_x3 ⟨by decide, by decide⟩ _ (lv_sub hl [1, 3, 4, 0] rfl) hw
      · have hw := hw.2 c6
        exact u_X12_many_32 X hn σ5   _ (lv_sub hl [] rfl) hw
set_option maxRecDepth 100000 in
theorem c_X12_many (l : Launch) (base : Nat) (D : va_G) (cA : Nat → ClassId) (n : Nat) (hn : 256 ≤ n) (σ : ml_St) (x1 : Int) (x2 : Int) (x3 : Int) (h_x1 : I32 x1) (h_x2 : I32 x2) (h_x3 : I32 x3) (Q : Int → ml_St → Prop) (hw : f_X12_many σ x1 x2 x3 Q) : Met l yX12_many (Cond.code yX12_many cX12_many 9 (some .int) :: ml_T) rm_X12_many (va_Pc [.ref (base + (215 : Int).toNat), .int (Int32.ofInt x1), .int (Int32.ofInt x2), .int (Int32.ofInt x3)] (ml_U base D cA n σ)) (ml_Qi I32 base D cA n Q) 0 0 (ml_A base) := by
  refine Met.ofW (cc := cX12_many) (maxL := 9) (ret := (some .int)) (by decide) rfl ?_
  intro p e s m args below meth c s₁ B hml hv
  obtain ⟨rfl, hP, hK, hok, hro⟩ := hv
  have X : ml_X p s m c meth _ D cA cX12_many 9 RX12 (some .int) := ⟨B.exec, B.bytes, hml, findClass_of_methodNamed B.named, fun w hw => atoms_spec (ws := Cond.code yX12_many cX12_many 9 (some .int) :: ml_T) B.pre w (List.mem_cons_of_mem _ hw), hK, B.notSynchronized, B.returns⟩
  have hl := lv_entry [.ref (base + (215 : Int).toNat), .int (Int32.ofInt x1), .int (Int32.ofInt x2), .int (Int32.ofInt x3)] (n := 9) (Nat.le_of_ble_eq_true rfl)
  rw [lg_entry_eq]
  generalize (lg_sl [.ref (base + (215 : Int).toNat), .int (Int32.ofInt x1), .int (Int32.ofInt x2), .int (Int32.ofInt x3)] ++ List.replicate (9 - (lg_sl [.ref (base + (215 : Int).toNat), .int (Int32.ofInt x1), .int (Int32.ofInt x2), .int (Int32.ofInt x3)]).length) Slot.unset).toArray = ls at hl ⊢
  have hl : lv_has ls 9 [(0, .ref (base + (215 : Int).toNat)), (1, .int (Int32.ofInt x1)), (2, .int (Int32.ofInt x2)), (3, .int (Int32.ofInt x3))] := hl
  unfold f_X12_many at hw
  exact u_X12_many_0 X hn σ x1 x2 x3 h_x1 h_x2 h_x3 _ (lv_sub hl [0, 1, 2, 3] rfl) hw s.heap [] hP va_S.rf hok hro
theorem dX12_made_0 : decode cX12_made 0 = .ok (.aload_n 0, 1) := by decide +kernel
theorem dX12_made_1 : decode cX12_made 1 = .ok (.iload_n 1, 1) := by decide +kernel
theorem dX12_made_2 : decode cX12_made 2 = .ok (.invokevirtual 379, 3) := by decide +kernel
theorem dX12_made_5 : decode cX12_made 5 = .ok (.ifCond .ne 5, 3) := by decide +kernel
theorem dX12_made_8 : decode cX12_made 8 = .ok (.iconst (-1), 1) := by decide +kernel
theorem dX12_made_9 : decode cX12_made 9 = .ok (.ireturn, 1) := by decide +kernel
theorem dX12_made_10 : decode cX12_made 10 = .ok (.aload_n 0, 1) := by decide +kernel
theorem dX12_made_11 : decode cX12_made 11 = .ok (.invokevirtual 384, 3) := by decide +kernel
theorem dX12_made_14 : decode cX12_made 14 = .ok (.aload_n 0, 1) := by decide +kernel
theorem dX12_made_15 : decode cX12_made 15 = .ok (.getfield 367, 3) := by decide +kernel
theorem dX12_made_18 : decode cX12_made 18 = .ok (.ireturn, 1) := by decide +kernel
def f_X12_made_u0 (Q : Int → ml_St → Prop) (σ : ml_St) (x1 : Int) : Prop :=
f_X12_isLetters σ x1 (fun r1 σ1 => ∀ _ : ml_B r1,
(r1 ≠ 0 →
f_X12_joinsAll σ1 (fun σ3 =>
∀ _ : I32 (σ3 215 39),
Q (σ3 215 39) σ3)) ∧
(r1 = 0 →
Q (-1) σ1))
def f_X12_made (σ : ml_St) (x1 : Int) (Q : Int → ml_St → Prop) : Prop := f_X12_made_u0 Q σ x1
def rm_X12_made : Room := { frames := 4, cells := 0, slots := 0, locals := 92 }
set_option maxRecDepth 100000 in
set_option maxHeartbeats 4000000 in
theorem u_X12_made_0 {p : Program} {e : Env} {s : State} {m : MethodId} {args : Array Value} {below : List Frame} {meth : Method} {c : Code} {base : Nat} {D : va_G} {cA : Nat → ClassId} {n : Nat} {l : Launch} {Q : Int → ml_St → Prop} (X : ml_X p s m c meth args D cA cX12_made 2 RX12 (some .int)) (hn : 256 ≤ n) (σ : ml_St) (x1 : Int) (h_x1 : I32 x1) (ls : Array Slot) (hl : lv_has ls 2 [(0, .ref (base + (215 : Int).toNat)), (1, .int (Int32.ofInt x1))]) (hw : f_X12_made_u0 Q σ x1) : ml_V p l e rm_X12_made s m args below meth c (MQ below (ml_Qi I32 base D cA n Q) args s 0 0 (ml_A base)) base D cA 0 0 n n σ (F0 m 0 ls []) := by
  unfold f_X12_made_u0 at hw
  refine ml_aload_n (pc := 0) X hl 0 rfl rfl dX12_made_0 ?_
  refine ml_iload_n (pc := 1) X hl 1 rfl rfl dX12_made_1 ?_
  refine ml_callzV (pc := 2) (rest := []) X [.int (Int32.ofInt x1)] (by decide) rfl (ml_c215 hn) (c_X12_isLetters l base D cA n hn σ x1 h_x1 _ hw) cv_X12_379 ⟨rfl, rfl⟩ ⟨by decide, by decide⟩ rfl rfl hl (Nat.le_of_ble_eq_true rfl) ⟨Nat.zero_le _, Nat.zero_le _⟩ dX12_made_2 (fun r1 σ1 t1 hw => ?_)
  have hw := hw t1
  refine ml_if_ne (pc := 5) (tgt := 10) X t1.i dX12_made_5 (by decide) (fun c2 => ?_) (fun c2 => ?_)
  · have hw := hw.1 c2
    refine ml_aload_n (pc := 10) X hl 0 rfl rfl dX12_made_10 ?_
    refine ml_callvV (pc := 11) (rest := []) X [] (by decide) rfl (ml_c215 hn) (c_X12_joinsAll l base D cA n hn σ1 _ hw) cv_X12_384 ⟨rfl, rfl⟩ ⟨by decide, by decide⟩ rfl rfl hl (Nat.le_of_ble_eq_true rfl) ⟨Nat.zero_le _, Nat.zero_le _⟩ dX12_made_11 (fun σ3 hw => ?_)
    refine ml_aload_n (pc := 14) X hl 0 rfl rfl dX12_made_14 ?_
    refine gf_X12_367 (pc := 15) X (ml_c215 hn) dX12_made_15 (fun r4 => ?_)
    have hw := hw r4
    exact ml_iret (pc := 18) X r4 hw dX12_made_18
  · have hw := hw.2 c2
    refine ml_iconst (pc := 8) X dX12_made_8 ?_
    exact ml_iret (pc := 9) X ⟨by decide, by decide⟩ hw dX12_made_9
set_option maxRecDepth 100000 in
theorem c_X12_made (l : Launch) (base : Nat) (D : va_G) (cA : Nat → ClassId) (n : Nat) (hn : 256 ≤ n) (σ : ml_St) (x1 : Int) (h_x1 : I32 x1) (Q : Int → ml_St → Prop) (hw : f_X12_made σ x1 Q) : Met l yX12_made (Cond.code yX12_made cX12_made 2 (some .int) :: ml_T) rm_X12_made (va_Pc [.ref (base + (215 : Int).toNat), .int (Int32.ofInt x1)] (ml_U base D cA n σ)) (ml_Qi I32 base D cA n Q) 0 0 (ml_A base) := by
  refine Met.ofW (cc := cX12_made) (maxL := 2) (ret := (some .int)) (by decide) rfl ?_
  intro p e s m args below meth c s₁ B hml hv
  obtain ⟨rfl, hP, hK, hok, hro⟩ := hv
  have X : ml_X p s m c meth _ D cA cX12_made 2 RX12 (some .int) := ⟨B.exec, B.bytes, hml, findClass_of_methodNamed B.named, fun w hw => atoms_spec (ws := Cond.code yX12_made cX12_made 2 (some .int) :: ml_T) B.pre w (List.mem_cons_of_mem _ hw), hK, B.notSynchronized, B.returns⟩
  have hl := lv_entry [.ref (base + (215 : Int).toNat), .int (Int32.ofInt x1)] (n := 2) (Nat.le_of_ble_eq_true rfl)
  rw [lg_entry_eq]
  generalize (lg_sl [.ref (base + (215 : Int).toNat), .int (Int32.ofInt x1)] ++ List.replicate (2 - (lg_sl [.ref (base + (215 : Int).toNat), .int (Int32.ofInt x1)]).length) Slot.unset).toArray = ls at hl ⊢
  have hl : lv_has ls 2 [(0, .ref (base + (215 : Int).toNat)), (1, .int (Int32.ofInt x1))] := hl
  unfold f_X12_made at hw
  exact u_X12_made_0 X hn σ x1 h_x1 _ (lv_sub hl [0, 1] rfl) hw s.heap [] hP va_S.rf hok hro
theorem dX12_comes_0 : decode cX12_comes 0 = .ok (.aload_n 0, 1) := by decide +kernel
theorem dX12_comes_1 : decode cX12_comes 1 = .ok (.getfield 107, 3) := by decide +kernel
theorem dX12_comes_4 : decode cX12_comes 4 = .ok (.iload_n 1, 1) := by decide +kernel
theorem dX12_comes_5 : decode cX12_comes 5 = .ok (.baload, 1) := by decide +kernel
theorem dX12_comes_6 : decode cX12_comes 6 = .ok (.ifCond .eq 4, 3) := by decide +kernel
theorem dX12_comes_9 : decode cX12_comes 9 = .ok (.return_, 1) := by decide +kernel
theorem dX12_comes_10 : decode cX12_comes 10 = .ok (.aload_n 0, 1) := by decide +kernel
theorem dX12_comes_11 : decode cX12_comes 11 = .ok (.getfield 107, 3) := by decide +kernel
theorem dX12_comes_14 : decode cX12_comes 14 = .ok (.iload_n 1, 1) := by decide +kernel
theorem dX12_comes_15 : decode cX12_comes 15 = .ok (.iconst 1, 1) := by decide +kernel
theorem dX12_comes_16 : decode cX12_comes 16 = .ok (.bastore, 1) := by decide +kernel
theorem dX12_comes_17 : decode cX12_comes 17 = .ok (.aload_n 0, 1) := by decide +kernel
theorem dX12_comes_18 : decode cX12_comes 18 = .ok (.getfield 113, 3) := by decide +kernel
theorem dX12_comes_21 : decode cX12_comes 21 = .ok (.iload_n 1, 1) := by decide +kernel
theorem dX12_comes_22 : decode cX12_comes 22 = .ok (.iload_n 2, 1) := by decide +kernel
theorem dX12_comes_23 : decode cX12_comes 23 = .ok (.iastore, 1) := by decide +kernel
theorem dX12_comes_24 : decode cX12_comes 24 = .ok (.aload_n 0, 1) := by decide +kernel
theorem dX12_comes_25 : decode cX12_comes 25 = .ok (.getfield 116, 3) := by decide +kernel
theorem dX12_comes_28 : decode cX12_comes 28 = .ok (.iload_n 1, 1) := by decide +kernel
theorem dX12_comes_29 : decode cX12_comes 29 = .ok (.iload_n 3, 1) := by decide +kernel
theorem dX12_comes_30 : decode cX12_comes 30 = .ok (.iastore, 1) := by decide +kernel
theorem dX12_comes_31 : decode cX12_comes 31 = .ok (.aload_n 0, 1) := by decide +kernel
theorem dX12_comes_32 : decode cX12_comes 32 = .ok (.getfield 110, 3) := by decide +kernel
theorem dX12_comes_35 : decode cX12_comes 35 = .ok (.aload_n 0, 1) := by decide +kernel
theorem dX12_comes_36 : decode cX12_comes 36 = .ok (.getfield 389, 3) := by decide +kernel
theorem dX12_comes_39 : decode cX12_comes 39 = .ok (.iload_n 1, 1) := by decide +kernel
theorem dX12_comes_40 : decode cX12_comes 40 = .ok (.iastore, 1) := by decide +kernel
theorem dX12_comes_41 : decode cX12_comes 41 = .ok (.aload_n 0, 1) := by decide +kernel
theorem dX12_comes_42 : decode cX12_comes 42 = .ok (.dup, 1) := by decide +kernel
theorem dX12_comes_43 : decode cX12_comes 43 = .ok (.getfield 389, 3) := by decide +kernel
theorem dX12_comes_46 : decode cX12_comes 46 = .ok (.iconst 1, 1) := by decide +kernel
theorem dX12_comes_47 : decode cX12_comes 47 = .ok (.iadd, 1) := by decide +kernel
theorem dX12_comes_48 : decode cX12_comes 48 = .ok (.putfield 389, 3) := by decide +kernel
theorem dX12_comes_51 : decode cX12_comes 51 = .ok (.return_, 1) := by decide +kernel
def f_X12_comes_u0 (Q : ml_St → Prop) (σ : ml_St) (x1 : Int) (x2 : Int) (x3 : Int) : Prop :=
(0 : Int) ≤ x1 ∧ (x1 : Int) < 3800 ∧
∀ _ : ml_B (σ 246 x1),
(((σ 246 x1) : Int) = 0 →
(0 : Int) ≤ x1 ∧ (x1 : Int) < 3800 ∧
∀ σ3, σ3 = ml_up σ 246 x1 1 →
(0 : Int) ≤ x1 ∧ (x1 : Int) < 3800 ∧
∀ σ4, σ4 = ml_up σ3 248 x1 x2 →
(0 : Int) ≤ x1 ∧ (x1 : Int) < 3800 ∧
∀ σ5, σ5 = ml_up σ4 249 x1 x3 →
∀ _ : I32 (σ5 215 53),
(0 : Int) ≤ (σ5 215 53) ∧ ((σ5 215 53) : Int) < 3800 ∧
∀ σ7, σ7 = ml_up σ5 247 (σ5 215 53) x1 →
∀ _ : I32 (σ7 215 53),
I32 ((σ7 215 53) + 1) ∧
∀ σ10, σ10 = ml_up σ7 215 53 ((σ7 215 53) + 1) →
Q σ10) ∧
((σ 246 x1) ≠ 0 →
Q σ)
def f_X12_comes (σ : ml_St) (x1 : Int) (x2 : Int) (x3 : Int) (Q : ml_St → Prop) : Prop := f_X12_comes_u0 Q σ x1 x2 x3
def rm_X12_comes : Room := { frames := 0, cells := 0, slots := 0, locals := 0 }
set_option maxRecDepth 100000 in
set_option maxHeartbeats 4000000 in
theorem u_X12_comes_0 {p : Program} {e : Env} {s : State} {m : MethodId} {args : Array Value} {below : List Frame} {meth : Method} {c : Code} {base : Nat} {D : va_G} {cA : Nat → ClassId} {n : Nat} {l : Launch} {Q : ml_St → Prop} (X : ml_X p s m c meth args D cA cX12_comes 4 RX12 none) (hn : 256 ≤ n) (σ : ml_St) (x1 : Int) (x2 : Int) (x3 : Int) (h_x1 : I32 x1) (h_x2 : I32 x2) (h_x3 : I32 x3) (ls : Array Slot) (hl : lv_has ls 4 [(0, .ref (base + (215 : Int).toNat)), (1, .int (Int32.ofInt x1)), (2, .int (Int32.ofInt x2)), (3, .int (Int32.ofInt x3))]) (hw : f_X12_comes_u0 Q σ x1 x2 x3) : ml_V p l e rm_X12_comes s m args below meth c (MQ below (ml_Qv base D cA n Q) args s 0 0 (ml_A base)) base D cA 0 0 n n σ (F0 m 0 ls []) := by
  unfold f_X12_comes_u0 at hw
  refine ml_aload_n (pc := 0) X hl 0 rfl rfl dX12_comes_0 ?_
  refine gf_X12_107 (pc := 1) X (ml_c215 hn) dX12_comes_1 ?_
  refine ml_iload_n (pc := 4) X hl 1 rfl rfl dX12_comes_4 ?_
  obtain ⟨a1, b1, hw⟩ := hw
  refine ml_zald (pc := 5) (N := 3800) X (ml_c246 hn) a1 b1 dX12_comes_5 (fun r1 => ?_)
  have hw := hw r1
  refine ml_if_eq (pc := 6) (tgt := 10) X r1.i dX12_comes_6 (by decide) (fun c2 => ?_) (fun c2 => ?_)
  · have hw := hw.1 c2
    refine ml_aload_n (pc := 10) X hl 0 rfl rfl dX12_comes_10 ?_
    refine gf_X12_107 (pc := 11) X (ml_c215 hn) dX12_comes_11 ?_
    refine ml_iload_n (pc := 14) X hl 1 rfl rfl dX12_comes_14 ?_
    refine ml_iconst (pc := 15) X dX12_comes_15 ?_
    obtain ⟨a3, b3, hw⟩ := hw
    refine ml_zast (pc := 16) (N := 3800) X (ml_c246 hn) a3 b3 ⟨by decide, by decide⟩ dX12_comes_16 (fun σ3 g3 => ?_)
    have hw := hw σ3 g3
    refine ml_aload_n (pc := 17) X hl 0 rfl rfl dX12_comes_17 ?_
    refine gf_X12_113 (pc := 18) X (ml_c215 hn) dX12_comes_18 ?_
    refine ml_iload_n (pc := 21) X hl 1 rfl rfl dX12_comes_21 ?_
    refine ml_iload_n (pc := 22) X hl 2 rfl rfl dX12_comes_22 ?_
    obtain ⟨a4, b4, hw⟩ := hw
    refine ml_iast (pc := 23) (N := 3800) X (ml_c248 hn) a4 b4 h_x2 dX12_comes_23 (fun σ4 g4 => ?_)
    have hw := hw σ4 g4
    refine ml_aload_n (pc := 24) X hl 0 rfl rfl dX12_comes_24 ?_
    refine gf_X12_116 (pc := 25) X (ml_c215 hn) dX12_comes_25 ?_
    refine ml_iload_n (pc := 28) X hl 1 rfl rfl dX12_comes_28 ?_
    refine ml_iload_n (pc := 29) X hl 3 rfl rfl dX12_comes_29 ?_
    obtain ⟨a5, b5, hw⟩ := hw
    refine ml_iast (pc := 30) (N := 3800) X (ml_c249 hn) a5 b5 h_x3 dX12_comes_30 (fun σ5 g5 => ?_)
    have hw := hw σ5 g5
    refine ml_aload_n (pc := 31) X hl 0 rfl rfl dX12_comes_31 ?_
    refine gf_X12_110 (pc := 32) X (ml_c215 hn) dX12_comes_32 ?_
    refine ml_aload_n (pc := 35) X hl 0 rfl rfl dX12_comes_35 ?_
    refine gf_X12_389 (pc := 36) X (ml_c215 hn) dX12_comes_36 (fun r6 => ?_)
    have hw := hw r6
    refine ml_iload_n (pc := 39) X hl 1 rfl rfl dX12_comes_39 ?_
    obtain ⟨a7, b7, hw⟩ := hw
    refine ml_iast (pc := 40) (N := 3800) X (ml_c247 hn) a7 b7 h_x1 dX12_comes_40 (fun σ7 g7 => ?_)
    have hw := hw σ7 g7
    refine ml_aload_n (pc := 41) X hl 0 rfl rfl dX12_comes_41 ?_
    refine ml_dup (pc := 42) X dX12_comes_42 rfl ?_
    refine gf_X12_389 (pc := 43) X (ml_c215 hn) dX12_comes_43 (fun r8 => ?_)
    have hw := hw r8
    refine ml_iconst (pc := 46) X dX12_comes_46 ?_
    obtain ⟨v9, hw⟩ := hw
    refine ml_iadd (pc := 47) X dX12_comes_47 ?_
    refine pf_X12_389 (pc := 48) X (ml_c215 hn) v9 dX12_comes_48 (fun σ10 g10 => ?_)
    have hw := hw σ10 g10
    exact ml_vret (pc := 51) X hw dX12_comes_51
  · have hw := hw.2 c2
    exact ml_vret (pc := 9) X hw dX12_comes_9
set_option maxRecDepth 100000 in
theorem c_X12_comes (l : Launch) (base : Nat) (D : va_G) (cA : Nat → ClassId) (n : Nat) (hn : 256 ≤ n) (σ : ml_St) (x1 : Int) (x2 : Int) (x3 : Int) (h_x1 : I32 x1) (h_x2 : I32 x2) (h_x3 : I32 x3) (Q : ml_St → Prop) (hw : f_X12_comes σ x1 x2 x3 Q) : Met l yX12_comes (Cond.code yX12_comes cX12_comes 4 none :: ml_T) rm_X12_comes (va_Pc [.ref (base + (215 : Int).toNat), .int (Int32.ofInt x1), .int (Int32.ofInt x2), .int (Int32.ofInt x3)] (ml_U base D cA n σ)) (ml_Qv base D cA n Q) 0 0 (ml_A base) := by
  refine Met.ofW (cc := cX12_comes) (maxL := 4) (ret := none) (by decide) rfl ?_
  intro p e s m args below meth c s₁ B hml hv
  obtain ⟨rfl, hP, hK, hok, hro⟩ := hv
  have X : ml_X p s m c meth _ D cA cX12_comes 4 RX12 none := ⟨B.exec, B.bytes, hml, findClass_of_methodNamed B.named, fun w hw => atoms_spec (ws := Cond.code yX12_comes cX12_comes 4 none :: ml_T) B.pre w (List.mem_cons_of_mem _ hw), hK, B.notSynchronized, B.returns⟩
  have hl := lv_entry [.ref (base + (215 : Int).toNat), .int (Int32.ofInt x1), .int (Int32.ofInt x2), .int (Int32.ofInt x3)] (n := 4) (Nat.le_of_ble_eq_true rfl)
  rw [lg_entry_eq]
  generalize (lg_sl [.ref (base + (215 : Int).toNat), .int (Int32.ofInt x1), .int (Int32.ofInt x2), .int (Int32.ofInt x3)] ++ List.replicate (4 - (lg_sl [.ref (base + (215 : Int).toNat), .int (Int32.ofInt x1), .int (Int32.ofInt x2), .int (Int32.ofInt x3)]).length) Slot.unset).toArray = ls at hl ⊢
  have hl : lv_has ls 4 [(0, .ref (base + (215 : Int).toNat)), (1, .int (Int32.ofInt x1)), (2, .int (Int32.ofInt x2)), (3, .int (Int32.ofInt x3))] := hl
  unfold f_X12_comes at hw
  exact u_X12_comes_0 X hn σ x1 x2 x3 h_x1 h_x2 h_x3 _ (lv_sub hl [0, 1, 2, 3] rfl) hw s.heap [] hP va_S.rf hok hro
theorem dX12_ends_0 : decode cX12_ends 0 = .ok (.iconst 0, 1) := by decide +kernel
theorem dX12_ends_1 : decode cX12_ends 1 = .ok (.istore_n 2, 1) := by decide +kernel
theorem dX12_ends_2 : decode cX12_ends 2 = .ok (.iload_n 2, 1) := by decide +kernel
theorem dX12_ends_3 : decode cX12_ends 3 = .ok (.iconst 4, 1) := by decide +kernel
theorem dX12_ends_4 : decode cX12_ends 4 = .ok (.aload_n 0, 1) := by decide +kernel
theorem dX12_ends_5 : decode cX12_ends 5 = .ok (.getfield 367, 3) := by decide +kernel
theorem dX12_ends_8 : decode cX12_ends 8 = .ok (.imul, 1) := by decide +kernel
theorem dX12_ends_9 : decode cX12_ends 9 = .ok (.if_icmp .ge 16, 3) := by decide +kernel
theorem dX12_ends_12 : decode cX12_ends 12 = .ok (.aload_n 0, 1) := by decide +kernel
theorem dX12_ends_13 : decode cX12_ends 13 = .ok (.getfield 107, 3) := by decide +kernel
theorem dX12_ends_16 : decode cX12_ends 16 = .ok (.iload_n 2, 1) := by decide +kernel
theorem dX12_ends_17 : decode cX12_ends 17 = .ok (.iconst 0, 1) := by decide +kernel
theorem dX12_ends_18 : decode cX12_ends 18 = .ok (.bastore, 1) := by decide +kernel
theorem dX12_ends_19 : decode cX12_ends 19 = .ok (.iinc 2 1, 3) := by decide +kernel
theorem dX12_ends_22 : decode cX12_ends 22 = .ok (.goto (-20), 3) := by decide +kernel
theorem dX12_ends_25 : decode cX12_ends 25 = .ok (.aload_n 0, 1) := by decide +kernel
theorem dX12_ends_26 : decode cX12_ends 26 = .ok (.iconst 0, 1) := by decide +kernel
theorem dX12_ends_27 : decode cX12_ends 27 = .ok (.putfield 389, 3) := by decide +kernel
theorem dX12_ends_30 : decode cX12_ends 30 = .ok (.iconst 0, 1) := by decide +kernel
theorem dX12_ends_31 : decode cX12_ends 31 = .ok (.istore_n 2, 1) := by decide +kernel
theorem dX12_ends_32 : decode cX12_ends 32 = .ok (.iload_n 2, 1) := by decide +kernel
theorem dX12_ends_33 : decode cX12_ends 33 = .ok (.aload_n 0, 1) := by decide +kernel
theorem dX12_ends_34 : decode cX12_ends 34 = .ok (.getfield 364, 3) := by decide +kernel
theorem dX12_ends_37 : decode cX12_ends 37 = .ok (.if_icmp .ge 54, 3) := by decide +kernel
theorem dX12_ends_40 : decode cX12_ends 40 = .ok (.aload_n 0, 1) := by decide +kernel
theorem dX12_ends_41 : decode cX12_ends 41 = .ok (.getfield 55, 3) := by decide +kernel
theorem dX12_ends_44 : decode cX12_ends 44 = .ok (.aload_n 0, 1) := by decide +kernel
theorem dX12_ends_45 : decode cX12_ends 45 = .ok (.getfield 80, 3) := by decide +kernel
theorem dX12_ends_48 : decode cX12_ends 48 = .ok (.iload_n 2, 1) := by decide +kernel
theorem dX12_ends_49 : decode cX12_ends 49 = .ok (.iaload, 1) := by decide +kernel
theorem dX12_ends_50 : decode cX12_ends 50 = .ok (.laload, 1) := by decide +kernel
theorem dX12_ends_51 : decode cX12_ends 51 = .ok (.ldc2_w 370, 3) := by decide +kernel
theorem dX12_ends_54 : decode cX12_ends 54 = .ok (.lcmp, 1) := by decide +kernel
theorem dX12_ends_55 : decode cX12_ends 55 = .ok (.ifCond .ge 30, 3) := by decide +kernel
theorem dX12_ends_58 : decode cX12_ends 58 = .ok (.aload_n 0, 1) := by decide +kernel
theorem dX12_ends_59 : decode cX12_ends 59 = .ok (.iconst 4, 1) := by decide +kernel
theorem dX12_ends_60 : decode cX12_ends 60 = .ok (.aload_n 0, 1) := by decide +kernel
theorem dX12_ends_61 : decode cX12_ends 61 = .ok (.getfield 95, 3) := by decide +kernel
theorem dX12_ends_64 : decode cX12_ends 64 = .ok (.iload_n 2, 1) := by decide +kernel
theorem dX12_ends_65 : decode cX12_ends 65 = .ok (.iaload, 1) := by decide +kernel
theorem dX12_ends_66 : decode cX12_ends 66 = .ok (.imul, 1) := by decide +kernel
theorem dX12_ends_67 : decode cX12_ends 67 = .ok (.aload_n 0, 1) := by decide +kernel
theorem dX12_ends_68 : decode cX12_ends 68 = .ok (.getfield 55, 3) := by decide +kernel
theorem dX12_ends_71 : decode cX12_ends 71 = .ok (.aload_n 0, 1) := by decide +kernel
theorem dX12_ends_72 : decode cX12_ends 72 = .ok (.getfield 80, 3) := by decide +kernel
theorem dX12_ends_75 : decode cX12_ends 75 = .ok (.iload_n 2, 1) := by decide +kernel
theorem dX12_ends_76 : decode cX12_ends 76 = .ok (.iaload, 1) := by decide +kernel
theorem dX12_ends_77 : decode cX12_ends 77 = .ok (.laload, 1) := by decide +kernel
theorem dX12_ends_78 : decode cX12_ends 78 = .ok (.l2i, 1) := by decide +kernel
theorem dX12_ends_79 : decode cX12_ends 79 = .ok (.iadd, 1) := by decide +kernel
theorem dX12_ends_80 : decode cX12_ends 80 = .ok (.iconst (-1), 1) := by decide +kernel
theorem dX12_ends_81 : decode cX12_ends 81 = .ok (.iload_n 2, 1) := by decide +kernel
theorem dX12_ends_82 : decode cX12_ends 82 = .ok (.invokevirtual 392, 3) := by decide +kernel
theorem dX12_ends_85 : decode cX12_ends 85 = .ok (.iinc 2 1, 3) := by decide +kernel
theorem dX12_ends_88 : decode cX12_ends 88 = .ok (.goto (-56), 3) := by decide +kernel
theorem dX12_ends_91 : decode cX12_ends 91 = .ok (.iconst 0, 1) := by decide +kernel
theorem dX12_ends_92 : decode cX12_ends 92 = .ok (.istore_n 2, 1) := by decide +kernel
theorem dX12_ends_93 : decode cX12_ends 93 = .ok (.iload_n 2, 1) := by decide +kernel
theorem dX12_ends_94 : decode cX12_ends 94 = .ok (.aload_n 0, 1) := by decide +kernel
theorem dX12_ends_95 : decode cX12_ends 95 = .ok (.getfield 389, 3) := by decide +kernel
theorem dX12_ends_98 : decode cX12_ends 98 = .ok (.if_icmp .ge 104, 3) := by decide +kernel
theorem dX12_ends_101 : decode cX12_ends 101 = .ok (.aload_n 0, 1) := by decide +kernel
theorem dX12_ends_102 : decode cX12_ends 102 = .ok (.getfield 110, 3) := by decide +kernel
theorem dX12_ends_105 : decode cX12_ends 105 = .ok (.iload_n 2, 1) := by decide +kernel
theorem dX12_ends_106 : decode cX12_ends 106 = .ok (.iaload, 1) := by decide +kernel
theorem dX12_ends_107 : decode cX12_ends 107 = .ok (.istore_n 3, 1) := by decide +kernel
theorem dX12_ends_108 : decode cX12_ends 108 = .ok (.iload_n 3, 1) := by decide +kernel
theorem dX12_ends_109 : decode cX12_ends 109 = .ok (.iconst 4, 1) := by decide +kernel
theorem dX12_ends_110 : decode cX12_ends 110 = .ok (.irem, 1) := by decide +kernel
theorem dX12_ends_111 : decode cX12_ends 111 = .ok (.aload_n 0, 1) := by decide +kernel
theorem dX12_ends_112 : decode cX12_ends 112 = .ok (.getfield 98, 3) := by decide +kernel
theorem dX12_ends_115 : decode cX12_ends 115 = .ok (.iload_n 3, 1) := by decide +kernel
theorem dX12_ends_116 : decode cX12_ends 116 = .ok (.iconst 4, 1) := by decide +kernel
theorem dX12_ends_117 : decode cX12_ends 117 = .ok (.idiv, 1) := by decide +kernel
theorem dX12_ends_118 : decode cX12_ends 118 = .ok (.iaload, 1) := by decide +kernel
theorem dX12_ends_119 : decode cX12_ends 119 = .ok (.iadd, 1) := by decide +kernel
theorem dX12_ends_120 : decode cX12_ends 120 = .ok (.iload_n 1, 1) := by decide +kernel
theorem dX12_ends_121 : decode cX12_ends 121 = .ok (.if_icmp .ne 5, 3) := by decide +kernel
theorem dX12_ends_124 : decode cX12_ends 124 = .ok (.iload_n 3, 1) := by decide +kernel
theorem dX12_ends_125 : decode cX12_ends 125 = .ok (.ireturn, 1) := by decide +kernel
theorem dX12_ends_126 : decode cX12_ends 126 = .ok (.iconst 0, 1) := by decide +kernel
theorem dX12_ends_127 : decode cX12_ends 127 = .ok (.istore 4, 2) := by decide +kernel
theorem dX12_ends_129 : decode cX12_ends 129 = .ok (.iload 4, 2) := by decide +kernel
theorem dX12_ends_131 : decode cX12_ends 131 = .ok (.aload_n 0, 1) := by decide +kernel
theorem dX12_ends_132 : decode cX12_ends 132 = .ok (.getfield 364, 3) := by decide +kernel
theorem dX12_ends_135 : decode cX12_ends 135 = .ok (.if_icmp .ge 61, 3) := by decide +kernel
theorem dX12_ends_138 : decode cX12_ends 138 = .ok (.iload_n 3, 1) := by decide +kernel
theorem dX12_ends_139 : decode cX12_ends 139 = .ok (.iconst 4, 1) := by decide +kernel
theorem dX12_ends_140 : decode cX12_ends 140 = .ok (.irem, 1) := by decide +kernel
theorem dX12_ends_141 : decode cX12_ends 141 = .ok (.aload_n 0, 1) := by decide +kernel
theorem dX12_ends_142 : decode cX12_ends 142 = .ok (.getfield 92, 3) := by decide +kernel
theorem dX12_ends_145 : decode cX12_ends 145 = .ok (.bipush 6, 2) := by decide +kernel
theorem dX12_ends_147 : decode cX12_ends 147 = .ok (.iload_n 3, 1) := by decide +kernel
theorem dX12_ends_148 : decode cX12_ends 148 = .ok (.iconst 4, 1) := by decide +kernel
theorem dX12_ends_149 : decode cX12_ends 149 = .ok (.idiv, 1) := by decide +kernel
theorem dX12_ends_150 : decode cX12_ends 150 = .ok (.imul, 1) := by decide +kernel
theorem dX12_ends_151 : decode cX12_ends 151 = .ok (.iload 4, 2) := by decide +kernel
theorem dX12_ends_153 : decode cX12_ends 153 = .ok (.iadd, 1) := by decide +kernel
theorem dX12_ends_154 : decode cX12_ends 154 = .ok (.iaload, 1) := by decide +kernel
theorem dX12_ends_155 : decode cX12_ends 155 = .ok (.iadd, 1) := by decide +kernel
theorem dX12_ends_156 : decode cX12_ends 156 = .ok (.istore 5, 2) := by decide +kernel
theorem dX12_ends_158 : decode cX12_ends 158 = .ok (.iload 5, 2) := by decide +kernel
theorem dX12_ends_160 : decode cX12_ends 160 = .ok (.iconst 4, 1) := by decide +kernel
theorem dX12_ends_161 : decode cX12_ends 161 = .ok (.if_icmp .ge 29, 3) := by decide +kernel
theorem dX12_ends_164 : decode cX12_ends 164 = .ok (.aload_n 0, 1) := by decide +kernel
theorem dX12_ends_165 : decode cX12_ends 165 = .ok (.iconst 4, 1) := by decide +kernel
theorem dX12_ends_166 : decode cX12_ends 166 = .ok (.aload_n 0, 1) := by decide +kernel
theorem dX12_ends_167 : decode cX12_ends 167 = .ok (.getfield 89, 3) := by decide +kernel
theorem dX12_ends_170 : decode cX12_ends 170 = .ok (.bipush 6, 2) := by decide +kernel
theorem dX12_ends_172 : decode cX12_ends 172 = .ok (.iload_n 3, 1) := by decide +kernel
theorem dX12_ends_173 : decode cX12_ends 173 = .ok (.iconst 4, 1) := by decide +kernel
theorem dX12_ends_174 : decode cX12_ends 174 = .ok (.idiv, 1) := by decide +kernel
theorem dX12_ends_175 : decode cX12_ends 175 = .ok (.imul, 1) := by decide +kernel
theorem dX12_ends_176 : decode cX12_ends 176 = .ok (.iload 4, 2) := by decide +kernel
theorem dX12_ends_178 : decode cX12_ends 178 = .ok (.iadd, 1) := by decide +kernel
theorem dX12_ends_179 : decode cX12_ends 179 = .ok (.iaload, 1) := by decide +kernel
theorem dX12_ends_180 : decode cX12_ends 180 = .ok (.imul, 1) := by decide +kernel
theorem dX12_ends_181 : decode cX12_ends 181 = .ok (.iload 5, 2) := by decide +kernel
theorem dX12_ends_183 : decode cX12_ends 183 = .ok (.iadd, 1) := by decide +kernel
theorem dX12_ends_184 : decode cX12_ends 184 = .ok (.iload_n 3, 1) := by decide +kernel
theorem dX12_ends_185 : decode cX12_ends 185 = .ok (.iload 4, 2) := by decide +kernel
theorem dX12_ends_187 : decode cX12_ends 187 = .ok (.invokevirtual 392, 3) := by decide +kernel
theorem dX12_ends_190 : decode cX12_ends 190 = .ok (.iinc 4 1, 3) := by decide +kernel
theorem dX12_ends_193 : decode cX12_ends 193 = .ok (.goto (-64), 3) := by decide +kernel
theorem dX12_ends_196 : decode cX12_ends 196 = .ok (.iinc 2 1, 3) := by decide +kernel
theorem dX12_ends_199 : decode cX12_ends 199 = .ok (.goto (-106), 3) := by decide +kernel
theorem dX12_ends_202 : decode cX12_ends 202 = .ok (.iconst (-1), 1) := by decide +kernel
theorem dX12_ends_203 : decode cX12_ends 203 = .ok (.ireturn, 1) := by decide +kernel
def f_X12_ends_u2 (Q : Int → ml_St → Prop) (K25 : ml_St → Int → Prop) : Nat → ml_St → Int → Int → Prop
| 0, _, _, _ => False
| N + 1, σ, x1, x2 =>
∀ _ : I32 (σ 215 39),
I32 (4 * (σ 215 39)) ∧
((4 * (σ 215 39)) ≤ x2 →
K25 σ x1) ∧
(¬ ((4 * (σ 215 39)) ≤ x2) →
(0 : Int) ≤ x2 ∧ (x2 : Int) < 3800 ∧
∀ σ4, σ4 = ml_up σ 246 x2 0 →
I32 (x2 + 1) ∧
∀ y5 : Int, y5 = x2 + 1 →
f_X12_ends_u2 Q K25 N σ4 x1 y5)
def f_X12_ends_u85 (Q : Int → ml_St → Prop) (K32 : ml_St → Int → Int → Prop) (σ : ml_St) (x1 : Int) (x2 : Int) : Prop :=
I32 (x2 + 1) ∧
∀ y1 : Int, y1 = x2 + 1 →
K32 σ x1 y1
def f_X12_ends_u32 (Q : Int → ml_St → Prop) (K91 : ml_St → Int → Prop) : Nat → ml_St → Int → Int → Prop
| 0, _, _, _ => False
| N + 1, σ, x1, x2 =>
∀ _ : I32 (σ 215 38),
((σ 215 38) ≤ x2 →
K91 σ x1) ∧
(¬ ((σ 215 38) ≤ x2) →
(0 : Int) ≤ x2 ∧ (x2 : Int) < 6 ∧
∀ _ : I32 (σ 237 x2),
(0 : Int) ≤ (σ 237 x2) ∧ ((σ 237 x2) : Int) < 64 ∧
∀ _ : I64 (σ 229 (σ 237 x2)),
(4 ≤ ((σ 229 (σ 237 x2)) : Int) →
f_X12_ends_u85 Q (f_X12_ends_u32 Q K91 N) σ x1 x2) ∧
(¬ (4 ≤ ((σ 229 (σ 237 x2)) : Int)) →
(0 : Int) ≤ x2 ∧ (x2 : Int) < 6 ∧
∀ _ : I32 (σ 242 x2),
I32 (4 * (σ 242 x2)) ∧
(0 : Int) ≤ x2 ∧ (x2 : Int) < 6 ∧
∀ _ : I32 (σ 237 x2),
(0 : Int) ≤ (σ 237 x2) ∧ ((σ 237 x2) : Int) < 64 ∧
∀ _ : I64 (σ 229 (σ 237 x2)),
I32 ((4 * (σ 242 x2)) + (b_l2i (σ 229 (σ 237 x2)))) ∧
f_X12_comes σ ((4 * (σ 242 x2)) + (b_l2i (σ 229 (σ 237 x2)))) (-1) x2 (fun σ11 =>
f_X12_ends_u85 Q (f_X12_ends_u32 Q K91 N) σ11 x1 x2)))
def f_X12_ends_u190 (Q : Int → ml_St → Prop) (K129 : ml_St → Int → Int → Int → Int → Prop) (σ : ml_St) (x1 : Int) (x2 : Int) (x3 : Int) (x4 : Int) : Prop :=
I32 (x4 + 1) ∧
∀ y1 : Int, y1 = x4 + 1 →
K129 σ x1 x2 x3 y1
def f_X12_ends_u129 (Q : Int → ml_St → Prop) (K196 : ml_St → Int → Int → Prop) : Nat → ml_St → Int → Int → Int → Int → Prop
| 0, _, _, _, _, _ => False
| N + 1, σ, x1, x2, x3, x4 =>
∀ _ : I32 (σ 215 38),
((σ 215 38) ≤ x4 →
K196 σ x1 x2) ∧
(¬ ((σ 215 38) ≤ x4) →
(4 : Int) ≠ 0 ∧ I32 (Int.tmod x3 4) ∧
(4 : Int) ≠ 0 ∧ I32 (Int.tdiv x3 4) ∧
I32 (6 * (Int.tdiv x3 4)) ∧
I32 ((6 * (Int.tdiv x3 4)) + x4) ∧
(0 : Int) ≤ ((6 * (Int.tdiv x3 4)) + x4) ∧ (((6 * (Int.tdiv x3 4)) + x4) : Int) < 5700 ∧
∀ _ : I32 (σ 241 ((6 * (Int.tdiv x3 4)) + x4)),
I32 ((Int.tmod x3 4) + (σ 241 ((6 * (Int.tdiv x3 4)) + x4))) ∧
∀ y9 : Int, y9 = (Int.tmod x3 4) + (σ 241 ((6 * (Int.tdiv x3 4)) + x4)) →
(4 ≤ y9 →
f_X12_ends_u190 Q (f_X12_ends_u129 Q K196 N) σ x1 x2 x3 x4) ∧
(¬ (4 ≤ y9) →
(4 : Int) ≠ 0 ∧ I32 (Int.tdiv x3 4) ∧
I32 (6 * (Int.tdiv x3 4)) ∧
I32 ((6 * (Int.tdiv x3 4)) + x4) ∧
(0 : Int) ≤ ((6 * (Int.tdiv x3 4)) + x4) ∧ (((6 * (Int.tdiv x3 4)) + x4) : Int) < 5700 ∧
∀ _ : I32 (σ 240 ((6 * (Int.tdiv x3 4)) + x4)),
I32 (4 * (σ 240 ((6 * (Int.tdiv x3 4)) + x4))) ∧
I32 ((4 * (σ 240 ((6 * (Int.tdiv x3 4)) + x4))) + y9) ∧
f_X12_comes σ ((4 * (σ 240 ((6 * (Int.tdiv x3 4)) + x4))) + y9) x3 x4 (fun σ17 =>
f_X12_ends_u190 Q (f_X12_ends_u129 Q K196 N) σ17 x1 x2 x3 x4)))
def f_X12_ends_u196 (Q : Int → ml_St → Prop) (K93 : ml_St → Int → Int → Prop) (σ : ml_St) (x1 : Int) (x2 : Int) : Prop :=
I32 (x2 + 1) ∧
∀ y1 : Int, y1 = x2 + 1 →
K93 σ x1 y1
def f_X12_ends_u93 (Q : Int → ml_St → Prop) (K124 : ml_St → Int → Prop) (K202 : ml_St → Prop) : Nat → ml_St → Int → Int → Prop
| 0, _, _, _ => False
| N + 1, σ, x1, x2 =>
∀ _ : I32 (σ 215 53),
((σ 215 53) ≤ x2 →
K202 σ) ∧
(¬ ((σ 215 53) ≤ x2) →
(0 : Int) ≤ x2 ∧ (x2 : Int) < 3800 ∧
∀ _ : I32 (σ 247 x2),
∀ y4 : Int, y4 = σ 247 x2 →
(4 : Int) ≠ 0 ∧ I32 (Int.tmod y4 4) ∧
(4 : Int) ≠ 0 ∧ I32 (Int.tdiv y4 4) ∧
(0 : Int) ≤ (Int.tdiv y4 4) ∧ ((Int.tdiv y4 4) : Int) < 950 ∧
∀ _ : I32 (σ 243 (Int.tdiv y4 4)),
I32 ((Int.tmod y4 4) + (σ 243 (Int.tdiv y4 4))) ∧
(((Int.tmod y4 4) + (σ 243 (Int.tdiv y4 4))) ≠ x1 →
∃ N1, f_X12_ends_u129 Q (f_X12_ends_u196 Q (f_X12_ends_u93 Q K124 K202 N)) N1 σ x1 x2 y4 0) ∧
(((Int.tmod y4 4) + (σ 243 (Int.tdiv y4 4))) = x1 →
K124 σ y4))
def f_X12_ends_u124 (Q : Int → ml_St → Prop) (σ : ml_St) (x3 : Int) : Prop :=
Q x3 σ
def f_X12_ends_u202 (Q : Int → ml_St → Prop) (σ : ml_St) : Prop :=
Q (-1) σ
def f_X12_ends_u91 (Q : Int → ml_St → Prop) (σ : ml_St) (x1 : Int) : Prop :=
∃ N1, f_X12_ends_u93 Q (f_X12_ends_u124 Q) (f_X12_ends_u202 Q) N1 σ x1 0
def f_X12_ends_u25 (Q : Int → ml_St → Prop) (σ : ml_St) (x1 : Int) : Prop :=
∀ σ1, σ1 = ml_up σ 215 53 0 →
∃ N1, f_X12_ends_u32 Q (f_X12_ends_u91 Q) N1 σ1 x1 0
def f_X12_ends_u0 (Q : Int → ml_St → Prop) (σ : ml_St) (x1 : Int) : Prop :=
∃ N1, f_X12_ends_u2 Q (f_X12_ends_u25 Q) N1 σ x1 0
def f_X12_ends (σ : ml_St) (x1 : Int) (Q : Int → ml_St → Prop) : Prop := f_X12_ends_u0 Q σ x1
def rm_X12_ends : Room := { frames := 1, cells := 0, slots := 0, locals := 23 }
set_option maxRecDepth 100000 in
set_option maxHeartbeats 4000000 in
theorem u_X12_ends_2 {p : Program} {e : Env} {s : State} {m : MethodId} {args : Array Value} {below : List Frame} {meth : Method} {c : Code} {base : Nat} {D : va_G} {cA : Nat → ClassId} {n : Nat} {l : Launch} {Q : Int → ml_St → Prop} {K25 : ml_St → Int → Prop} (X : ml_X p s m c meth args D cA cX12_ends 6 RX12 (some .int)) (hn : 256 ≤ n) (hK25 : ∀ (σ : ml_St) (x1 : Int) (h_x1 : I32 x1) (ls : Array Slot), lv_has ls 6 [(0, .ref (base + (215 : Int).toNat)), (1, .int (Int32.ofInt x1))] → K25 σ x1 → ml_V p l e rm_X12_ends s m args below meth c (MQ below (ml_Qi I32 base D cA n Q) args s 0 0 (ml_A base)) base D cA 0 0 n n σ (F0 m 25 ls [])) : ∀ (N : Nat) (σ : ml_St) (x1 : Int) (x2 : Int) (h_x1 : I32 x1) (h_x2 : I32 x2) (ls : Array Slot), lv_has ls 6 [(0, .ref (base + (215 : Int).toNat)), (1, .int (Int32.ofInt x1)), (2, .int (Int32.ofInt x2))] → f_X12_ends_u2 Q K25 N σ x1 x2 → ml_V p l e rm_X12_ends s m args below meth c (MQ below (ml_Qi I32 base D cA n Q) args s 0 0 (ml_A base)) base D cA 0 0 n n σ (F0 m 2 ls []) := by
  intro N
  induction N with
  | zero => intro σ x1 x2 h_x1 h_x2 ls hl hw; exact False.elim hw
  | succ N ih =>
    intro σ x1 x2 h_x1 h_x2 ls hl hw
    unfold f_X12_ends_u2 at hw
    refine ml_iload_n (pc := 2) X hl 2 rfl rfl dX12_ends_2 ?_
    refine ml_iconst (pc := 3) X dX12_ends_3 ?_
    refine ml_aload_n (pc := 4) X hl 0 rfl rfl dX12_ends_4 ?_
    refine gf_X12_367 (pc := 5) X (ml_c215 hn) dX12_ends_5 (fun r1 => ?_)
    have hw := hw r1
    obtain ⟨v2, hw⟩ := hw
    refine ml_imul (pc := 8) X dX12_ends_8 ?_
    refine ml_icmp_ge (pc := 9) (tgt := 25) X h_x2 v2 dX12_ends_9 (by decide) (fun c3 => ?_) (fun c3 => ?_)
    · have hw := hw.1 c3
      exact hK25 σ x1 h_x1 _ (lv_sub hl [0, 1] rfl) hw
    · have hw := hw.2 c3
      refine ml_aload_n (pc := 12) X hl 0 rfl rfl dX12_ends_12 ?_
      refine gf_X12_107 (pc := 13) X (ml_c215 hn) dX12_ends_13 ?_
      refine ml_iload_n (pc := 16) X hl 2 rfl rfl dX12_ends_16 ?_
      refine ml_iconst (pc := 17) X dX12_ends_17 ?_
      obtain ⟨a4, b4, hw⟩ := hw
      refine ml_zast (pc := 18) (N := 3800) X (ml_c246 hn) a4 b4 ⟨by decide, by decide⟩ dX12_ends_18 (fun σ4 g4 => ?_)
      have hw := hw σ4 g4
      obtain ⟨v5, hw⟩ := hw
      obtain ⟨y5, e5⟩ : ∃ y : Int, y = x2 + 1 := ⟨_, rfl⟩
      have hw := hw y5 e5
      rw [← e5] at v5
      refine ml_iinc (pc := 19) X e5 hl 2 rfl (by decide) (lst' := [(2, .int (Int32.ofInt y5)), (0, .ref (base + (215 : Int).toNat)), (1, .int (Int32.ofInt x1))]) rfl dX12_ends_19 (fun ls hl => ?_)
      refine ml_goto (pc := 22) (tgt := 2) X dX12_ends_22 (by decide) ?_
      exact ih σ4 x1 y5 h_x1 v5 _ (lv_sub hl [1, 2, 0] rfl) hw
set_option maxRecDepth 100000 in
set_option maxHeartbeats 4000000 in
theorem u_X12_ends_85 {p : Program} {e : Env} {s : State} {m : MethodId} {args : Array Value} {below : List Frame} {meth : Method} {c : Code} {base : Nat} {D : va_G} {cA : Nat → ClassId} {n : Nat} {l : Launch} {Q : Int → ml_St → Prop} {K32 : ml_St → Int → Int → Prop} (X : ml_X p s m c meth args D cA cX12_ends 6 RX12 (some .int)) (hn : 256 ≤ n) (hK32 : ∀ (σ : ml_St) (x1 : Int) (x2 : Int) (h_x1 : I32 x1) (h_x2 : I32 x2) (ls : Array Slot), lv_has ls 6 [(0, .ref (base + (215 : Int).toNat)), (1, .int (Int32.ofInt x1)), (2, .int (Int32.ofInt x2))] → K32 σ x1 x2 → ml_V p l e rm_X12_ends s m args below meth c (MQ below (ml_Qi I32 base D cA n Q) args s 0 0 (ml_A base)) base D cA 0 0 n n σ (F0 m 32 ls [])) (σ : ml_St) (x1 : Int) (x2 : Int) (h_x1 : I32 x1) (h_x2 : I32 x2) (ls : Array Slot) (hl : lv_has ls 6 [(0, .ref (base + (215 : Int).toNat)), (1, .int (Int32.ofInt x1)), (2, .int (Int32.ofInt x2))]) (hw : f_X12_ends_u85 Q K32 σ x1 x2) : ml_V p l e rm_X12_ends s m args below meth c (MQ below (ml_Qi I32 base D cA n Q) args s 0 0 (ml_A base)) base D cA 0 0 n n σ (F0 m 85 ls []) := by
  unfold f_X12_ends_u85 at hw
  obtain ⟨v1, hw⟩ := hw
  obtain ⟨y1, e1⟩ : ∃ y : Int, y = x2 + 1 := ⟨_, rfl⟩
  have hw := hw y1 e1
  rw [← e1] at v1
  refine ml_iinc (pc := 85) X e1 hl 2 rfl (by decide) (lst' := [(2, .int (Int32.ofInt y1)), (0, .ref (base + (215 : Int).toNat)), (1, .int (Int32.ofInt x1))]) rfl dX12_ends_85 (fun ls hl => ?_)
  refine ml_goto (pc := 88) (tgt := 32) X dX12_ends_88 (by decide) ?_
  exact hK32 σ x1 y1 h_x1 v1 _ (lv_sub hl [1, 2, 0] rfl) hw
set_option maxRecDepth 100000 in
set_option maxHeartbeats 4000000 in
theorem u_X12_ends_32 {p : Program} {e : Env} {s : State} {m : MethodId} {args : Array Value} {below : List Frame} {meth : Method} {c : Code} {base : Nat} {D : va_G} {cA : Nat → ClassId} {n : Nat} {l : Launch} {Q : Int → ml_St → Prop} {K91 : ml_St → Int → Prop} (X : ml_X p s m c meth args D cA cX12_ends 6 RX12 (some .int)) (hn : 256 ≤ n) (hK91 : ∀ (σ : ml_St) (x1 : Int) (h_x1 : I32 x1) (ls : Array Slot), lv_has ls 6 [(0, .ref (base + (215 : Int).toNat)), (1, .int (Int32.ofInt x1))] → K91 σ x1 → ml_V p l e rm_X12_ends s m args below meth c (MQ below (ml_Qi I32 base D cA n Q) args s 0 0 (ml_A base)) base D cA 0 0 n n σ (F0 m 91 ls [])) : ∀ (N : Nat) (σ : ml_St) (x1 : Int) (x2 : Int) (h_x1 : I32 x1) (h_x2 : I32 x2) (ls : Array Slot), lv_has ls 6 [(0, .ref (base + (215 : Int).toNat)), (1, .int (Int32.ofInt x1)), (2, .int (Int32.ofInt x2))] → f_X12_ends_u32 Q K91 N σ x1 x2 → ml_V p l e rm_X12_ends s m args below meth c (MQ below (ml_Qi I32 base D cA n Q) args s 0 0 (ml_A base)) base D cA 0 0 n n σ (F0 m 32 ls []) := by
  intro N
  induction N with
  | zero => intro σ x1 x2 h_x1 h_x2 ls hl hw; exact False.elim hw
  | succ N ih =>
    intro σ x1 x2 h_x1 h_x2 ls hl hw
    unfold f_X12_ends_u32 at hw
    refine ml_iload_n (pc := 32) X hl 2 rfl rfl dX12_ends_32 ?_
    refine ml_aload_n (pc := 33) X hl 0 rfl rfl dX12_ends_33 ?_
    refine gf_X12_364 (pc := 34) X (ml_c215 hn) dX12_ends_34 (fun r1 => ?_)
    have hw := hw r1
    refine ml_icmp_ge (pc := 37) (tgt := 91) X h_x2 r1 dX12_ends_37 (by decide) (fun c2 => ?_) (fun c2 => ?_)
    · have hw := hw.1 c2
      exact hK91 σ x1 h_x1 _ (lv_sub hl [0, 1] rfl) hw
    · have hw := hw.2 c2
      refine ml_aload_n (pc := 40) X hl 0 rfl rfl dX12_ends_40 ?_
      refine gf_X12_55 (pc := 41) X (ml_c215 hn) dX12_ends_41 ?_
      refine ml_aload_n (pc := 44) X hl 0 rfl rfl dX12_ends_44 ?_
      refine gf_X12_80 (pc := 45) X (ml_c215 hn) dX12_ends_45 ?_
      refine ml_iload_n (pc := 48) X hl 2 rfl rfl dX12_ends_48 ?_
      obtain ⟨a3, b3, hw⟩ := hw
      refine ml_iald (pc := 49) (N := 6) X (ml_c237 hn) a3 b3 dX12_ends_49 (fun r3 => ?_)
      have hw := hw r3
      obtain ⟨a4, b4, hw⟩ := hw
      refine ml_lald (pc := 50) (N := 64) X (ml_c229 hn) a4 b4 dX12_ends_50 (fun r4 => ?_)
      have hw := hw r4
      refine ml_ldc2 (pc := 51) (v := 4) X dX12_ends_51 tc_6_173 ?_
      refine ml_lcmp_ge (pc := 54) (tgt := 85) X r4 ⟨by decide, by decide⟩ dX12_ends_54 dX12_ends_55 (by decide) (fun c5 => ?_) (fun c5 => ?_)
      · have hw := hw.1 c5
        exact u_X12_ends_85 X hn ih σ x1 x2 h_x1 h_x2 _ (lv_sub hl [0, 1, 2] rfl) hw
      · have hw := hw.2 c5
        refine ml_aload_n (pc := 58) X hl 0 rfl rfl dX12_ends_58 ?_
        refine ml_iconst (pc := 59) X dX12_ends_59 ?_
        refine ml_aload_n (pc := 60) X hl 0 rfl rfl dX12_ends_60 ?_
        refine gf_X12_95 (pc := 61) X (ml_c215 hn) dX12_ends_61 ?_
        refine ml_iload_n (pc := 64) X hl 2 rfl rfl dX12_ends_64 ?_
        obtain ⟨a6, b6, hw⟩ := hw
        refine ml_iald (pc := 65) (N := 6) X (ml_c242 hn) a6 b6 dX12_ends_65 (fun r6 => ?_)
        have hw := hw r6
        obtain ⟨v7, hw⟩ := hw
        refine ml_imul (pc := 66) X dX12_ends_66 ?_
        refine ml_aload_n (pc := 67) X hl 0 rfl rfl dX12_ends_67 ?_
        refine gf_X12_55 (pc := 68) X (ml_c215 hn) dX12_ends_68 ?_
        refine ml_aload_n (pc := 71) X hl 0 rfl rfl dX12_ends_71 ?_
        refine gf_X12_80 (pc := 72) X (ml_c215 hn) dX12_ends_72 ?_
        refine ml_iload_n (pc := 75) X hl 2 rfl rfl dX12_ends_75 ?_
        obtain ⟨a8, b8, hw⟩ := hw
        refine ml_iald (pc := 76) (N := 6) X (ml_c237 hn) a8 b8 dX12_ends_76 (fun r8 => ?_)
        have hw := hw r8
        obtain ⟨a9, b9, hw⟩ := hw
        refine ml_lald (pc := 77) (N := 64) X (ml_c229 hn) a9 b9 dX12_ends_77 (fun r9 => ?_)
        have hw := hw r9
        refine ml_l2i (pc := 78) X dX12_ends_78 ?_
        obtain ⟨v10, hw⟩ := hw
        refine ml_iadd (pc := 79) X dX12_ends_79 ?_
        refine ml_iconst (pc := 80) X dX12_ends_80 ?_
        refine ml_iload_n (pc := 81) X hl 2 rfl rfl dX12_ends_81 ?_
        refine ml_callvV (pc := 82) (rest := []) X [.int (Int32.ofInt ((4 * (σ 242 x2)) + (b_l2i (σ 229 (σ 237 x2))))), .int (Int32.ofInt (-1)), .int (Int32.ofInt x2)] (by decide) rfl (ml_c215 hn) (c_X12_comes l base D cA n hn σ ((4 * (σ 242 x2)) + (b_l2i (σ 229 (σ 237 x2)))) (-1) x2 v10 ⟨by decide, by decide⟩ h_x2 _ hw) cv_X12_392 ⟨rfl, rfl⟩ ⟨by decide, by decide⟩ rfl rfl hl (Nat.le_of_ble_eq_true rfl) ⟨Nat.zero_le _, Nat.zero_le _⟩ dX12_ends_82 (fun σ11 hw => ?_)
        exact u_X12_ends_85 X hn ih σ11 x1 x2 h_x1 h_x2 _ (lv_sub hl [0, 1, 2] rfl) hw
set_option maxRecDepth 100000 in
set_option maxHeartbeats 4000000 in
theorem u_X12_ends_190 {p : Program} {e : Env} {s : State} {m : MethodId} {args : Array Value} {below : List Frame} {meth : Method} {c : Code} {base : Nat} {D : va_G} {cA : Nat → ClassId} {n : Nat} {l : Launch} {Q : Int → ml_St → Prop} {K129 : ml_St → Int → Int → Int → Int → Prop} (X : ml_X p s m c meth args D cA cX12_ends 6 RX12 (some .int)) (hn : 256 ≤ n) (hK129 : ∀ (σ : ml_St) (x1 : Int) (x2 : Int) (x3 : Int) (x4 : Int) (h_x1 : I32 x1) (h_x2 : I32 x2) (h_x3 : I32 x3) (h_x4 : I32 x4) (ls : Array Slot), lv_has ls 6 [(0, .ref (base + (215 : Int).toNat)), (1, .int (Int32.ofInt x1)), (2, .int (Int32.ofInt x2)), (3, .int (Int32.ofInt x3)), (4, .int (Int32.ofInt x4))] → K129 σ x1 x2 x3 x4 → ml_V p l e rm_X12_ends s m args below meth c (MQ below (ml_Qi I32 base D cA n Q) args s 0 0 (ml_A base)) base D cA 0 0 n n σ (F0 m 129 ls [])) (σ : ml_St) (x1 : Int) (x2 : Int) (x3 : Int) (x4 : Int) (h_x1 : I32 x1) (h_x2 : I32 x2) (h_x3 : I32 x3) (h_x4 : I32 x4) (ls : Array Slot) (hl : lv_has ls 6 [(0, .ref (base + (215 : Int).toNat)), (1, .int (Int32.ofInt x1)), (2, .int (Int32.ofInt x2)), (3, .int (Int32.ofInt x3)), (4, .int (Int32.ofInt x4))]) (hw : f_X12_ends_u190 Q K129 σ x1 x2 x3 x4) : ml_V p l e rm_X12_ends s m args below meth c (MQ below (ml_Qi I32 base D cA n Q) args s 0 0 (ml_A base)) base D cA 0 0 n n σ (F0 m 190 ls []) := by
  unfold f_X12_ends_u190 at hw
  obtain ⟨v1, hw⟩ := hw
  obtain ⟨y1, e1⟩ : ∃ y : Int, y = x4 + 1 := ⟨_, rfl⟩
  have hw := hw y1 e1
  rw [← e1] at v1
  refine ml_iinc (pc := 190) X e1 hl 4 rfl (by decide) (lst' := [(4, .int (Int32.ofInt y1)), (0, .ref (base + (215 : Int).toNat)), (1, .int (Int32.ofInt x1)), (2, .int (Int32.ofInt x2)), (3, .int (Int32.ofInt x3))]) rfl dX12_ends_190 (fun ls hl => ?_)
  refine ml_goto (pc := 193) (tgt := 129) X dX12_ends_193 (by decide) ?_
  exact hK129 σ x1 x2 x3 y1 h_x1 h_x2 h_x3 v1 _ (lv_sub hl [1, 2, 3, 4, 0] rfl) hw
set_option maxRecDepth 100000 in
set_option maxHeartbeats 4000000 in
theorem u_X12_ends_129 {p : Program} {e : Env} {s : State} {m : MethodId} {args : Array Value} {below : List Frame} {meth : Method} {c : Code} {base : Nat} {D : va_G} {cA : Nat → ClassId} {n : Nat} {l : Launch} {Q : Int → ml_St → Prop} {K196 : ml_St → Int → Int → Prop} (X : ml_X p s m c meth args D cA cX12_ends 6 RX12 (some .int)) (hn : 256 ≤ n) (hK196 : ∀ (σ : ml_St) (x1 : Int) (x2 : Int) (h_x1 : I32 x1) (h_x2 : I32 x2) (ls : Array Slot), lv_has ls 6 [(0, .ref (base + (215 : Int).toNat)), (1, .int (Int32.ofInt x1)), (2, .int (Int32.ofInt x2))] → K196 σ x1 x2 → ml_V p l e rm_X12_ends s m args below meth c (MQ below (ml_Qi I32 base D cA n Q) args s 0 0 (ml_A base)) base D cA 0 0 n n σ (F0 m 196 ls [])) : ∀ (N : Nat) (σ : ml_St) (x1 : Int) (x2 : Int) (x3 : Int) (x4 : Int) (h_x1 : I32 x1) (h_x2 : I32 x2) (h_x3 : I32 x3) (h_x4 : I32 x4) (ls : Array Slot), lv_has ls 6 [(0, .ref (base + (215 : Int).toNat)), (1, .int (Int32.ofInt x1)), (2, .int (Int32.ofInt x2)), (3, .int (Int32.ofInt x3)), (4, .int (Int32.ofInt x4))] → f_X12_ends_u129 Q K196 N σ x1 x2 x3 x4 → ml_V p l e rm_X12_ends s m args below meth c (MQ below (ml_Qi I32 base D cA n Q) args s 0 0 (ml_A base)) base D cA 0 0 n n σ (F0 m 129 ls []) := by
  intro N
  induction N with
  | zero => intro σ x1 x2 x3 x4 h_x1 h_x2 h_x3 h_x4 ls hl hw; exact False.elim hw
  | succ N ih =>
    intro σ x1 x2 x3 x4 h_x1 h_x2 h_x3 h_x4 ls hl hw
    unfold f_X12_ends_u129 at hw
    refine ml_iload (pc := 129) X hl 4 rfl dX12_ends_129 ?_
    refine ml_aload_n (pc := 131) X hl 0 rfl rfl dX12_ends_131 ?_
    refine gf_X12_364 (pc := 132) X (ml_c215 hn) dX12_ends_132 (fun r1 => ?_)
    have hw := hw r1
    refine ml_icmp_ge (pc := 135) (tgt := 196) X h_x4 r1 dX12_ends_135 (by decide) (fun c2 => ?_) (fun c2 => ?_)
    · have hw := hw.1 c2
      exact hK196 σ x1 x2 h_x1 h_x2 _ (lv_sub hl [0, 1, 2] rfl) hw
    · have hw := hw.2 c2
      refine ml_iload_n (pc := 138) X hl 3 rfl rfl dX12_ends_138 ?_
      refine ml_iconst (pc := 139) X dX12_ends_139 ?_
      obtain ⟨z3, v3, hw⟩ := hw
      refine ml_irem (pc := 140) X h_x3 ⟨by decide, by decide⟩ z3 dX12_ends_140 ?_
      refine ml_aload_n (pc := 141) X hl 0 rfl rfl dX12_ends_141 ?_
      refine gf_X12_92 (pc := 142) X (ml_c215 hn) dX12_ends_142 ?_
      refine ml_bipush (pc := 145) X dX12_ends_145 (by decide) ?_
      refine ml_iload_n (pc := 147) X hl 3 rfl rfl dX12_ends_147 ?_
      refine ml_iconst (pc := 148) X dX12_ends_148 ?_
      obtain ⟨z4, v4, hw⟩ := hw
      refine ml_idiv (pc := 149) X h_x3 ⟨by decide, by decide⟩ z4 dX12_ends_149 ?_
      obtain ⟨v5, hw⟩ := hw
      refine ml_imul (pc := 150) X dX12_ends_150 ?_
      refine ml_iload (pc := 151) X hl 4 rfl dX12_ends_151 ?_
      obtain ⟨v6, hw⟩ := hw
      refine ml_iadd (pc := 153) X dX12_ends_153 ?_
      obtain ⟨a7, b7, hw⟩ := hw
      refine ml_iald (pc := 154) (N := 5700) X (ml_c241 hn) a7 b7 dX12_ends_154 (fun r7 => ?_)
      have hw := hw r7
      obtain ⟨v8, hw⟩ := hw
      refine ml_iadd (pc := 155) X dX12_ends_155 ?_
      refine ml_topI (pc := 156) (fun y9 e9 => ?_)
      have hw := hw y9 e9
      have q9 : I32 y9 := by rw [e9]; exact v8
      refine ml_istore (pc := 156) X hl (by decide) (lst' := [(5, .int (Int32.ofInt y9)), (0, .ref (base + (215 : Int).toNat)), (1, .int (Int32.ofInt x1)), (2, .int (Int32.ofInt x2)), (3, .int (Int32.ofInt x3)), (4, .int (Int32.ofInt x4))]) rfl dX12_ends_156 (fun ls hl => ?_)
      refine ml_iload (pc := 158) X hl 0 rfl dX12_ends_158 ?_
      refine ml_iconst (pc := 160) X dX12_ends_160 ?_
      refine ml_icmp_ge (pc := 161) (tgt := 190) X q9 ⟨by decide, by decide⟩ dX12_ends_161 (by decide) (fun c10 => ?_) (fun c10 => ?_)
      · have hw := hw.1 c10
        exact u_X12_ends_190 X hn ih σ x1 x2 x3 x4 h_x1 h_x2 h_x3 h_x4 _ (lv_sub hl [1, 2, 3, 4, 5] rfl) hw
      · have hw := hw.2 c10
        refine ml_aload_n (pc := 164) X hl 1 rfl rfl dX12_ends_164 ?_
        refine ml_iconst (pc := 165) X dX12_ends_165 ?_
        refine ml_aload_n (pc := 166) X hl 1 rfl rfl dX12_ends_166 ?_
        refine gf_X12_89 (pc := 167) X (ml_c215 hn) dX12_ends_167 ?_
        refine ml_bipush (pc := 170) X dX12_ends_170 (by decide) ?_
        refine ml_iload_n (pc := 172) X hl 4 rfl rfl dX12_ends_172 ?_
        refine ml_iconst (pc := 173) X dX12_ends_173 ?_
        obtain ⟨z11, v11, hw⟩ := hw
        refine ml_idiv (pc := 174) X h_x3 ⟨by decide, by decide⟩ z11 dX12_ends_174 ?_
        obtain ⟨v12, hw⟩ := hw
        refine ml_imul (pc := 175) X dX12_ends_175 ?_
        refine ml_iload (pc := 176) X hl 5 rfl dX12_ends_176 ?_
        obtain ⟨v13, hw⟩ := hw
        refine ml_iadd (pc := 178) X dX12_ends_178 ?_
        obtain ⟨a14, b14, hw⟩ := hw
        refine ml_iald (pc := 179) (N := 5700) X (ml_c240 hn) a14 b14 dX12_ends_179 (fun r14 => ?_)
        have hw := hw r14
        obtain ⟨v15, hw⟩ := hw
        refine ml_imul (pc := 180) X dX12_ends_180 ?_
        refine ml_iload (pc := 181) X hl 0 rfl dX12_ends_181 ?_
        obtain ⟨v16, hw⟩ := hw
        refine ml_iadd (pc := 183) X dX12_ends_183 ?_
        refine ml_iload_n (pc := 184) X hl 4 rfl rfl dX12_ends_184 ?_
        refine ml_iload (pc := 185) X hl 5 rfl dX12_ends_185 ?_
        refine ml_callvV (pc := 187) (rest := []) X [.int (Int32.ofInt ((4 * (σ 240 ((6 * (Int.tdiv x3 4)) + x4))) + y9)), .int (Int32.ofInt x3), .int (Int32.ofInt x4)] (by decide) rfl (ml_c215 hn) (c_X12_comes l base D cA n hn σ ((4 * (σ 240 ((6 * (Int.tdiv x3 4)) + x4))) + y9) x3 x4 v16 h_x3 h_x4 _ hw) cv_X12_392 ⟨rfl, rfl⟩ ⟨by decide, by decide⟩ rfl rfl hl (Nat.le_of_ble_eq_true rfl) ⟨Nat.zero_le _, Nat.zero_le _⟩ dX12_ends_187 (fun σ17 hw => ?_)
        exact u_X12_ends_190 X hn ih σ17 x1 x2 x3 x4 h_x1 h_x2 h_x3 h_x4 _ (lv_sub hl [1, 2, 3, 4, 5] rfl) hw
set_option maxRecDepth 100000 in
set_option maxHeartbeats 4000000 in
theorem u_X12_ends_196 {p : Program} {e : Env} {s : State} {m : MethodId} {args : Array Value} {below : List Frame} {meth : Method} {c : Code} {base : Nat} {D : va_G} {cA : Nat → ClassId} {n : Nat} {l : Launch} {Q : Int → ml_St → Prop} {K93 : ml_St → Int → Int → Prop} (X : ml_X p s m c meth args D cA cX12_ends 6 RX12 (some .int)) (hn : 256 ≤ n) (hK93 : ∀ (σ : ml_St) (x1 : Int) (x2 : Int) (h_x1 : I32 x1) (h_x2 : I32 x2) (ls : Array Slot), lv_has ls 6 [(0, .ref (base + (215 : Int).toNat)), (1, .int (Int32.ofInt x1)), (2, .int (Int32.ofInt x2))] → K93 σ x1 x2 → ml_V p l e rm_X12_ends s m args below meth c (MQ below (ml_Qi I32 base D cA n Q) args s 0 0 (ml_A base)) base D cA 0 0 n n σ (F0 m 93 ls [])) (σ : ml_St) (x1 : Int) (x2 : Int) (h_x1 : I32 x1) (h_x2 : I32 x2) (ls : Array Slot) (hl : lv_has ls 6 [(0, .ref (base + (215 : Int).toNat)), (1, .int (Int32.ofInt x1)), (2, .int (Int32.ofInt x2))]) (hw : f_X12_ends_u196 Q K93 σ x1 x2) : ml_V p l e rm_X12_ends s m args below meth c (MQ below (ml_Qi I32 base D cA n Q) args s 0 0 (ml_A base)) base D cA 0 0 n n σ (F0 m 196 ls []) := by
  unfold f_X12_ends_u196 at hw
  obtain ⟨v1, hw⟩ := hw
  obtain ⟨y1, e1⟩ : ∃ y : Int, y = x2 + 1 := ⟨_, rfl⟩
  have hw := hw y1 e1
  rw [← e1] at v1
  refine ml_iinc (pc := 196) X e1 hl 2 rfl (by decide) (lst' := [(2, .int (Int32.ofInt y1)), (0, .ref (base + (215 : Int).toNat)), (1, .int (Int32.ofInt x1))]) rfl dX12_ends_196 (fun ls hl => ?_)
  refine ml_goto (pc := 199) (tgt := 93) X dX12_ends_199 (by decide) ?_
  exact hK93 σ x1 y1 h_x1 v1 _ (lv_sub hl [1, 2, 0] rfl) hw
set_option maxRecDepth 100000 in
set_option maxHeartbeats 4000000 in
theorem u_X12_ends_93 {p : Program} {e : Env} {s : State} {m : MethodId} {args : Array Value} {below : List Frame} {meth : Method} {c : Code} {base : Nat} {D : va_G} {cA : Nat → ClassId} {n : Nat} {l : Launch} {Q : Int → ml_St → Prop} {K124 : ml_St → Int → Prop} {K202 : ml_St → Prop} (X : ml_X p s m c meth args D cA cX12_ends 6 RX12 (some .int)) (hn : 256 ≤ n) (hK124 : ∀ (σ : ml_St) (x3 : Int) (h_x3 : I32 x3) (ls : Array Slot), lv_has ls 6 [(3, .int (Int32.ofInt x3))] → K124 σ x3 → ml_V p l e rm_X12_ends s m args below meth c (MQ below (ml_Qi I32 base D cA n Q) args s 0 0 (ml_A base)) base D cA 0 0 n n σ (F0 m 124 ls [])) (hK202 : ∀ (σ : ml_St) (ls : Array Slot), lv_has ls 6 [] → K202 σ → ml_V p l e rm_X12_ends s m args below meth c (MQ below (ml_Qi I32 base D cA n Q) args s 0 0 (ml_A base)) base D cA 0 0 n n σ (F0 m 202 ls [])) : ∀ (N : Nat) (σ : ml_St) (x1 : Int) (x2 : Int) (h_x1 : I32 x1) (h_x2 : I32 x2) (ls : Array Slot), lv_has ls 6 [(0, .ref (base + (215 : Int).toNat)), (1, .int (Int32.ofInt x1)), (2, .int (Int32.ofInt x2))] → f_X12_ends_u93 Q K124 K202 N σ x1 x2 → ml_V p l e rm_X12_ends s m args below meth c (MQ below (ml_Qi I32 base D cA n Q) args s 0 0 (ml_A base)) base D cA 0 0 n n σ (F0 m 93 ls []) := by
  intro N
  induction N with
  | zero => intro σ x1 x2 h_x1 h_x2 ls hl hw; exact False.elim hw
  | succ N ih =>
    intro σ x1 x2 h_x1 h_x2 ls hl hw
    unfold f_X12_ends_u93 at hw
    refine ml_iload_n (pc := 93) X hl 2 rfl rfl dX12_ends_93 ?_
    refine ml_aload_n (pc := 94) X hl 0 rfl rfl dX12_ends_94 ?_
    refine gf_X12_389 (pc := 95) X (ml_c215 hn) dX12_ends_95 (fun r1 => ?_)
    have hw := hw r1
    refine ml_icmp_ge (pc := 98) (tgt := 202) X h_x2 r1 dX12_ends_98 (by decide) (fun c2 => ?_) (fun c2 => ?_)
    · have hw := hw.1 c2
      exact hK202 σ   _ (lv_sub hl [] rfl) hw
    · have hw := hw.2 c2
      refine ml_aload_n (pc := 101) X hl 0 rfl rfl dX12_ends_101 ?_
      refine gf_X12_110 (pc := 102) X (ml_c215 hn) dX12_ends_102 ?_
      refine ml_iload_n (pc := 105) X hl 2 rfl rfl dX12_ends_105 ?_
      obtain ⟨a3, b3, hw⟩ := hw
      refine ml_iald (pc := 106) (N := 3800) X (ml_c247 hn) a3 b3 dX12_ends_106 (fun r3 => ?_)
      have hw := hw r3
      refine ml_topI (pc := 107) (fun y4 e4 => ?_)
      have hw := hw y4 e4
      have q4 : I32 y4 := by rw [e4]; exact r3
      refine ml_istore_n (pc := 107) X rfl hl (by decide) (lst' := [(3, .int (Int32.ofInt y4)), (0, .ref (base + (215 : Int).toNat)), (1, .int (Int32.ofInt x1)), (2, .int (Int32.ofInt x2))]) rfl dX12_ends_107 (fun ls hl => ?_)
      refine ml_iload_n (pc := 108) X hl 0 rfl rfl dX12_ends_108 ?_
      refine ml_iconst (pc := 109) X dX12_ends_109 ?_
      obtain ⟨z5, v5, hw⟩ := hw
      refine ml_irem (pc := 110) X q4 ⟨by decide, by decide⟩ z5 dX12_ends_110 ?_
      refine ml_aload_n (pc := 111) X hl 1 rfl rfl dX12_ends_111 ?_
      refine gf_X12_98 (pc := 112) X (ml_c215 hn) dX12_ends_112 ?_
      refine ml_iload_n (pc := 115) X hl 0 rfl rfl dX12_ends_115 ?_
      refine ml_iconst (pc := 116) X dX12_ends_116 ?_
      obtain ⟨z6, v6, hw⟩ := hw
      refine ml_idiv (pc := 117) X q4 ⟨by decide, by decide⟩ z6 dX12_ends_117 ?_
      obtain ⟨a7, b7, hw⟩ := hw
      refine ml_iald (pc := 118) (N := 950) X (ml_c243 hn) a7 b7 dX12_ends_118 (fun r7 => ?_)
      have hw := hw r7
      obtain ⟨v8, hw⟩ := hw
      refine ml_iadd (pc := 119) X dX12_ends_119 ?_
      refine ml_iload_n (pc := 120) X hl 2 rfl rfl dX12_ends_120 ?_
      refine ml_icmp_ne (pc := 121) (tgt := 126) X v8 h_x1 dX12_ends_121 (by decide) (fun c9 => ?_) (fun c9 => ?_)
      · have hw := hw.1 c9
        refine ml_iconst (pc := 126) X dX12_ends_126 ?_
        refine ml_istore (pc := 127) X hl (by decide) (lst' := [(4, .int (Int32.ofInt 0)), (3, .int (Int32.ofInt y4)), (0, .ref (base + (215 : Int).toNat)), (1, .int (Int32.ofInt x1)), (2, .int (Int32.ofInt x2))]) rfl dX12_ends_127 (fun ls hl => ?_)
        obtain ⟨N0, hw⟩ := hw
        exact u_X12_ends_129 X hn (fun σ x1 x2 h_x1 h_x2 ls hl hw => u_X12_ends_196 X hn ih σ x1 x2 h_x1 h_x2 ls hl hw) N0 σ x1 x2 y4 0 h_x1 h_x2 q4 ⟨by decide, by decide⟩ _ (lv_sub hl [2, 3, 4, 1, 0] rfl) hw
      · have hw := hw.2 c9
        exact hK124 σ y4 q4 _ (lv_sub hl [0] rfl) hw
set_option maxRecDepth 100000 in
set_option maxHeartbeats 4000000 in
theorem u_X12_ends_124 {p : Program} {e : Env} {s : State} {m : MethodId} {args : Array Value} {below : List Frame} {meth : Method} {c : Code} {base : Nat} {D : va_G} {cA : Nat → ClassId} {n : Nat} {l : Launch} {Q : Int → ml_St → Prop} (X : ml_X p s m c meth args D cA cX12_ends 6 RX12 (some .int)) (hn : 256 ≤ n) (σ : ml_St) (x3 : Int) (h_x3 : I32 x3) (ls : Array Slot) (hl : lv_has ls 6 [(3, .int (Int32.ofInt x3))]) (hw : f_X12_ends_u124 Q σ x3) : ml_V p l e rm_X12_ends s m args below meth c (MQ below (ml_Qi I32 base D cA n Q) args s 0 0 (ml_A base)) base D cA 0 0 n n σ (F0 m 124 ls []) := by
  unfold f_X12_ends_u124 at hw
  refine ml_iload_n (pc := 124) X hl 0 rfl rfl dX12_ends_124 ?_
  exact ml_iret (pc := 125) X h_x3 hw dX12_ends_125
set_option maxRecDepth 100000 in
set_option maxHeartbeats 4000000 in
theorem u_X12_ends_202 {p : Program} {e : Env} {s : State} {m : MethodId} {args : Array Value} {below : List Frame} {meth : Method} {c : Code} {base : Nat} {D : va_G} {cA : Nat → ClassId} {n : Nat} {l : Launch} {Q : Int → ml_St → Prop} (X : ml_X p s m c meth args D cA cX12_ends 6 RX12 (some .int)) (hn : 256 ≤ n) (σ : ml_St) (ls : Array Slot) (hl : lv_has ls 6 []) (hw : f_X12_ends_u202 Q σ) : ml_V p l e rm_X12_ends s m args below meth c (MQ below (ml_Qi I32 base D cA n Q) args s 0 0 (ml_A base)) base D cA 0 0 n n σ (F0 m 202 ls []) := by
  unfold f_X12_ends_u202 at hw
  refine ml_iconst (pc := 202) X dX12_ends_202 ?_
  exact ml_iret (pc := 203) X ⟨by decide, by decide⟩ hw dX12_ends_203
set_option maxRecDepth 100000 in
set_option maxHeartbeats 4000000 in
theorem u_X12_ends_91 {p : Program} {e : Env} {s : State} {m : MethodId} {args : Array Value} {below : List Frame} {meth : Method} {c : Code} {base : Nat} {D : va_G} {cA : Nat → ClassId} {n : Nat} {l : Launch} {Q : Int → ml_St → Prop} (X : ml_X p s m c meth args D cA cX12_ends 6 RX12 (some .int)) (hn : 256 ≤ n) (σ : ml_St) (x1 : Int) (h_x1 : I32 x1) (ls : Array Slot) (hl : lv_has ls 6 [(0, .ref (base + (215 : Int).toNat)), (1, .int (Int32.ofInt x1))]) (hw : f_X12_ends_u91 Q σ x1) : ml_V p l e rm_X12_ends s m args below meth c (MQ below (ml_Qi I32 base D cA n Q) args s 0 0 (ml_A base)) base D cA 0 0 n n σ (F0 m 91 ls []) := by
  unfold f_X12_ends_u91 at hw
  refine ml_iconst (pc := 91) X dX12_ends_91 ?_
  refine ml_istore_n (pc := 92) X rfl hl (by decide) (lst' := [(2, .int (Int32.ofInt 0)), (0, .ref (base + (215 : Int).toNat)), (1, .int (Int32.ofInt x1))]) rfl dX12_ends_92 (fun ls hl => ?_)
  obtain ⟨N0, hw⟩ := hw
  exact u_X12_ends_93 X hn (fun σ x3 h_x3 ls hl hw => u_X12_ends_124 X hn σ x3 h_x3 ls hl hw) (fun σ   ls hl hw => u_X12_ends_202 X hn σ   ls hl hw) N0 σ x1 0 h_x1 ⟨by decide, by decide⟩ _ (lv_sub hl [1, 2, 0] rfl) hw
set_option maxRecDepth 100000 in
set_option maxHeartbeats 4000000 in
theorem u_X12_ends_25 {p : Program} {e : Env} {s : State} {m : MethodId} {args : Array Value} {below : List Frame} {meth : Method} {c : Code} {base : Nat} {D : va_G} {cA : Nat → ClassId} {n : Nat} {l : Launch} {Q : Int → ml_St → Prop} (X : ml_X p s m c meth args D cA cX12_ends 6 RX12 (some .int)) (hn : 256 ≤ n) (σ : ml_St) (x1 : Int) (h_x1 : I32 x1) (ls : Array Slot) (hl : lv_has ls 6 [(0, .ref (base + (215 : Int).toNat)), (1, .int (Int32.ofInt x1))]) (hw : f_X12_ends_u25 Q σ x1) : ml_V p l e rm_X12_ends s m args below meth c (MQ below (ml_Qi I32 base D cA n Q) args s 0 0 (ml_A base)) base D cA 0 0 n n σ (F0 m 25 ls []) := by
  unfold f_X12_ends_u25 at hw
  refine ml_aload_n (pc := 25) X hl 0 rfl rfl dX12_ends_25 ?_
  refine ml_iconst (pc := 26) X dX12_ends_26 ?_
  refine pf_X12_389 (pc := 27) X (ml_c215 hn) ⟨by decide, by decide⟩ dX12_ends_27 (fun σ1 g1 => ?_)
  have hw := hw σ1 g1
  refine ml_iconst (pc := 30) X dX12_ends_30 ?_
  refine ml_istore_n (pc := 31) X rfl hl (by decide) (lst' := [(2, .int (Int32.ofInt 0)), (0, .ref (base + (215 : Int).toNat)), (1, .int (Int32.ofInt x1))]) rfl dX12_ends_31 (fun ls hl => ?_)
  obtain ⟨N0, hw⟩ := hw
  exact u_X12_ends_32 X hn (fun σ x1 h_x1 ls hl hw => u_X12_ends_91 X hn σ x1 h_x1 ls hl hw) N0 σ1 x1 0 h_x1 ⟨by decide, by decide⟩ _ (lv_sub hl [1, 2, 0] rfl) hw
set_option maxRecDepth 100000 in
set_option maxHeartbeats 4000000 in
theorem u_X12_ends_0 {p : Program} {e : Env} {s : State} {m : MethodId} {args : Array Value} {below : List Frame} {meth : Method} {c : Code} {base : Nat} {D : va_G} {cA : Nat → ClassId} {n : Nat} {l : Launch} {Q : Int → ml_St → Prop} (X : ml_X p s m c meth args D cA cX12_ends 6 RX12 (some .int)) (hn : 256 ≤ n) (σ : ml_St) (x1 : Int) (h_x1 : I32 x1) (ls : Array Slot) (hl : lv_has ls 6 [(0, .ref (base + (215 : Int).toNat)), (1, .int (Int32.ofInt x1))]) (hw : f_X12_ends_u0 Q σ x1) : ml_V p l e rm_X12_ends s m args below meth c (MQ below (ml_Qi I32 base D cA n Q) args s 0 0 (ml_A base)) base D cA 0 0 n n σ (F0 m 0 ls []) := by
  unfold f_X12_ends_u0 at hw
  refine ml_iconst (pc := 0) X dX12_ends_0 ?_
  refine ml_istore_n (pc := 1) X rfl hl (by decide) (lst' := [(2, .int (Int32.ofInt 0)), (0, .ref (base + (215 : Int).toNat)), (1, .int (Int32.ofInt x1))]) rfl dX12_ends_1 (fun ls hl => ?_)
  obtain ⟨N0, hw⟩ := hw
  exact u_X12_ends_2 X hn (fun σ x1 h_x1 ls hl hw => u_X12_ends_25 X hn σ x1 h_x1 ls hl hw) N0 σ x1 0 h_x1 ⟨by decide, by decide⟩ _ (lv_sub hl [1, 2, 0] rfl) hw
set_option maxRecDepth 100000 in
theorem c_X12_ends (l : Launch) (base : Nat) (D : va_G) (cA : Nat → ClassId) (n : Nat) (hn : 256 ≤ n) (σ : ml_St) (x1 : Int) (h_x1 : I32 x1) (Q : Int → ml_St → Prop) (hw : f_X12_ends σ x1 Q) : Met l yX12_ends (Cond.code yX12_ends cX12_ends 6 (some .int) :: ml_T) rm_X12_ends (va_Pc [.ref (base + (215 : Int).toNat), .int (Int32.ofInt x1)] (ml_U base D cA n σ)) (ml_Qi I32 base D cA n Q) 0 0 (ml_A base) := by
  refine Met.ofW (cc := cX12_ends) (maxL := 6) (ret := (some .int)) (by decide) rfl ?_
  intro p e s m args below meth c s₁ B hml hv
  obtain ⟨rfl, hP, hK, hok, hro⟩ := hv
  have X : ml_X p s m c meth _ D cA cX12_ends 6 RX12 (some .int) := ⟨B.exec, B.bytes, hml, findClass_of_methodNamed B.named, fun w hw => atoms_spec (ws := Cond.code yX12_ends cX12_ends 6 (some .int) :: ml_T) B.pre w (List.mem_cons_of_mem _ hw), hK, B.notSynchronized, B.returns⟩
  have hl := lv_entry [.ref (base + (215 : Int).toNat), .int (Int32.ofInt x1)] (n := 6) (Nat.le_of_ble_eq_true rfl)
  rw [lg_entry_eq]
  generalize (lg_sl [.ref (base + (215 : Int).toNat), .int (Int32.ofInt x1)] ++ List.replicate (6 - (lg_sl [.ref (base + (215 : Int).toNat), .int (Int32.ofInt x1)]).length) Slot.unset).toArray = ls at hl ⊢
  have hl : lv_has ls 6 [(0, .ref (base + (215 : Int).toNat)), (1, .int (Int32.ofInt x1))] := hl
  unfold f_X12_ends at hw
  exact u_X12_ends_0 X hn σ x1 h_x1 _ (lv_sub hl [0, 1] rfl) hw s.heap [] hP va_S.rf hok hro
theorem dX12_shortest_0 : decode cX12_shortest 0 = .ok (.aload_n 0, 1) := by decide +kernel
theorem dX12_shortest_1 : decode cX12_shortest 1 = .ok (.iload_n 1, 1) := by decide +kernel
theorem dX12_shortest_2 : decode cX12_shortest 2 = .ok (.invokevirtual 379, 3) := by decide +kernel
theorem dX12_shortest_5 : decode cX12_shortest 5 = .ok (.ifCond .eq 20, 3) := by decide +kernel
theorem dX12_shortest_8 : decode cX12_shortest 8 = .ok (.iload_n 2, 1) := by decide +kernel
theorem dX12_shortest_9 : decode cX12_shortest 9 = .ok (.i2l, 1) := by decide +kernel
theorem dX12_shortest_10 : decode cX12_shortest 10 = .ok (.lconst 0, 1) := by decide +kernel
theorem dX12_shortest_11 : decode cX12_shortest 11 = .ok (.ldc2_w 353, 3) := by decide +kernel
theorem dX12_shortest_14 : decode cX12_shortest 14 = .ok (.invokestatic 143, 3) := by decide +kernel
theorem dX12_shortest_17 : decode cX12_shortest 17 = .ok (.ifCond .eq 8, 3) := by decide +kernel
theorem dX12_shortest_20 : decode cX12_shortest 20 = .ok (.iload_n 3, 1) := by decide +kernel
theorem dX12_shortest_21 : decode cX12_shortest 21 = .ok (.iconst (-1), 1) := by decide +kernel
theorem dX12_shortest_22 : decode cX12_shortest 22 = .ok (.if_icmp .ge 5, 3) := by decide +kernel
theorem dX12_shortest_25 : decode cX12_shortest 25 = .ok (.iconst (-1), 1) := by decide +kernel
theorem dX12_shortest_26 : decode cX12_shortest 26 = .ok (.ireturn, 1) := by decide +kernel
theorem dX12_shortest_27 : decode cX12_shortest 27 = .ok (.aload_n 0, 1) := by decide +kernel
theorem dX12_shortest_28 : decode cX12_shortest 28 = .ok (.invokevirtual 384, 3) := by decide +kernel
theorem dX12_shortest_31 : decode cX12_shortest 31 = .ok (.aload_n 0, 1) := by decide +kernel
theorem dX12_shortest_32 : decode cX12_shortest 32 = .ok (.iload_n 2, 1) := by decide +kernel
theorem dX12_shortest_33 : decode cX12_shortest 33 = .ok (.invokevirtual 395, 3) := by decide +kernel
theorem dX12_shortest_36 : decode cX12_shortest 36 = .ok (.istore 4, 2) := by decide +kernel
theorem dX12_shortest_38 : decode cX12_shortest 38 = .ok (.iload 4, 2) := by decide +kernel
theorem dX12_shortest_40 : decode cX12_shortest 40 = .ok (.iconst (-1), 1) := by decide +kernel
theorem dX12_shortest_41 : decode cX12_shortest 41 = .ok (.if_icmp .ne 5, 3) := by decide +kernel
theorem dX12_shortest_44 : decode cX12_shortest 44 = .ok (.iconst (-1), 1) := by decide +kernel
theorem dX12_shortest_45 : decode cX12_shortest 45 = .ok (.ireturn, 1) := by decide +kernel
theorem dX12_shortest_46 : decode cX12_shortest 46 = .ok (.iconst 0, 1) := by decide +kernel
theorem dX12_shortest_47 : decode cX12_shortest 47 = .ok (.istore 5, 2) := by decide +kernel
theorem dX12_shortest_49 : decode cX12_shortest 49 = .ok (.iload 4, 2) := by decide +kernel
theorem dX12_shortest_51 : decode cX12_shortest 51 = .ok (.istore 6, 2) := by decide +kernel
theorem dX12_shortest_53 : decode cX12_shortest 53 = .ok (.iload 6, 2) := by decide +kernel
theorem dX12_shortest_55 : decode cX12_shortest 55 = .ok (.iconst (-1), 1) := by decide +kernel
theorem dX12_shortest_56 : decode cX12_shortest 56 = .ok (.if_icmp .eq 18, 3) := by decide +kernel
theorem dX12_shortest_59 : decode cX12_shortest 59 = .ok (.iinc 5 1, 3) := by decide +kernel
theorem dX12_shortest_62 : decode cX12_shortest 62 = .ok (.aload_n 0, 1) := by decide +kernel
theorem dX12_shortest_63 : decode cX12_shortest 63 = .ok (.getfield 113, 3) := by decide +kernel
theorem dX12_shortest_66 : decode cX12_shortest 66 = .ok (.iload 6, 2) := by decide +kernel
theorem dX12_shortest_68 : decode cX12_shortest 68 = .ok (.iaload, 1) := by decide +kernel
theorem dX12_shortest_69 : decode cX12_shortest 69 = .ok (.istore 6, 2) := by decide +kernel
theorem dX12_shortest_71 : decode cX12_shortest 71 = .ok (.goto (-18), 3) := by decide +kernel
theorem dX12_shortest_74 : decode cX12_shortest 74 = .ok (.iload_n 3, 1) := by decide +kernel
theorem dX12_shortest_75 : decode cX12_shortest 75 = .ok (.iconst (-1), 1) := by decide +kernel
theorem dX12_shortest_76 : decode cX12_shortest 76 = .ok (.if_icmp .ne 6, 3) := by decide +kernel
theorem dX12_shortest_79 : decode cX12_shortest 79 = .ok (.iload 5, 2) := by decide +kernel
theorem dX12_shortest_81 : decode cX12_shortest 81 = .ok (.ireturn, 1) := by decide +kernel
theorem dX12_shortest_82 : decode cX12_shortest 82 = .ok (.iload_n 3, 1) := by decide +kernel
theorem dX12_shortest_83 : decode cX12_shortest 83 = .ok (.iload 5, 2) := by decide +kernel
theorem dX12_shortest_85 : decode cX12_shortest 85 = .ok (.if_icmp .lt 5, 3) := by decide +kernel
theorem dX12_shortest_88 : decode cX12_shortest 88 = .ok (.iconst (-1), 1) := by decide +kernel
theorem dX12_shortest_89 : decode cX12_shortest 89 = .ok (.ireturn, 1) := by decide +kernel
theorem dX12_shortest_90 : decode cX12_shortest 90 = .ok (.iload 5, 2) := by decide +kernel
theorem dX12_shortest_92 : decode cX12_shortest 92 = .ok (.iconst 1, 1) := by decide +kernel
theorem dX12_shortest_93 : decode cX12_shortest 93 = .ok (.isub, 1) := by decide +kernel
theorem dX12_shortest_94 : decode cX12_shortest 94 = .ok (.istore 6, 2) := by decide +kernel
theorem dX12_shortest_96 : decode cX12_shortest 96 = .ok (.iload 6, 2) := by decide +kernel
theorem dX12_shortest_98 : decode cX12_shortest 98 = .ok (.iload_n 3, 1) := by decide +kernel
theorem dX12_shortest_99 : decode cX12_shortest 99 = .ok (.if_icmp .le 18, 3) := by decide +kernel
theorem dX12_shortest_102 : decode cX12_shortest 102 = .ok (.aload_n 0, 1) := by decide +kernel
theorem dX12_shortest_103 : decode cX12_shortest 103 = .ok (.getfield 113, 3) := by decide +kernel
theorem dX12_shortest_106 : decode cX12_shortest 106 = .ok (.iload 4, 2) := by decide +kernel
theorem dX12_shortest_108 : decode cX12_shortest 108 = .ok (.iaload, 1) := by decide +kernel
theorem dX12_shortest_109 : decode cX12_shortest 109 = .ok (.istore 4, 2) := by decide +kernel
theorem dX12_shortest_111 : decode cX12_shortest 111 = .ok (.iinc 6 (-1), 3) := by decide +kernel
theorem dX12_shortest_114 : decode cX12_shortest 114 = .ok (.goto (-18), 3) := by decide +kernel
theorem dX12_shortest_117 : decode cX12_shortest 117 = .ok (.aload_n 0, 1) := by decide +kernel
theorem dX12_shortest_118 : decode cX12_shortest 118 = .ok (.getfield 80, 3) := by decide +kernel
theorem dX12_shortest_121 : decode cX12_shortest 121 = .ok (.aload_n 0, 1) := by decide +kernel
theorem dX12_shortest_122 : decode cX12_shortest 122 = .ok (.getfield 116, 3) := by decide +kernel
theorem dX12_shortest_125 : decode cX12_shortest 125 = .ok (.iload 4, 2) := by decide +kernel
theorem dX12_shortest_127 : decode cX12_shortest 127 = .ok (.iaload, 1) := by decide +kernel
theorem dX12_shortest_128 : decode cX12_shortest 128 = .ok (.iaload, 1) := by decide +kernel
theorem dX12_shortest_129 : decode cX12_shortest 129 = .ok (.ireturn, 1) := by decide +kernel
def f_X12_shortest_u25 (Q : Int → ml_St → Prop) (σ : ml_St) : Prop :=
Q (-1) σ
def f_X12_shortest_u53 (Q : Int → ml_St → Prop) (K74 : ml_St → Int → Int → Int → Prop) : Nat → ml_St → Int → Int → Int → Int → Prop
| 0, _, _, _, _, _ => False
| N + 1, σ, x3, x4, x5, x6 =>
(x6 = (-1) →
K74 σ x3 x4 x5) ∧
(x6 ≠ (-1) →
I32 (x5 + 1) ∧
∀ y2 : Int, y2 = x5 + 1 →
(0 : Int) ≤ x6 ∧ (x6 : Int) < 3800 ∧
∀ _ : I32 (σ 248 x6),
∀ y4 : Int, y4 = σ 248 x6 →
f_X12_shortest_u53 Q K74 N σ x3 x4 y2 y4)
def f_X12_shortest_u96 (Q : Int → ml_St → Prop) (K117 : ml_St → Int → Prop) : Nat → ml_St → Int → Int → Int → Prop
| 0, _, _, _, _ => False
| N + 1, σ, x3, x4, x6 =>
(x6 ≤ x3 →
K117 σ x4) ∧
(¬ (x6 ≤ x3) →
(0 : Int) ≤ x4 ∧ (x4 : Int) < 3800 ∧
∀ _ : I32 (σ 248 x4),
∀ y3 : Int, y3 = σ 248 x4 →
I32 (x6 + (-1)) ∧
∀ y4 : Int, y4 = x6 + (-1) →
f_X12_shortest_u96 Q K117 N σ x3 y3 y4)
def f_X12_shortest_u117 (Q : Int → ml_St → Prop) (σ : ml_St) (x4 : Int) : Prop :=
(0 : Int) ≤ x4 ∧ (x4 : Int) < 3800 ∧
∀ _ : I32 (σ 249 x4),
(0 : Int) ≤ (σ 249 x4) ∧ ((σ 249 x4) : Int) < 6 ∧
∀ _ : I32 (σ 237 (σ 249 x4)),
Q (σ 237 (σ 249 x4)) σ
def f_X12_shortest_u74 (Q : Int → ml_St → Prop) (σ : ml_St) (x3 : Int) (x4 : Int) (x5 : Int) : Prop :=
(x3 ≠ (-1) →
(x3 < x5 →
I32 (x5 - 1) ∧
∀ y4 : Int, y4 = x5 - 1 →
∃ N1, f_X12_shortest_u96 Q (f_X12_shortest_u117 Q) N1 σ x3 x4 y4) ∧
(¬ (x3 < x5) →
Q (-1) σ)) ∧
(x3 = (-1) →
Q x5 σ)
def f_X12_shortest_u0 (Q : Int → ml_St → Prop) (σ : ml_St) (x1 : Int) (x2 : Int) (x3 : Int) : Prop :=
f_X12_isLetters σ x1 (fun r1 σ1 => ∀ _ : ml_B r1,
(r1 = 0 →
f_X12_shortest_u25 Q σ1) ∧
(r1 ≠ 0 →
f_X12_lies σ1 x2 0 3 (fun r3 σ3 => ∀ _ : ml_B r3,
(r3 = 0 →
f_X12_shortest_u25 Q σ3) ∧
(r3 ≠ 0 →
((-1) ≤ x3 →
f_X12_joinsAll σ3 (fun σ6 =>
f_X12_ends σ6 x2 (fun r7 σ7 => ∀ _ : I32 r7,
(r7 ≠ (-1) →
∃ N1, f_X12_shortest_u53 Q (f_X12_shortest_u74 Q) N1 σ7 x3 r7 0 r7) ∧
(r7 = (-1) →
Q (-1) σ7)))) ∧
(¬ ((-1) ≤ x3) →
f_X12_shortest_u25 Q σ3)))))
def f_X12_shortest (σ : ml_St) (x1 : Int) (x2 : Int) (x3 : Int) (Q : Int → ml_St → Prop) : Prop := f_X12_shortest_u0 Q σ x1 x2 x3
def rm_X12_shortest : Room := { frames := 4, cells := 0, slots := 0, locals := 92 }
set_option maxRecDepth 100000 in
set_option maxHeartbeats 4000000 in
theorem u_X12_shortest_25 {p : Program} {e : Env} {s : State} {m : MethodId} {args : Array Value} {below : List Frame} {meth : Method} {c : Code} {base : Nat} {D : va_G} {cA : Nat → ClassId} {n : Nat} {l : Launch} {Q : Int → ml_St → Prop} (X : ml_X p s m c meth args D cA cX12_shortest 7 RX12 (some .int)) (hn : 256 ≤ n) (σ : ml_St) (ls : Array Slot) (hl : lv_has ls 7 []) (hw : f_X12_shortest_u25 Q σ) : ml_V p l e rm_X12_shortest s m args below meth c (MQ below (ml_Qi I32 base D cA n Q) args s 0 0 (ml_A base)) base D cA 0 0 n n σ (F0 m 25 ls []) := by
  unfold f_X12_shortest_u25 at hw
  refine ml_iconst (pc := 25) X dX12_shortest_25 ?_
  exact ml_iret (pc := 26) X ⟨by decide, by decide⟩ hw dX12_shortest_26
set_option maxRecDepth 100000 in
set_option maxHeartbeats 4000000 in
theorem u_X12_shortest_53 {p : Program} {e : Env} {s : State} {m : MethodId} {args : Array Value} {below : List Frame} {meth : Method} {c : Code} {base : Nat} {D : va_G} {cA : Nat → ClassId} {n : Nat} {l : Launch} {Q : Int → ml_St → Prop} {K74 : ml_St → Int → Int → Int → Prop} (X : ml_X p s m c meth args D cA cX12_shortest 7 RX12 (some .int)) (hn : 256 ≤ n) (hK74 : ∀ (σ : ml_St) (x3 : Int) (x4 : Int) (x5 : Int) (h_x3 : I32 x3) (h_x4 : I32 x4) (h_x5 : I32 x5) (ls : Array Slot), lv_has ls 7 [(0, .ref (base + (215 : Int).toNat)), (3, .int (Int32.ofInt x3)), (4, .int (Int32.ofInt x4)), (5, .int (Int32.ofInt x5))] → K74 σ x3 x4 x5 → ml_V p l e rm_X12_shortest s m args below meth c (MQ below (ml_Qi I32 base D cA n Q) args s 0 0 (ml_A base)) base D cA 0 0 n n σ (F0 m 74 ls [])) : ∀ (N : Nat) (σ : ml_St) (x3 : Int) (x4 : Int) (x5 : Int) (x6 : Int) (h_x3 : I32 x3) (h_x4 : I32 x4) (h_x5 : I32 x5) (h_x6 : I32 x6) (ls : Array Slot), lv_has ls 7 [(0, .ref (base + (215 : Int).toNat)), (3, .int (Int32.ofInt x3)), (4, .int (Int32.ofInt x4)), (5, .int (Int32.ofInt x5)), (6, .int (Int32.ofInt x6))] → f_X12_shortest_u53 Q K74 N σ x3 x4 x5 x6 → ml_V p l e rm_X12_shortest s m args below meth c (MQ below (ml_Qi I32 base D cA n Q) args s 0 0 (ml_A base)) base D cA 0 0 n n σ (F0 m 53 ls []) := by
  intro N
  induction N with
  | zero => intro σ x3 x4 x5 x6 h_x3 h_x4 h_x5 h_x6 ls hl hw; exact False.elim hw
  | succ N ih =>
    intro σ x3 x4 x5 x6 h_x3 h_x4 h_x5 h_x6 ls hl hw
    unfold f_X12_shortest_u53 at hw
    refine ml_iload (pc := 53) X hl 4 rfl dX12_shortest_53 ?_
    refine ml_iconst (pc := 55) X dX12_shortest_55 ?_
    refine ml_icmp_eq (pc := 56) (tgt := 74) X h_x6 ⟨by decide, by decide⟩ dX12_shortest_56 (by decide) (fun c1 => ?_) (fun c1 => ?_)
    · have hw := hw.1 c1
      exact hK74 σ x3 x4 x5 h_x3 h_x4 h_x5 _ (lv_sub hl [0, 1, 2, 3] rfl) hw
    · have hw := hw.2 c1
      obtain ⟨v2, hw⟩ := hw
      obtain ⟨y2, e2⟩ : ∃ y : Int, y = x5 + 1 := ⟨_, rfl⟩
      have hw := hw y2 e2
      rw [← e2] at v2
      refine ml_iinc (pc := 59) X e2 hl 3 rfl (by decide) (lst' := [(5, .int (Int32.ofInt y2)), (0, .ref (base + (215 : Int).toNat)), (3, .int (Int32.ofInt x3)), (4, .int (Int32.ofInt x4)), (6, .int (Int32.ofInt x6))]) rfl dX12_shortest_59 (fun ls hl => ?_)
      refine ml_aload_n (pc := 62) X hl 1 rfl rfl dX12_shortest_62 ?_
      refine gf_X12_113 (pc := 63) X (ml_c215 hn) dX12_shortest_63 ?_
      refine ml_iload (pc := 66) X hl 4 rfl dX12_shortest_66 ?_
      obtain ⟨a3, b3, hw⟩ := hw
      refine ml_iald (pc := 68) (N := 3800) X (ml_c248 hn) a3 b3 dX12_shortest_68 (fun r3 => ?_)
      have hw := hw r3
      refine ml_topI (pc := 69) (fun y4 e4 => ?_)
      have hw := hw y4 e4
      have q4 : I32 y4 := by rw [e4]; exact r3
      refine ml_istore (pc := 69) X hl (by decide) (lst' := [(6, .int (Int32.ofInt y4)), (5, .int (Int32.ofInt y2)), (0, .ref (base + (215 : Int).toNat)), (3, .int (Int32.ofInt x3)), (4, .int (Int32.ofInt x4))]) rfl dX12_shortest_69 (fun ls hl => ?_)
      refine ml_goto (pc := 71) (tgt := 53) X dX12_shortest_71 (by decide) ?_
      exact ih σ x3 x4 y2 y4 h_x3 h_x4 v2 q4 _ (lv_sub hl [2, 3, 4, 1, 0] rfl) hw
set_option maxRecDepth 100000 in
set_option maxHeartbeats 4000000 in
theorem u_X12_shortest_96 {p : Program} {e : Env} {s : State} {m : MethodId} {args : Array Value} {below : List Frame} {meth : Method} {c : Code} {base : Nat} {D : va_G} {cA : Nat → ClassId} {n : Nat} {l : Launch} {Q : Int → ml_St → Prop} {K117 : ml_St → Int → Prop} (X : ml_X p s m c meth args D cA cX12_shortest 7 RX12 (some .int)) (hn : 256 ≤ n) (hK117 : ∀ (σ : ml_St) (x4 : Int) (h_x4 : I32 x4) (ls : Array Slot), lv_has ls 7 [(0, .ref (base + (215 : Int).toNat)), (4, .int (Int32.ofInt x4))] → K117 σ x4 → ml_V p l e rm_X12_shortest s m args below meth c (MQ below (ml_Qi I32 base D cA n Q) args s 0 0 (ml_A base)) base D cA 0 0 n n σ (F0 m 117 ls [])) : ∀ (N : Nat) (σ : ml_St) (x3 : Int) (x4 : Int) (x6 : Int) (h_x3 : I32 x3) (h_x4 : I32 x4) (h_x6 : I32 x6) (ls : Array Slot), lv_has ls 7 [(0, .ref (base + (215 : Int).toNat)), (3, .int (Int32.ofInt x3)), (4, .int (Int32.ofInt x4)), (6, .int (Int32.ofInt x6))] → f_X12_shortest_u96 Q K117 N σ x3 x4 x6 → ml_V p l e rm_X12_shortest s m args below meth c (MQ below (ml_Qi I32 base D cA n Q) args s 0 0 (ml_A base)) base D cA 0 0 n n σ (F0 m 96 ls []) := by
  intro N
  induction N with
  | zero => intro σ x3 x4 x6 h_x3 h_x4 h_x6 ls hl hw; exact False.elim hw
  | succ N ih =>
    intro σ x3 x4 x6 h_x3 h_x4 h_x6 ls hl hw
    unfold f_X12_shortest_u96 at hw
    refine ml_iload (pc := 96) X hl 3 rfl dX12_shortest_96 ?_
    refine ml_iload_n (pc := 98) X hl 1 rfl rfl dX12_shortest_98 ?_
    refine ml_icmp_le (pc := 99) (tgt := 117) X h_x6 h_x3 dX12_shortest_99 (by decide) (fun c1 => ?_) (fun c1 => ?_)
    · have hw := hw.1 c1
      exact hK117 σ x4 h_x4 _ (lv_sub hl [0, 2] rfl) hw
    · have hw := hw.2 c1
      refine ml_aload_n (pc := 102) X hl 0 rfl rfl dX12_shortest_102 ?_
      refine gf_X12_113 (pc := 103) X (ml_c215 hn) dX12_shortest_103 ?_
      refine ml_iload (pc := 106) X hl 2 rfl dX12_shortest_106 ?_
      obtain ⟨a2, b2, hw⟩ := hw
      refine ml_iald (pc := 108) (N := 3800) X (ml_c248 hn) a2 b2 dX12_shortest_108 (fun r2 => ?_)
      have hw := hw r2
      refine ml_topI (pc := 109) (fun y3 e3 => ?_)
      have hw := hw y3 e3
      have q3 : I32 y3 := by rw [e3]; exact r2
      refine ml_istore (pc := 109) X hl (by decide) (lst' := [(4, .int (Int32.ofInt y3)), (0, .ref (base + (215 : Int).toNat)), (3, .int (Int32.ofInt x3)), (6, .int (Int32.ofInt x6))]) rfl dX12_shortest_109 (fun ls hl => ?_)
      obtain ⟨v4, hw⟩ := hw
      obtain ⟨y4, e4⟩ : ∃ y : Int, y = x6 + (-1) := ⟨_, rfl⟩
      have hw := hw y4 e4
      rw [← e4] at v4
      refine ml_iinc (pc := 111) X e4 hl 3 rfl (by decide) (lst' := [(6, .int (Int32.ofInt y4)), (4, .int (Int32.ofInt y3)), (0, .ref (base + (215 : Int).toNat)), (3, .int (Int32.ofInt x3))]) rfl dX12_shortest_111 (fun ls hl => ?_)
      refine ml_goto (pc := 114) (tgt := 96) X dX12_shortest_114 (by decide) ?_
      exact ih σ x3 y3 y4 h_x3 q3 v4 _ (lv_sub hl [2, 3, 1, 0] rfl) hw
set_option maxRecDepth 100000 in
set_option maxHeartbeats 4000000 in
theorem u_X12_shortest_117 {p : Program} {e : Env} {s : State} {m : MethodId} {args : Array Value} {below : List Frame} {meth : Method} {c : Code} {base : Nat} {D : va_G} {cA : Nat → ClassId} {n : Nat} {l : Launch} {Q : Int → ml_St → Prop} (X : ml_X p s m c meth args D cA cX12_shortest 7 RX12 (some .int)) (hn : 256 ≤ n) (σ : ml_St) (x4 : Int) (h_x4 : I32 x4) (ls : Array Slot) (hl : lv_has ls 7 [(0, .ref (base + (215 : Int).toNat)), (4, .int (Int32.ofInt x4))]) (hw : f_X12_shortest_u117 Q σ x4) : ml_V p l e rm_X12_shortest s m args below meth c (MQ below (ml_Qi I32 base D cA n Q) args s 0 0 (ml_A base)) base D cA 0 0 n n σ (F0 m 117 ls []) := by
  unfold f_X12_shortest_u117 at hw
  refine ml_aload_n (pc := 117) X hl 0 rfl rfl dX12_shortest_117 ?_
  refine gf_X12_80 (pc := 118) X (ml_c215 hn) dX12_shortest_118 ?_
  refine ml_aload_n (pc := 121) X hl 0 rfl rfl dX12_shortest_121 ?_
  refine gf_X12_116 (pc := 122) X (ml_c215 hn) dX12_shortest_122 ?_
  refine ml_iload (pc := 125) X hl 1 rfl dX12_shortest_125 ?_
  obtain ⟨a1, b1, hw⟩ := hw
  refine ml_iald (pc := 127) (N := 3800) X (ml_c249 hn) a1 b1 dX12_shortest_127 (fun r1 => ?_)
  have hw := hw r1
  obtain ⟨a2, b2, hw⟩ := hw
  refine ml_iald (pc := 128) (N := 6) X (ml_c237 hn) a2 b2 dX12_shortest_128 (fun r2 => ?_)
  have hw := hw r2
  exact ml_iret (pc := 129) X r2 hw dX12_shortest_129
set_option maxRecDepth 100000 in
set_option maxHeartbeats 4000000 in
theorem u_X12_shortest_74 {p : Program} {e : Env} {s : State} {m : MethodId} {args : Array Value} {below : List Frame} {meth : Method} {c : Code} {base : Nat} {D : va_G} {cA : Nat → ClassId} {n : Nat} {l : Launch} {Q : Int → ml_St → Prop} (X : ml_X p s m c meth args D cA cX12_shortest 7 RX12 (some .int)) (hn : 256 ≤ n) (σ : ml_St) (x3 : Int) (x4 : Int) (x5 : Int) (h_x3 : I32 x3) (h_x4 : I32 x4) (h_x5 : I32 x5) (ls : Array Slot) (hl : lv_has ls 7 [(0, .ref (base + (215 : Int).toNat)), (3, .int (Int32.ofInt x3)), (4, .int (Int32.ofInt x4)), (5, .int (Int32.ofInt x5))]) (hw : f_X12_shortest_u74 Q σ x3 x4 x5) : ml_V p l e rm_X12_shortest s m args below meth c (MQ below (ml_Qi I32 base D cA n Q) args s 0 0 (ml_A base)) base D cA 0 0 n n σ (F0 m 74 ls []) := by
  unfold f_X12_shortest_u74 at hw
  refine ml_iload_n (pc := 74) X hl 1 rfl rfl dX12_shortest_74 ?_
  refine ml_iconst (pc := 75) X dX12_shortest_75 ?_
  refine ml_icmp_ne (pc := 76) (tgt := 82) X h_x3 ⟨by decide, by decide⟩ dX12_shortest_76 (by decide) (fun c1 => ?_) (fun c1 => ?_)
  · have hw := hw.1 c1
    refine ml_iload_n (pc := 82) X hl 1 rfl rfl dX12_shortest_82 ?_
    refine ml_iload (pc := 83) X hl 3 rfl dX12_shortest_83 ?_
    refine ml_icmp_lt (pc := 85) (tgt := 90) X h_x3 h_x5 dX12_shortest_85 (by decide) (fun c2 => ?_) (fun c2 => ?_)
    · have hw := hw.1 c2
      refine ml_iload (pc := 90) X hl 3 rfl dX12_shortest_90 ?_
      refine ml_iconst (pc := 92) X dX12_shortest_92 ?_
      obtain ⟨v3, hw⟩ := hw
      refine ml_isub (pc := 93) X dX12_shortest_93 ?_
      refine ml_topI (pc := 94) (fun y4 e4 => ?_)
      have hw := hw y4 e4
      have q4 : I32 y4 := by rw [e4]; exact v3
      refine ml_istore (pc := 94) X hl (by decide) (lst' := [(6, .int (Int32.ofInt y4)), (0, .ref (base + (215 : Int).toNat)), (3, .int (Int32.ofInt x3)), (4, .int (Int32.ofInt x4)), (5, .int (Int32.ofInt x5))]) rfl dX12_shortest_94 (fun ls hl => ?_)
      obtain ⟨N0, hw⟩ := hw
      exact u_X12_shortest_96 X hn (fun σ x4 h_x4 ls hl hw => u_X12_shortest_117 X hn σ x4 h_x4 ls hl hw) N0 σ x3 x4 y4 h_x3 h_x4 q4 _ (lv_sub hl [1, 2, 3, 0] rfl) hw
    · have hw := hw.2 c2
      refine ml_iconst (pc := 88) X dX12_shortest_88 ?_
      exact ml_iret (pc := 89) X ⟨by decide, by decide⟩ hw dX12_shortest_89
  · have hw := hw.2 c1
    refine ml_iload (pc := 79) X hl 3 rfl dX12_shortest_79 ?_
    exact ml_iret (pc := 81) X h_x5 hw dX12_shortest_81
set_option maxRecDepth 100000 in
set_option maxHeartbeats 4000000 in
theorem u_X12_shortest_0 {p : Program} {e : Env} {s : State} {m : MethodId} {args : Array Value} {below : List Frame} {meth : Method} {c : Code} {base : Nat} {D : va_G} {cA : Nat → ClassId} {n : Nat} {l : Launch} {Q : Int → ml_St → Prop} (X : ml_X p s m c meth args D cA cX12_shortest 7 RX12 (some .int)) (hn : 256 ≤ n) (σ : ml_St) (x1 : Int) (x2 : Int) (x3 : Int) (h_x1 : I32 x1) (h_x2 : I32 x2) (h_x3 : I32 x3) (ls : Array Slot) (hl : lv_has ls 7 [(0, .ref (base + (215 : Int).toNat)), (1, .int (Int32.ofInt x1)), (2, .int (Int32.ofInt x2)), (3, .int (Int32.ofInt x3))]) (hw : f_X12_shortest_u0 Q σ x1 x2 x3) : ml_V p l e rm_X12_shortest s m args below meth c (MQ below (ml_Qi I32 base D cA n Q) args s 0 0 (ml_A base)) base D cA 0 0 n n σ (F0 m 0 ls []) := by
  unfold f_X12_shortest_u0 at hw
  refine ml_aload_n (pc := 0) X hl 0 rfl rfl dX12_shortest_0 ?_
  refine ml_iload_n (pc := 1) X hl 1 rfl rfl dX12_shortest_1 ?_
  refine ml_callzV (pc := 2) (rest := []) X [.int (Int32.ofInt x1)] (by decide) rfl (ml_c215 hn) (c_X12_isLetters l base D cA n hn σ x1 h_x1 _ hw) cv_X12_379 ⟨rfl, rfl⟩ ⟨by decide, by decide⟩ rfl rfl hl (Nat.le_of_ble_eq_true rfl) ⟨Nat.zero_le _, Nat.zero_le _⟩ dX12_shortest_2 (fun r1 σ1 t1 hw => ?_)
  have hw := hw t1
  refine ml_if_eq (pc := 5) (tgt := 25) X t1.i dX12_shortest_5 (by decide) (fun c2 => ?_) (fun c2 => ?_)
  · have hw := hw.1 c2
    exact u_X12_shortest_25 X hn σ1   _ (lv_sub hl [] rfl) hw
  · have hw := hw.2 c2
    refine ml_iload_n (pc := 8) X hl 2 rfl rfl dX12_shortest_8 ?_
    refine ml_i2l (pc := 9) X h_x2 dX12_shortest_9 ?_
    refine ml_lconst0 (pc := 10) X dX12_shortest_10 ?_
    refine ml_ldc2 (pc := 11) (v := 3) X dX12_shortest_11 tc_6_133 ?_
    refine ml_callzS (pc := 14) (rest := []) X [.long (Int64.ofInt x2), .long (Int64.ofInt 0), .long (Int64.ofInt 3)] (c_X12_lies l base D cA n hn σ1 x2 0 3 (h_x2).l ⟨by decide, by decide⟩ ⟨by decide, by decide⟩ _ hw) cv_X12_143 ⟨rfl, rfl⟩ ⟨by decide, by decide⟩ rfl rfl hl (Nat.le_of_ble_eq_true rfl) ⟨Nat.zero_le _, Nat.zero_le _⟩ dX12_shortest_14 (fun r3 σ3 t3 hw => ?_)
    have hw := hw t3
    refine ml_if_eq (pc := 17) (tgt := 25) X t3.i dX12_shortest_17 (by decide) (fun c4 => ?_) (fun c4 => ?_)
    · have hw := hw.1 c4
      exact u_X12_shortest_25 X hn σ3   _ (lv_sub hl [] rfl) hw
    · have hw := hw.2 c4
      refine ml_iload_n (pc := 20) X hl 3 rfl rfl dX12_shortest_20 ?_
      refine ml_iconst (pc := 21) X dX12_shortest_21 ?_
      refine ml_icmp_ge (pc := 22) (tgt := 27) X h_x3 ⟨by decide, by decide⟩ dX12_shortest_22 (by decide) (fun c5 => ?_) (fun c5 => ?_)
      · have hw := hw.1 c5
        refine ml_aload_n (pc := 27) X hl 0 rfl rfl dX12_shortest_27 ?_
        refine ml_callvV (pc := 28) (rest := []) X [] (by decide) rfl (ml_c215 hn) (c_X12_joinsAll l base D cA n hn σ3 _ hw) cv_X12_384 ⟨rfl, rfl⟩ ⟨by decide, by decide⟩ rfl rfl hl (Nat.le_of_ble_eq_true rfl) ⟨Nat.zero_le _, Nat.zero_le _⟩ dX12_shortest_28 (fun σ6 hw => ?_)
        refine ml_aload_n (pc := 31) X hl 0 rfl rfl dX12_shortest_31 ?_
        refine ml_iload_n (pc := 32) X hl 2 rfl rfl dX12_shortest_32 ?_
        refine ml_calliV (pc := 33) (rest := []) X [.int (Int32.ofInt x2)] (by decide) rfl (ml_c215 hn) (c_X12_ends l base D cA n hn σ6 x2 h_x2 _ hw) cv_X12_395 ⟨rfl, rfl⟩ ⟨by decide, by decide⟩ rfl rfl hl (Nat.le_of_ble_eq_true rfl) ⟨Nat.zero_le _, Nat.zero_le _⟩ dX12_shortest_33 (fun r7 σ7 t7 hw => ?_)
        have hw := hw t7
        refine ml_istore (pc := 36) X hl (by decide) (lst' := [(4, .int (Int32.ofInt r7)), (0, .ref (base + (215 : Int).toNat)), (1, .int (Int32.ofInt x1)), (2, .int (Int32.ofInt x2)), (3, .int (Int32.ofInt x3))]) rfl dX12_shortest_36 (fun ls hl => ?_)
        refine ml_iload (pc := 38) X hl 0 rfl dX12_shortest_38 ?_
        refine ml_iconst (pc := 40) X dX12_shortest_40 ?_
        refine ml_icmp_ne (pc := 41) (tgt := 46) X t7 ⟨by decide, by decide⟩ dX12_shortest_41 (by decide) (fun c8 => ?_) (fun c8 => ?_)
        · have hw := hw.1 c8
          refine ml_iconst (pc := 46) X dX12_shortest_46 ?_
          refine ml_istore (pc := 47) X hl (by decide) (lst' := [(5, .int (Int32.ofInt 0)), (4, .int (Int32.ofInt r7)), (0, .ref (base + (215 : Int).toNat)), (1, .int (Int32.ofInt x1)), (2, .int (Int32.ofInt x2)), (3, .int (Int32.ofInt x3))]) rfl dX12_shortest_47 (fun ls hl => ?_)
          refine ml_iload (pc := 49) X hl 1 rfl dX12_shortest_49 ?_
          refine ml_istore (pc := 51) X hl (by decide) (lst' := [(6, .int (Int32.ofInt r7)), (5, .int (Int32.ofInt 0)), (4, .int (Int32.ofInt r7)), (0, .ref (base + (215 : Int).toNat)), (1, .int (Int32.ofInt x1)), (2, .int (Int32.ofInt x2)), (3, .int (Int32.ofInt x3))]) rfl dX12_shortest_51 (fun ls hl => ?_)
          obtain ⟨N0, hw⟩ := hw
          exact u_X12_shortest_53 X hn (fun σ x3 x4 x5 h_x3 h_x4 h_x5 ls hl hw => u_X12_shortest_74 X hn σ x3 x4 x5 h_x3 h_x4 h_x5 ls hl hw) N0 σ7 x3 r7 0 r7 h_x3 t7 ⟨by decide, by decide⟩ t7 _ (lv_sub hl [3, 6, 2, 1, 0] rfl) hw
        · have hw := hw.2 c8
          refine ml_iconst (pc := 44) X dX12_shortest_44 ?_
          exact ml_iret (pc := 45) X ⟨by decide, by decide⟩ hw dX12_shortest_45
      · have hw := hw.2 c5
        exact u_X12_shortest_25 X hn σ3   _ (lv_sub hl [] rfl) hw
set_option maxRecDepth 100000 in
theorem c_X12_shortest (l : Launch) (base : Nat) (D : va_G) (cA : Nat → ClassId) (n : Nat) (hn : 256 ≤ n) (σ : ml_St) (x1 : Int) (x2 : Int) (x3 : Int) (h_x1 : I32 x1) (h_x2 : I32 x2) (h_x3 : I32 x3) (Q : Int → ml_St → Prop) (hw : f_X12_shortest σ x1 x2 x3 Q) : Met l yX12_shortest (Cond.code yX12_shortest cX12_shortest 7 (some .int) :: ml_T) rm_X12_shortest (va_Pc [.ref (base + (215 : Int).toNat), .int (Int32.ofInt x1), .int (Int32.ofInt x2), .int (Int32.ofInt x3)] (ml_U base D cA n σ)) (ml_Qi I32 base D cA n Q) 0 0 (ml_A base) := by
  refine Met.ofW (cc := cX12_shortest) (maxL := 7) (ret := (some .int)) (by decide) rfl ?_
  intro p e s m args below meth c s₁ B hml hv
  obtain ⟨rfl, hP, hK, hok, hro⟩ := hv
  have X : ml_X p s m c meth _ D cA cX12_shortest 7 RX12 (some .int) := ⟨B.exec, B.bytes, hml, findClass_of_methodNamed B.named, fun w hw => atoms_spec (ws := Cond.code yX12_shortest cX12_shortest 7 (some .int) :: ml_T) B.pre w (List.mem_cons_of_mem _ hw), hK, B.notSynchronized, B.returns⟩
  have hl := lv_entry [.ref (base + (215 : Int).toNat), .int (Int32.ofInt x1), .int (Int32.ofInt x2), .int (Int32.ofInt x3)] (n := 7) (Nat.le_of_ble_eq_true rfl)
  rw [lg_entry_eq]
  generalize (lg_sl [.ref (base + (215 : Int).toNat), .int (Int32.ofInt x1), .int (Int32.ofInt x2), .int (Int32.ofInt x3)] ++ List.replicate (7 - (lg_sl [.ref (base + (215 : Int).toNat), .int (Int32.ofInt x1), .int (Int32.ofInt x2), .int (Int32.ofInt x3)]).length) Slot.unset).toArray = ls at hl ⊢
  have hl : lv_has ls 7 [(0, .ref (base + (215 : Int).toNat)), (1, .int (Int32.ofInt x1)), (2, .int (Int32.ofInt x2)), (3, .int (Int32.ofInt x3))] := hl
  unfold f_X12_shortest at hw
  exact u_X12_shortest_0 X hn σ x1 x2 x3 h_x1 h_x2 h_x3 _ (lv_sub hl [0, 1, 2, 3] rfl) hw s.heap [] hP va_S.rf hok hro
theorem dX12_cost_0 : decode cX12_cost 0 = .ok (.aload_n 0, 1) := by decide +kernel
theorem dX12_cost_1 : decode cX12_cost 1 = .ok (.iload_n 1, 1) := by decide +kernel
theorem dX12_cost_2 : decode cX12_cost 2 = .ok (.invokevirtual 287, 3) := by decide +kernel
theorem dX12_cost_5 : decode cX12_cost 5 = .ok (.ifCond .eq 15, 3) := by decide +kernel
theorem dX12_cost_8 : decode cX12_cost 8 = .ok (.iload_n 2, 1) := by decide +kernel
theorem dX12_cost_9 : decode cX12_cost 9 = .ok (.i2l, 1) := by decide +kernel
theorem dX12_cost_10 : decode cX12_cost 10 = .ok (.lconst 1, 1) := by decide +kernel
theorem dX12_cost_11 : decode cX12_cost 11 = .ok (.ldc2_w 382, 3) := by decide +kernel
theorem dX12_cost_14 : decode cX12_cost 14 = .ok (.invokestatic 143, 3) := by decide +kernel
theorem dX12_cost_17 : decode cX12_cost 17 = .ok (.ifCond .ne 5, 3) := by decide +kernel
theorem dX12_cost_20 : decode cX12_cost 20 = .ok (.iconst 0, 1) := by decide +kernel
theorem dX12_cost_21 : decode cX12_cost 21 = .ok (.ireturn, 1) := by decide +kernel
theorem dX12_cost_22 : decode cX12_cost 22 = .ok (.aload_n 0, 1) := by decide +kernel
theorem dX12_cost_23 : decode cX12_cost 23 = .ok (.getfield 27, 3) := by decide +kernel
theorem dX12_cost_26 : decode cX12_cost 26 = .ok (.iload_n 1, 1) := by decide +kernel
theorem dX12_cost_27 : decode cX12_cost 27 = .ok (.iload_n 2, 1) := by decide +kernel
theorem dX12_cost_28 : decode cX12_cost 28 = .ok (.iastore, 1) := by decide +kernel
theorem dX12_cost_29 : decode cX12_cost 29 = .ok (.iconst 1, 1) := by decide +kernel
theorem dX12_cost_30 : decode cX12_cost 30 = .ok (.ireturn, 1) := by decide +kernel
def f_X12_cost_u20 (Q : Int → ml_St → Prop) (σ : ml_St) : Prop :=
Q 0 σ
def f_X12_cost_u0 (Q : Int → ml_St → Prop) (σ : ml_St) (x1 : Int) (x2 : Int) : Prop :=
f_X12_isWord σ x1 (fun r1 σ1 => ∀ _ : ml_B r1,
(r1 = 0 →
f_X12_cost_u20 Q σ1) ∧
(r1 ≠ 0 →
f_X12_lies σ1 x2 1 1000 (fun r3 σ3 => ∀ _ : ml_B r3,
(r3 ≠ 0 →
(0 : Int) ≤ x1 ∧ (x1 : Int) < 16 ∧
∀ σ5, σ5 = ml_up σ3 220 x1 x2 →
Q 1 σ5) ∧
(r3 = 0 →
f_X12_cost_u20 Q σ3))))
def f_X12_cost (σ : ml_St) (x1 : Int) (x2 : Int) (Q : Int → ml_St → Prop) : Prop := f_X12_cost_u0 Q σ x1 x2
def rm_X12_cost : Room := { frames := 2, cells := 0, slots := 0, locals := 46 }
set_option maxRecDepth 100000 in
set_option maxHeartbeats 4000000 in
theorem u_X12_cost_20 {p : Program} {e : Env} {s : State} {m : MethodId} {args : Array Value} {below : List Frame} {meth : Method} {c : Code} {base : Nat} {D : va_G} {cA : Nat → ClassId} {n : Nat} {l : Launch} {Q : Int → ml_St → Prop} (X : ml_X p s m c meth args D cA cX12_cost 3 RX12 (some .boolean)) (hn : 256 ≤ n) (σ : ml_St) (ls : Array Slot) (hl : lv_has ls 3 []) (hw : f_X12_cost_u20 Q σ) : ml_V p l e rm_X12_cost s m args below meth c (MQ below (ml_Qi ml_B base D cA n Q) args s 0 0 (ml_A base)) base D cA 0 0 n n σ (F0 m 20 ls []) := by
  unfold f_X12_cost_u20 at hw
  refine ml_iconst (pc := 20) X dX12_cost_20 ?_
  exact ml_zret (pc := 21) X ⟨by decide, by decide⟩ hw dX12_cost_21
set_option maxRecDepth 100000 in
set_option maxHeartbeats 4000000 in
theorem u_X12_cost_0 {p : Program} {e : Env} {s : State} {m : MethodId} {args : Array Value} {below : List Frame} {meth : Method} {c : Code} {base : Nat} {D : va_G} {cA : Nat → ClassId} {n : Nat} {l : Launch} {Q : Int → ml_St → Prop} (X : ml_X p s m c meth args D cA cX12_cost 3 RX12 (some .boolean)) (hn : 256 ≤ n) (σ : ml_St) (x1 : Int) (x2 : Int) (h_x1 : I32 x1) (h_x2 : I32 x2) (ls : Array Slot) (hl : lv_has ls 3 [(0, .ref (base + (215 : Int).toNat)), (1, .int (Int32.ofInt x1)), (2, .int (Int32.ofInt x2))]) (hw : f_X12_cost_u0 Q σ x1 x2) : ml_V p l e rm_X12_cost s m args below meth c (MQ below (ml_Qi ml_B base D cA n Q) args s 0 0 (ml_A base)) base D cA 0 0 n n σ (F0 m 0 ls []) := by
  unfold f_X12_cost_u0 at hw
  refine ml_aload_n (pc := 0) X hl 0 rfl rfl dX12_cost_0 ?_
  refine ml_iload_n (pc := 1) X hl 1 rfl rfl dX12_cost_1 ?_
  refine ml_callzV (pc := 2) (rest := []) X [.int (Int32.ofInt x1)] (by decide) rfl (ml_c215 hn) (c_X12_isWord l base D cA n hn σ x1 h_x1 _ hw) cv_X12_287 ⟨rfl, rfl⟩ ⟨by decide, by decide⟩ rfl rfl hl (Nat.le_of_ble_eq_true rfl) ⟨Nat.zero_le _, Nat.zero_le _⟩ dX12_cost_2 (fun r1 σ1 t1 hw => ?_)
  have hw := hw t1
  refine ml_if_eq (pc := 5) (tgt := 20) X t1.i dX12_cost_5 (by decide) (fun c2 => ?_) (fun c2 => ?_)
  · have hw := hw.1 c2
    exact u_X12_cost_20 X hn σ1   _ (lv_sub hl [] rfl) hw
  · have hw := hw.2 c2
    refine ml_iload_n (pc := 8) X hl 2 rfl rfl dX12_cost_8 ?_
    refine ml_i2l (pc := 9) X h_x2 dX12_cost_9 ?_
    refine ml_lconst1 (pc := 10) X dX12_cost_10 ?_
    refine ml_ldc2 (pc := 11) (v := 1000) X dX12_cost_11 tc_6_161 ?_
    refine ml_callzS (pc := 14) (rest := []) X [.long (Int64.ofInt x2), .long (Int64.ofInt 1), .long (Int64.ofInt 1000)] (c_X12_lies l base D cA n hn σ1 x2 1 1000 (h_x2).l ⟨by decide, by decide⟩ ⟨by decide, by decide⟩ _ hw) cv_X12_143 ⟨rfl, rfl⟩ ⟨by decide, by decide⟩ rfl rfl hl (Nat.le_of_ble_eq_true rfl) ⟨Nat.zero_le _, Nat.zero_le _⟩ dX12_cost_14 (fun r3 σ3 t3 hw => ?_)
    have hw := hw t3
    refine ml_if_ne (pc := 17) (tgt := 22) X t3.i dX12_cost_17 (by decide) (fun c4 => ?_) (fun c4 => ?_)
    · have hw := hw.1 c4
      refine ml_aload_n (pc := 22) X hl 0 rfl rfl dX12_cost_22 ?_
      refine gf_X12_27 (pc := 23) X (ml_c215 hn) dX12_cost_23 ?_
      refine ml_iload_n (pc := 26) X hl 1 rfl rfl dX12_cost_26 ?_
      refine ml_iload_n (pc := 27) X hl 2 rfl rfl dX12_cost_27 ?_
      obtain ⟨a5, b5, hw⟩ := hw
      refine ml_iast (pc := 28) (N := 16) X (ml_c220 hn) a5 b5 h_x2 dX12_cost_28 (fun σ5 g5 => ?_)
      have hw := hw σ5 g5
      refine ml_iconst (pc := 29) X dX12_cost_29 ?_
      exact ml_zret (pc := 30) X ⟨by decide, by decide⟩ hw dX12_cost_30
    · have hw := hw.2 c4
      exact u_X12_cost_20 X hn σ3   _ (lv_sub hl [] rfl) hw
set_option maxRecDepth 100000 in
theorem c_X12_cost (l : Launch) (base : Nat) (D : va_G) (cA : Nat → ClassId) (n : Nat) (hn : 256 ≤ n) (σ : ml_St) (x1 : Int) (x2 : Int) (h_x1 : I32 x1) (h_x2 : I32 x2) (Q : Int → ml_St → Prop) (hw : f_X12_cost σ x1 x2 Q) : Met l yX12_cost (Cond.code yX12_cost cX12_cost 3 (some .boolean) :: ml_T) rm_X12_cost (va_Pc [.ref (base + (215 : Int).toNat), .int (Int32.ofInt x1), .int (Int32.ofInt x2)] (ml_U base D cA n σ)) (ml_Qi ml_B base D cA n Q) 0 0 (ml_A base) := by
  refine Met.ofW (cc := cX12_cost) (maxL := 3) (ret := (some .boolean)) (by decide) rfl ?_
  intro p e s m args below meth c s₁ B hml hv
  obtain ⟨rfl, hP, hK, hok, hro⟩ := hv
  have X : ml_X p s m c meth _ D cA cX12_cost 3 RX12 (some .boolean) := ⟨B.exec, B.bytes, hml, findClass_of_methodNamed B.named, fun w hw => atoms_spec (ws := Cond.code yX12_cost cX12_cost 3 (some .boolean) :: ml_T) B.pre w (List.mem_cons_of_mem _ hw), hK, B.notSynchronized, B.returns⟩
  have hl := lv_entry [.ref (base + (215 : Int).toNat), .int (Int32.ofInt x1), .int (Int32.ofInt x2)] (n := 3) (Nat.le_of_ble_eq_true rfl)
  rw [lg_entry_eq]
  generalize (lg_sl [.ref (base + (215 : Int).toNat), .int (Int32.ofInt x1), .int (Int32.ofInt x2)] ++ List.replicate (3 - (lg_sl [.ref (base + (215 : Int).toNat), .int (Int32.ofInt x1), .int (Int32.ofInt x2)]).length) Slot.unset).toArray = ls at hl ⊢
  have hl : lv_has ls 3 [(0, .ref (base + (215 : Int).toNat)), (1, .int (Int32.ofInt x1)), (2, .int (Int32.ofInt x2))] := hl
  unfold f_X12_cost at hw
  exact u_X12_cost_0 X hn σ x1 x2 h_x1 h_x2 _ (lv_sub hl [0, 1, 2] rfl) hw s.heap [] hP va_S.rf hok hro
theorem dX12_best_0 : decode cX12_best 0 = .ok (.iconst (-1), 1) := by decide +kernel
theorem dX12_best_1 : decode cX12_best 1 = .ok (.istore_n 2, 1) := by decide +kernel
theorem dX12_best_2 : decode cX12_best 2 = .ok (.iconst 0, 1) := by decide +kernel
theorem dX12_best_3 : decode cX12_best 3 = .ok (.istore_n 3, 1) := by decide +kernel
theorem dX12_best_4 : decode cX12_best 4 = .ok (.iconst 0, 1) := by decide +kernel
theorem dX12_best_5 : decode cX12_best 5 = .ok (.istore 4, 2) := by decide +kernel
theorem dX12_best_7 : decode cX12_best 7 = .ok (.iconst 0, 1) := by decide +kernel
theorem dX12_best_8 : decode cX12_best 8 = .ok (.istore 5, 2) := by decide +kernel
theorem dX12_best_10 : decode cX12_best 10 = .ok (.iload 5, 2) := by decide +kernel
theorem dX12_best_12 : decode cX12_best 12 = .ok (.aload_n 0, 1) := by decide +kernel
theorem dX12_best_13 : decode cX12_best 13 = .ok (.getfield 364, 3) := by decide +kernel
theorem dX12_best_16 : decode cX12_best 16 = .ok (.if_icmp .ge 125, 3) := by decide +kernel
theorem dX12_best_19 : decode cX12_best 19 = .ok (.iload_n 1, 1) := by decide +kernel
theorem dX12_best_20 : decode cX12_best 20 = .ok (.iconst (-1), 1) := by decide +kernel
theorem dX12_best_21 : decode cX12_best 21 = .ok (.if_icmp .ne 13, 3) := by decide +kernel
theorem dX12_best_24 : decode cX12_best 24 = .ok (.aload_n 0, 1) := by decide +kernel
theorem dX12_best_25 : decode cX12_best 25 = .ok (.getfield 95, 3) := by decide +kernel
theorem dX12_best_28 : decode cX12_best 28 = .ok (.iload 5, 2) := by decide +kernel
theorem dX12_best_30 : decode cX12_best 30 = .ok (.iaload, 1) := by decide +kernel
theorem dX12_best_31 : decode cX12_best 31 = .ok (.goto 15, 3) := by decide +kernel
theorem dX12_best_34 : decode cX12_best 34 = .ok (.aload_n 0, 1) := by decide +kernel
theorem dX12_best_35 : decode cX12_best 35 = .ok (.getfield 89, 3) := by decide +kernel
theorem dX12_best_38 : decode cX12_best 38 = .ok (.bipush 6, 2) := by decide +kernel
theorem dX12_best_40 : decode cX12_best 40 = .ok (.iload_n 1, 1) := by decide +kernel
theorem dX12_best_41 : decode cX12_best 41 = .ok (.imul, 1) := by decide +kernel
theorem dX12_best_42 : decode cX12_best 42 = .ok (.iload 5, 2) := by decide +kernel
theorem dX12_best_44 : decode cX12_best 44 = .ok (.iadd, 1) := by decide +kernel
theorem dX12_best_45 : decode cX12_best 45 = .ok (.iaload, 1) := by decide +kernel
theorem dX12_best_46 : decode cX12_best 46 = .ok (.istore 6, 2) := by decide +kernel
theorem dX12_best_48 : decode cX12_best 48 = .ok (.aload_n 0, 1) := by decide +kernel
theorem dX12_best_49 : decode cX12_best 49 = .ok (.getfield 119, 3) := by decide +kernel
theorem dX12_best_52 : decode cX12_best 52 = .ok (.iload 6, 2) := by decide +kernel
theorem dX12_best_54 : decode cX12_best 54 = .ok (.iaload, 1) := by decide +kernel
theorem dX12_best_55 : decode cX12_best 55 = .ok (.iconst (-1), 1) := by decide +kernel
theorem dX12_best_56 : decode cX12_best 56 = .ok (.if_icmp .ne 6, 3) := by decide +kernel
theorem dX12_best_59 : decode cX12_best 59 = .ok (.goto 76, 3) := by decide +kernel
theorem dX12_best_62 : decode cX12_best 62 = .ok (.aload_n 0, 1) := by decide +kernel
theorem dX12_best_63 : decode cX12_best 63 = .ok (.getfield 119, 3) := by decide +kernel
theorem dX12_best_66 : decode cX12_best 66 = .ok (.iload 6, 2) := by decide +kernel
theorem dX12_best_68 : decode cX12_best 68 = .ok (.iaload, 1) := by decide +kernel
theorem dX12_best_69 : decode cX12_best 69 = .ok (.aload_n 0, 1) := by decide +kernel
theorem dX12_best_70 : decode cX12_best 70 = .ok (.getfield 27, 3) := by decide +kernel
theorem dX12_best_73 : decode cX12_best 73 = .ok (.aload_n 0, 1) := by decide +kernel
theorem dX12_best_74 : decode cX12_best 74 = .ok (.getfield 80, 3) := by decide +kernel
theorem dX12_best_77 : decode cX12_best 77 = .ok (.iload 5, 2) := by decide +kernel
theorem dX12_best_79 : decode cX12_best 79 = .ok (.iaload, 1) := by decide +kernel
theorem dX12_best_80 : decode cX12_best 80 = .ok (.iaload, 1) := by decide +kernel
theorem dX12_best_81 : decode cX12_best 81 = .ok (.iadd, 1) := by decide +kernel
theorem dX12_best_82 : decode cX12_best 82 = .ok (.istore 7, 2) := by decide +kernel
theorem dX12_best_84 : decode cX12_best 84 = .ok (.iload_n 2, 1) := by decide +kernel
theorem dX12_best_85 : decode cX12_best 85 = .ok (.iconst (-1), 1) := by decide +kernel
theorem dX12_best_86 : decode cX12_best 86 = .ok (.if_icmp .eq 32, 3) := by decide +kernel
theorem dX12_best_89 : decode cX12_best 89 = .ok (.iload 7, 2) := by decide +kernel
theorem dX12_best_91 : decode cX12_best 91 = .ok (.iload_n 3, 1) := by decide +kernel
theorem dX12_best_92 : decode cX12_best 92 = .ok (.if_icmp .gt 43, 3) := by decide +kernel
theorem dX12_best_95 : decode cX12_best 95 = .ok (.iload 7, 2) := by decide +kernel
theorem dX12_best_97 : decode cX12_best 97 = .ok (.iload_n 3, 1) := by decide +kernel
theorem dX12_best_98 : decode cX12_best 98 = .ok (.if_icmp .ne 20, 3) := by decide +kernel
theorem dX12_best_101 : decode cX12_best 101 = .ok (.aload_n 0, 1) := by decide +kernel
theorem dX12_best_102 : decode cX12_best 102 = .ok (.getfield 122, 3) := by decide +kernel
theorem dX12_best_105 : decode cX12_best 105 = .ok (.iload 6, 2) := by decide +kernel
theorem dX12_best_107 : decode cX12_best 107 = .ok (.iaload, 1) := by decide +kernel
theorem dX12_best_108 : decode cX12_best 108 = .ok (.iconst 1, 1) := by decide +kernel
theorem dX12_best_109 : decode cX12_best 109 = .ok (.iadd, 1) := by decide +kernel
theorem dX12_best_110 : decode cX12_best 110 = .ok (.iload 4, 2) := by decide +kernel
theorem dX12_best_112 : decode cX12_best 112 = .ok (.if_icmp .lt 6, 3) := by decide +kernel
theorem dX12_best_115 : decode cX12_best 115 = .ok (.goto 20, 3) := by decide +kernel
theorem dX12_best_118 : decode cX12_best 118 = .ok (.iload 5, 2) := by decide +kernel
theorem dX12_best_120 : decode cX12_best 120 = .ok (.istore_n 2, 1) := by decide +kernel
theorem dX12_best_121 : decode cX12_best 121 = .ok (.iload 7, 2) := by decide +kernel
theorem dX12_best_123 : decode cX12_best 123 = .ok (.istore_n 3, 1) := by decide +kernel
theorem dX12_best_124 : decode cX12_best 124 = .ok (.aload_n 0, 1) := by decide +kernel
theorem dX12_best_125 : decode cX12_best 125 = .ok (.getfield 122, 3) := by decide +kernel
theorem dX12_best_128 : decode cX12_best 128 = .ok (.iload 6, 2) := by decide +kernel
theorem dX12_best_130 : decode cX12_best 130 = .ok (.iaload, 1) := by decide +kernel
theorem dX12_best_131 : decode cX12_best 131 = .ok (.iconst 1, 1) := by decide +kernel
theorem dX12_best_132 : decode cX12_best 132 = .ok (.iadd, 1) := by decide +kernel
theorem dX12_best_133 : decode cX12_best 133 = .ok (.istore 4, 2) := by decide +kernel
theorem dX12_best_135 : decode cX12_best 135 = .ok (.iinc 5 1, 3) := by decide +kernel
theorem dX12_best_138 : decode cX12_best 138 = .ok (.goto (-128), 3) := by decide +kernel
theorem dX12_best_141 : decode cX12_best 141 = .ok (.iload_n 2, 1) := by decide +kernel
theorem dX12_best_142 : decode cX12_best 142 = .ok (.ireturn, 1) := by decide +kernel
def f_X12_best_u135 (Q : Int → ml_St → Prop) (K10 : ml_St → Int → Int → Int → Int → Int → Prop) (σ : ml_St) (x1 : Int) (x2 : Int) (x3 : Int) (x4 : Int) (x5 : Int) : Prop :=
I32 (x5 + 1) ∧
∀ y1 : Int, y1 = x5 + 1 →
K10 σ x1 x2 x3 x4 y1
def f_X12_best_u118 (Q : Int → ml_St → Prop) (K10 : ml_St → Int → Int → Int → Int → Int → Prop) (σ : ml_St) (x1 : Int) (x5 : Int) (x6 : Int) (x7 : Int) : Prop :=
(0 : Int) ≤ x6 ∧ (x6 : Int) < 950 ∧
∀ _ : I32 (σ 251 x6),
I32 ((σ 251 x6) + 1) ∧
∀ y3 : Int, y3 = (σ 251 x6) + 1 →
f_X12_best_u135 Q K10 σ x1 x5 x7 y3 x5
def f_X12_best_u46 (Q : Int → ml_St → Prop) (K10 : ml_St → Int → Int → Int → Int → Int → Prop) (σ : ml_St) (x1 : Int) (x2 : Int) (x3 : Int) (x4 : Int) (x5 : Int) (s0 : Int) : Prop :=
(0 : Int) ≤ s0 ∧ (s0 : Int) < 950 ∧
∀ _ : I32 (σ 250 s0),
(((σ 250 s0) : Int) ≠ (-1) →
(0 : Int) ≤ s0 ∧ (s0 : Int) < 950 ∧
∀ _ : I32 (σ 250 s0),
(0 : Int) ≤ x5 ∧ (x5 : Int) < 6 ∧
∀ _ : I32 (σ 237 x5),
(0 : Int) ≤ (σ 237 x5) ∧ ((σ 237 x5) : Int) < 16 ∧
∀ _ : I32 (σ 220 (σ 237 x5)),
I32 ((σ 250 s0) + (σ 220 (σ 237 x5))) ∧
∀ y7 : Int, y7 = (σ 250 s0) + (σ 220 (σ 237 x5)) →
(x2 = (-1) →
f_X12_best_u118 Q K10 σ x1 x5 s0 y7) ∧
(x2 ≠ (-1) →
(x3 < y7 →
f_X12_best_u135 Q K10 σ x1 x2 x3 x4 x5) ∧
(¬ (x3 < y7) →
(y7 ≠ x3 →
f_X12_best_u118 Q K10 σ x1 x5 s0 y7) ∧
(y7 = x3 →
(0 : Int) ≤ s0 ∧ (s0 : Int) < 950 ∧
∀ _ : I32 (σ 251 s0),
I32 ((σ 251 s0) + 1) ∧
(((σ 251 s0) + 1) < x4 →
f_X12_best_u118 Q K10 σ x1 x5 s0 y7) ∧
(¬ (((σ 251 s0) + 1) < x4) →
f_X12_best_u135 Q K10 σ x1 x2 x3 x4 x5))))) ∧
((σ 250 s0) = (-1) →
f_X12_best_u135 Q K10 σ x1 x2 x3 x4 x5)
def f_X12_best_u10 (Q : Int → ml_St → Prop) (K141 : ml_St → Int → Prop) : Nat → ml_St → Int → Int → Int → Int → Int → Prop
| 0, _, _, _, _, _, _ => False
| N + 1, σ, x1, x2, x3, x4, x5 =>
∀ _ : I32 (σ 215 38),
((σ 215 38) ≤ x5 →
K141 σ x2) ∧
(¬ ((σ 215 38) ≤ x5) →
(x1 ≠ (-1) →
I32 (6 * x1) ∧
I32 ((6 * x1) + x5) ∧
(0 : Int) ≤ ((6 * x1) + x5) ∧ (((6 * x1) + x5) : Int) < 5700 ∧
∀ _ : I32 (σ 240 ((6 * x1) + x5)),
f_X12_best_u46 Q (f_X12_best_u10 Q K141 N) σ x1 x2 x3 x4 x5 (σ 240 ((6 * x1) + x5))) ∧
(x1 = (-1) →
(0 : Int) ≤ x5 ∧ (x5 : Int) < 6 ∧
∀ _ : I32 (σ 242 x5),
f_X12_best_u46 Q (f_X12_best_u10 Q K141 N) σ x1 x2 x3 x4 x5 (σ 242 x5)))
def f_X12_best_u141 (Q : Int → ml_St → Prop) (σ : ml_St) (x2 : Int) : Prop :=
Q x2 σ
def f_X12_best_u0 (Q : Int → ml_St → Prop) (σ : ml_St) (x1 : Int) : Prop :=
∃ N1, f_X12_best_u10 Q (f_X12_best_u141 Q) N1 σ x1 (-1) 0 0 0
def f_X12_best (σ : ml_St) (x1 : Int) (Q : Int → ml_St → Prop) : Prop := f_X12_best_u0 Q σ x1
def rm_X12_best : Room := { frames := 0, cells := 0, slots := 0, locals := 0 }
set_option maxRecDepth 100000 in
set_option maxHeartbeats 4000000 in
theorem u_X12_best_135 {p : Program} {e : Env} {s : State} {m : MethodId} {args : Array Value} {below : List Frame} {meth : Method} {c : Code} {base : Nat} {D : va_G} {cA : Nat → ClassId} {n : Nat} {l : Launch} {Q : Int → ml_St → Prop} {K10 : ml_St → Int → Int → Int → Int → Int → Prop} (X : ml_X p s m c meth args D cA cX12_best 8 RX12 (some .int)) (hn : 256 ≤ n) (hK10 : ∀ (σ : ml_St) (x1 : Int) (x2 : Int) (x3 : Int) (x4 : Int) (x5 : Int) (h_x1 : I32 x1) (h_x2 : I32 x2) (h_x3 : I32 x3) (h_x4 : I32 x4) (h_x5 : I32 x5) (ls : Array Slot), lv_has ls 8 [(0, .ref (base + (215 : Int).toNat)), (1, .int (Int32.ofInt x1)), (2, .int (Int32.ofInt x2)), (3, .int (Int32.ofInt x3)), (4, .int (Int32.ofInt x4)), (5, .int (Int32.ofInt x5))] → K10 σ x1 x2 x3 x4 x5 → ml_V p l e rm_X12_best s m args below meth c (MQ below (ml_Qi I32 base D cA n Q) args s 0 0 (ml_A base)) base D cA 0 0 n n σ (F0 m 10 ls [])) (σ : ml_St) (x1 : Int) (x2 : Int) (x3 : Int) (x4 : Int) (x5 : Int) (h_x1 : I32 x1) (h_x2 : I32 x2) (h_x3 : I32 x3) (h_x4 : I32 x4) (h_x5 : I32 x5) (ls : Array Slot) (hl : lv_has ls 8 [(0, .ref (base + (215 : Int).toNat)), (1, .int (Int32.ofInt x1)), (2, .int (Int32.ofInt x2)), (3, .int (Int32.ofInt x3)), (4, .int (Int32.ofInt x4)), (5, .int (Int32.ofInt x5))]) (hw : f_X12_best_u135 Q K10 σ x1 x2 x3 x4 x5) : ml_V p l e rm_X12_best s m args below meth c (MQ below (ml_Qi I32 base D cA n Q) args s 0 0 (ml_A base)) base D cA 0 0 n n σ (F0 m 135 ls []) := by
  unfold f_X12_best_u135 at hw
  obtain ⟨v1, hw⟩ := hw
  obtain ⟨y1, e1⟩ : ∃ y : Int, y = x5 + 1 := ⟨_, rfl⟩
  have hw := hw y1 e1
  rw [← e1] at v1
  refine ml_iinc (pc := 135) X e1 hl 5 rfl (by decide) (lst' := [(5, .int (Int32.ofInt y1)), (0, .ref (base + (215 : Int).toNat)), (1, .int (Int32.ofInt x1)), (2, .int (Int32.ofInt x2)), (3, .int (Int32.ofInt x3)), (4, .int (Int32.ofInt x4))]) rfl dX12_best_135 (fun ls hl => ?_)
  refine ml_goto (pc := 138) (tgt := 10) X dX12_best_138 (by decide) ?_
  exact hK10 σ x1 x2 x3 x4 y1 h_x1 h_x2 h_x3 h_x4 v1 _ (lv_sub hl [1, 2, 3, 4, 5, 0] rfl) hw
set_option maxRecDepth 100000 in
set_option maxHeartbeats 4000000 in
theorem u_X12_best_118 {p : Program} {e : Env} {s : State} {m : MethodId} {args : Array Value} {below : List Frame} {meth : Method} {c : Code} {base : Nat} {D : va_G} {cA : Nat → ClassId} {n : Nat} {l : Launch} {Q : Int → ml_St → Prop} {K10 : ml_St → Int → Int → Int → Int → Int → Prop} (X : ml_X p s m c meth args D cA cX12_best 8 RX12 (some .int)) (hn : 256 ≤ n) (hK10 : ∀ (σ : ml_St) (x1 : Int) (x2 : Int) (x3 : Int) (x4 : Int) (x5 : Int) (h_x1 : I32 x1) (h_x2 : I32 x2) (h_x3 : I32 x3) (h_x4 : I32 x4) (h_x5 : I32 x5) (ls : Array Slot), lv_has ls 8 [(0, .ref (base + (215 : Int).toNat)), (1, .int (Int32.ofInt x1)), (2, .int (Int32.ofInt x2)), (3, .int (Int32.ofInt x3)), (4, .int (Int32.ofInt x4)), (5, .int (Int32.ofInt x5))] → K10 σ x1 x2 x3 x4 x5 → ml_V p l e rm_X12_best s m args below meth c (MQ below (ml_Qi I32 base D cA n Q) args s 0 0 (ml_A base)) base D cA 0 0 n n σ (F0 m 10 ls [])) (σ : ml_St) (x1 : Int) (x5 : Int) (x6 : Int) (x7 : Int) (h_x1 : I32 x1) (h_x5 : I32 x5) (h_x6 : I32 x6) (h_x7 : I32 x7) (ls : Array Slot) (hl : lv_has ls 8 [(0, .ref (base + (215 : Int).toNat)), (1, .int (Int32.ofInt x1)), (5, .int (Int32.ofInt x5)), (6, .int (Int32.ofInt x6)), (7, .int (Int32.ofInt x7))]) (hw : f_X12_best_u118 Q K10 σ x1 x5 x6 x7) : ml_V p l e rm_X12_best s m args below meth c (MQ below (ml_Qi I32 base D cA n Q) args s 0 0 (ml_A base)) base D cA 0 0 n n σ (F0 m 118 ls []) := by
  unfold f_X12_best_u118 at hw
  refine ml_iload (pc := 118) X hl 2 rfl dX12_best_118 ?_
  refine ml_istore_n (pc := 120) X rfl hl (by decide) (lst' := [(2, .int (Int32.ofInt x5)), (0, .ref (base + (215 : Int).toNat)), (1, .int (Int32.ofInt x1)), (5, .int (Int32.ofInt x5)), (6, .int (Int32.ofInt x6)), (7, .int (Int32.ofInt x7))]) rfl dX12_best_120 (fun ls hl => ?_)
  refine ml_iload (pc := 121) X hl 5 rfl dX12_best_121 ?_
  refine ml_istore_n (pc := 123) X rfl hl (by decide) (lst' := [(3, .int (Int32.ofInt x7)), (2, .int (Int32.ofInt x5)), (0, .ref (base + (215 : Int).toNat)), (1, .int (Int32.ofInt x1)), (5, .int (Int32.ofInt x5)), (6, .int (Int32.ofInt x6)), (7, .int (Int32.ofInt x7))]) rfl dX12_best_123 (fun ls hl => ?_)
  refine ml_aload_n (pc := 124) X hl 2 rfl rfl dX12_best_124 ?_
  refine gf_X12_122 (pc := 125) X (ml_c215 hn) dX12_best_125 ?_
  refine ml_iload (pc := 128) X hl 5 rfl dX12_best_128 ?_
  obtain ⟨a1, b1, hw⟩ := hw
  refine ml_iald (pc := 130) (N := 950) X (ml_c251 hn) a1 b1 dX12_best_130 (fun r1 => ?_)
  have hw := hw r1
  refine ml_iconst (pc := 131) X dX12_best_131 ?_
  obtain ⟨v2, hw⟩ := hw
  refine ml_iadd (pc := 132) X dX12_best_132 ?_
  refine ml_topI (pc := 133) (fun y3 e3 => ?_)
  have hw := hw y3 e3
  have q3 : I32 y3 := by rw [e3]; exact v2
  refine ml_istore (pc := 133) X hl (by decide) (lst' := [(4, .int (Int32.ofInt y3)), (3, .int (Int32.ofInt x7)), (2, .int (Int32.ofInt x5)), (0, .ref (base + (215 : Int).toNat)), (1, .int (Int32.ofInt x1)), (5, .int (Int32.ofInt x5)), (6, .int (Int32.ofInt x6)), (7, .int (Int32.ofInt x7))]) rfl dX12_best_133 (fun ls hl => ?_)
  exact u_X12_best_135 X hn hK10 σ x1 x5 x7 y3 x5 h_x1 h_x5 h_x7 q3 h_x5 _ (lv_sub hl [3, 4, 2, 1, 0, 5] rfl) hw
set_option maxRecDepth 100000 in
set_option maxHeartbeats 4000000 in
theorem u_X12_best_46 {p : Program} {e : Env} {s : State} {m : MethodId} {args : Array Value} {below : List Frame} {meth : Method} {c : Code} {base : Nat} {D : va_G} {cA : Nat → ClassId} {n : Nat} {l : Launch} {Q : Int → ml_St → Prop} {K10 : ml_St → Int → Int → Int → Int → Int → Prop} (X : ml_X p s m c meth args D cA cX12_best 8 RX12 (some .int)) (hn : 256 ≤ n) (hK10 : ∀ (σ : ml_St) (x1 : Int) (x2 : Int) (x3 : Int) (x4 : Int) (x5 : Int) (h_x1 : I32 x1) (h_x2 : I32 x2) (h_x3 : I32 x3) (h_x4 : I32 x4) (h_x5 : I32 x5) (ls : Array Slot), lv_has ls 8 [(0, .ref (base + (215 : Int).toNat)), (1, .int (Int32.ofInt x1)), (2, .int (Int32.ofInt x2)), (3, .int (Int32.ofInt x3)), (4, .int (Int32.ofInt x4)), (5, .int (Int32.ofInt x5))] → K10 σ x1 x2 x3 x4 x5 → ml_V p l e rm_X12_best s m args below meth c (MQ below (ml_Qi I32 base D cA n Q) args s 0 0 (ml_A base)) base D cA 0 0 n n σ (F0 m 10 ls [])) (σ : ml_St) (x1 : Int) (x2 : Int) (x3 : Int) (x4 : Int) (x5 : Int) (s0 : Int) (h_x1 : I32 x1) (h_x2 : I32 x2) (h_x3 : I32 x3) (h_x4 : I32 x4) (h_x5 : I32 x5) (h_s0 : I32 s0) (ls : Array Slot) (hl : lv_has ls 8 [(0, .ref (base + (215 : Int).toNat)), (1, .int (Int32.ofInt x1)), (2, .int (Int32.ofInt x2)), (3, .int (Int32.ofInt x3)), (4, .int (Int32.ofInt x4)), (5, .int (Int32.ofInt x5))]) (hw : f_X12_best_u46 Q K10 σ x1 x2 x3 x4 x5 s0) : ml_V p l e rm_X12_best s m args below meth c (MQ below (ml_Qi I32 base D cA n Q) args s 0 0 (ml_A base)) base D cA 0 0 n n σ (F0 m 46 ls [.int (Int32.ofInt s0)]) := by
  unfold f_X12_best_u46 at hw
  refine ml_istore (pc := 46) X hl (by decide) (lst' := [(6, .int (Int32.ofInt s0)), (0, .ref (base + (215 : Int).toNat)), (1, .int (Int32.ofInt x1)), (2, .int (Int32.ofInt x2)), (3, .int (Int32.ofInt x3)), (4, .int (Int32.ofInt x4)), (5, .int (Int32.ofInt x5))]) rfl dX12_best_46 (fun ls hl => ?_)
  refine ml_aload_n (pc := 48) X hl 1 rfl rfl dX12_best_48 ?_
  refine gf_X12_119 (pc := 49) X (ml_c215 hn) dX12_best_49 ?_
  refine ml_iload (pc := 52) X hl 0 rfl dX12_best_52 ?_
  obtain ⟨a1, b1, hw⟩ := hw
  refine ml_iald (pc := 54) (N := 950) X (ml_c250 hn) a1 b1 dX12_best_54 (fun r1 => ?_)
  have hw := hw r1
  refine ml_iconst (pc := 55) X dX12_best_55 ?_
  refine ml_icmp_ne (pc := 56) (tgt := 62) X r1 ⟨by decide, by decide⟩ dX12_best_56 (by decide) (fun c2 => ?_) (fun c2 => ?_)
  · have hw := hw.1 c2
    refine ml_aload_n (pc := 62) X hl 1 rfl rfl dX12_best_62 ?_
    refine gf_X12_119 (pc := 63) X (ml_c215 hn) dX12_best_63 ?_
    refine ml_iload (pc := 66) X hl 0 rfl dX12_best_66 ?_
    obtain ⟨a3, b3, hw⟩ := hw
    refine ml_iald (pc := 68) (N := 950) X (ml_c250 hn) a3 b3 dX12_best_68 (fun r3 => ?_)
    have hw := hw r3
    refine ml_aload_n (pc := 69) X hl 1 rfl rfl dX12_best_69 ?_
    refine gf_X12_27 (pc := 70) X (ml_c215 hn) dX12_best_70 ?_
    refine ml_aload_n (pc := 73) X hl 1 rfl rfl dX12_best_73 ?_
    refine gf_X12_80 (pc := 74) X (ml_c215 hn) dX12_best_74 ?_
    refine ml_iload (pc := 77) X hl 6 rfl dX12_best_77 ?_
    obtain ⟨a4, b4, hw⟩ := hw
    refine ml_iald (pc := 79) (N := 6) X (ml_c237 hn) a4 b4 dX12_best_79 (fun r4 => ?_)
    have hw := hw r4
    obtain ⟨a5, b5, hw⟩ := hw
    refine ml_iald (pc := 80) (N := 16) X (ml_c220 hn) a5 b5 dX12_best_80 (fun r5 => ?_)
    have hw := hw r5
    obtain ⟨v6, hw⟩ := hw
    refine ml_iadd (pc := 81) X dX12_best_81 ?_
    refine ml_topI (pc := 82) (fun y7 e7 => ?_)
    have hw := hw y7 e7
    have q7 : I32 y7 := by rw [e7]; exact v6
    refine ml_istore (pc := 82) X hl (by decide) (lst' := [(7, .int (Int32.ofInt y7)), (6, .int (Int32.ofInt s0)), (0, .ref (base + (215 : Int).toNat)), (1, .int (Int32.ofInt x1)), (2, .int (Int32.ofInt x2)), (3, .int (Int32.ofInt x3)), (4, .int (Int32.ofInt x4)), (5, .int (Int32.ofInt x5))]) rfl dX12_best_82 (fun ls hl => ?_)
    refine ml_iload_n (pc := 84) X hl 4 rfl rfl dX12_best_84 ?_
    refine ml_iconst (pc := 85) X dX12_best_85 ?_
    refine ml_icmp_eq (pc := 86) (tgt := 118) X h_x2 ⟨by decide, by decide⟩ dX12_best_86 (by decide) (fun c8 => ?_) (fun c8 => ?_)
    · have hw := hw.1 c8
      exact u_X12_best_118 X hn hK10 σ x1 x5 s0 y7 h_x1 h_x5 h_s0 q7 _ (lv_sub hl [2, 3, 7, 1, 0] rfl) hw
    · have hw := hw.2 c8
      refine ml_iload (pc := 89) X hl 0 rfl dX12_best_89 ?_
      refine ml_iload_n (pc := 91) X hl 5 rfl rfl dX12_best_91 ?_
      refine ml_icmp_gt (pc := 92) (tgt := 135) X q7 h_x3 dX12_best_92 (by decide) (fun c9 => ?_) (fun c9 => ?_)
      · have hw := hw.1 c9
        exact u_X12_best_135 X hn hK10 σ x1 x2 x3 x4 x5 h_x1 h_x2 h_x3 h_x4 h_x5 _ (lv_sub hl [2, 3, 4, 5, 6, 7] rfl) hw
      · have hw := hw.2 c9
        refine ml_iload (pc := 95) X hl 0 rfl dX12_best_95 ?_
        refine ml_iload_n (pc := 97) X hl 5 rfl rfl dX12_best_97 ?_
        refine ml_icmp_ne (pc := 98) (tgt := 118) X q7 h_x3 dX12_best_98 (by decide) (fun c10 => ?_) (fun c10 => ?_)
        · have hw := hw.1 c10
          exact u_X12_best_118 X hn hK10 σ x1 x5 s0 y7 h_x1 h_x5 h_s0 q7 _ (lv_sub hl [2, 3, 7, 1, 0] rfl) hw
        · have hw := hw.2 c10
          refine ml_aload_n (pc := 101) X hl 2 rfl rfl dX12_best_101 ?_
          refine gf_X12_122 (pc := 102) X (ml_c215 hn) dX12_best_102 ?_
          refine ml_iload (pc := 105) X hl 1 rfl dX12_best_105 ?_
          obtain ⟨a11, b11, hw⟩ := hw
          refine ml_iald (pc := 107) (N := 950) X (ml_c251 hn) a11 b11 dX12_best_107 (fun r11 => ?_)
          have hw := hw r11
          refine ml_iconst (pc := 108) X dX12_best_108 ?_
          obtain ⟨v12, hw⟩ := hw
          refine ml_iadd (pc := 109) X dX12_best_109 ?_
          refine ml_iload (pc := 110) X hl 6 rfl dX12_best_110 ?_
          refine ml_icmp_lt (pc := 112) (tgt := 118) X v12 h_x4 dX12_best_112 (by decide) (fun c13 => ?_) (fun c13 => ?_)
          · have hw := hw.1 c13
            exact u_X12_best_118 X hn hK10 σ x1 x5 s0 y7 h_x1 h_x5 h_s0 q7 _ (lv_sub hl [2, 3, 7, 1, 0] rfl) hw
          · have hw := hw.2 c13
            refine ml_goto (pc := 115) (tgt := 135) X dX12_best_115 (by decide) ?_
            exact u_X12_best_135 X hn hK10 σ x1 x2 x3 x4 x5 h_x1 h_x2 h_x3 h_x4 h_x5 _ (lv_sub hl [2, 3, 4, 5, 6, 7] rfl) hw
  · have hw := hw.2 c2
    refine ml_goto (pc := 59) (tgt := 135) X dX12_best_59 (by decide) ?_
    exact u_X12_best_135 X hn hK10 σ x1 x2 x3 x4 x5 h_x1 h_x2 h_x3 h_x4 h_x5 _ (lv_sub hl [1, 2, 3, 4, 5, 6] rfl) hw
set_option maxRecDepth 100000 in
set_option maxHeartbeats 4000000 in
theorem u_X12_best_10 {p : Program} {e : Env} {s : State} {m : MethodId} {args : Array Value} {below : List Frame} {meth : Method} {c : Code} {base : Nat} {D : va_G} {cA : Nat → ClassId} {n : Nat} {l : Launch} {Q : Int → ml_St → Prop} {K141 : ml_St → Int → Prop} (X : ml_X p s m c meth args D cA cX12_best 8 RX12 (some .int)) (hn : 256 ≤ n) (hK141 : ∀ (σ : ml_St) (x2 : Int) (h_x2 : I32 x2) (ls : Array Slot), lv_has ls 8 [(2, .int (Int32.ofInt x2))] → K141 σ x2 → ml_V p l e rm_X12_best s m args below meth c (MQ below (ml_Qi I32 base D cA n Q) args s 0 0 (ml_A base)) base D cA 0 0 n n σ (F0 m 141 ls [])) : ∀ (N : Nat) (σ : ml_St) (x1 : Int) (x2 : Int) (x3 : Int) (x4 : Int) (x5 : Int) (h_x1 : I32 x1) (h_x2 : I32 x2) (h_x3 : I32 x3) (h_x4 : I32 x4) (h_x5 : I32 x5) (ls : Array Slot), lv_has ls 8 [(0, .ref (base + (215 : Int).toNat)), (1, .int (Int32.ofInt x1)), (2, .int (Int32.ofInt x2)), (3, .int (Int32.ofInt x3)), (4, .int (Int32.ofInt x4)), (5, .int (Int32.ofInt x5))] → f_X12_best_u10 Q K141 N σ x1 x2 x3 x4 x5 → ml_V p l e rm_X12_best s m args below meth c (MQ below (ml_Qi I32 base D cA n Q) args s 0 0 (ml_A base)) base D cA 0 0 n n σ (F0 m 10 ls []) := by
  intro N
  induction N with
  | zero => intro σ x1 x2 x3 x4 x5 h_x1 h_x2 h_x3 h_x4 h_x5 ls hl hw; exact False.elim hw
  | succ N ih =>
    intro σ x1 x2 x3 x4 x5 h_x1 h_x2 h_x3 h_x4 h_x5 ls hl hw
    unfold f_X12_best_u10 at hw
    refine ml_iload (pc := 10) X hl 5 rfl dX12_best_10 ?_
    refine ml_aload_n (pc := 12) X hl 0 rfl rfl dX12_best_12 ?_
    refine gf_X12_364 (pc := 13) X (ml_c215 hn) dX12_best_13 (fun r1 => ?_)
    have hw := hw r1
    refine ml_icmp_ge (pc := 16) (tgt := 141) X h_x5 r1 dX12_best_16 (by decide) (fun c2 => ?_) (fun c2 => ?_)
    · have hw := hw.1 c2
      exact hK141 σ x2 h_x2 _ (lv_sub hl [2] rfl) hw
    · have hw := hw.2 c2
      refine ml_iload_n (pc := 19) X hl 1 rfl rfl dX12_best_19 ?_
      refine ml_iconst (pc := 20) X dX12_best_20 ?_
      refine ml_icmp_ne (pc := 21) (tgt := 34) X h_x1 ⟨by decide, by decide⟩ dX12_best_21 (by decide) (fun c3 => ?_) (fun c3 => ?_)
      · have hw := hw.1 c3
        refine ml_aload_n (pc := 34) X hl 0 rfl rfl dX12_best_34 ?_
        refine gf_X12_89 (pc := 35) X (ml_c215 hn) dX12_best_35 ?_
        refine ml_bipush (pc := 38) X dX12_best_38 (by decide) ?_
        refine ml_iload_n (pc := 40) X hl 1 rfl rfl dX12_best_40 ?_
        obtain ⟨v4, hw⟩ := hw
        refine ml_imul (pc := 41) X dX12_best_41 ?_
        refine ml_iload (pc := 42) X hl 5 rfl dX12_best_42 ?_
        obtain ⟨v5, hw⟩ := hw
        refine ml_iadd (pc := 44) X dX12_best_44 ?_
        obtain ⟨a6, b6, hw⟩ := hw
        refine ml_iald (pc := 45) (N := 5700) X (ml_c240 hn) a6 b6 dX12_best_45 (fun r6 => ?_)
        have hw := hw r6
        exact u_X12_best_46 X hn ih σ x1 x2 x3 x4 x5 (σ 240 ((6 * x1) + x5)) h_x1 h_x2 h_x3 h_x4 h_x5 r6 _ (lv_sub hl [0, 1, 2, 3, 4, 5] rfl) hw
      · have hw := hw.2 c3
        refine ml_aload_n (pc := 24) X hl 0 rfl rfl dX12_best_24 ?_
        refine gf_X12_95 (pc := 25) X (ml_c215 hn) dX12_best_25 ?_
        refine ml_iload (pc := 28) X hl 5 rfl dX12_best_28 ?_
        obtain ⟨a7, b7, hw⟩ := hw
        refine ml_iald (pc := 30) (N := 6) X (ml_c242 hn) a7 b7 dX12_best_30 (fun r7 => ?_)
        have hw := hw r7
        refine ml_goto (pc := 31) (tgt := 46) X dX12_best_31 (by decide) ?_
        exact u_X12_best_46 X hn ih σ x1 x2 x3 x4 x5 (σ 242 x5) h_x1 h_x2 h_x3 h_x4 h_x5 r7 _ (lv_sub hl [0, 1, 2, 3, 4, 5] rfl) hw
set_option maxRecDepth 100000 in
set_option maxHeartbeats 4000000 in
theorem u_X12_best_141 {p : Program} {e : Env} {s : State} {m : MethodId} {args : Array Value} {below : List Frame} {meth : Method} {c : Code} {base : Nat} {D : va_G} {cA : Nat → ClassId} {n : Nat} {l : Launch} {Q : Int → ml_St → Prop} (X : ml_X p s m c meth args D cA cX12_best 8 RX12 (some .int)) (hn : 256 ≤ n) (σ : ml_St) (x2 : Int) (h_x2 : I32 x2) (ls : Array Slot) (hl : lv_has ls 8 [(2, .int (Int32.ofInt x2))]) (hw : f_X12_best_u141 Q σ x2) : ml_V p l e rm_X12_best s m args below meth c (MQ below (ml_Qi I32 base D cA n Q) args s 0 0 (ml_A base)) base D cA 0 0 n n σ (F0 m 141 ls []) := by
  unfold f_X12_best_u141 at hw
  refine ml_iload_n (pc := 141) X hl 0 rfl rfl dX12_best_141 ?_
  exact ml_iret (pc := 142) X h_x2 hw dX12_best_142
set_option maxRecDepth 100000 in
set_option maxHeartbeats 4000000 in
theorem u_X12_best_0 {p : Program} {e : Env} {s : State} {m : MethodId} {args : Array Value} {below : List Frame} {meth : Method} {c : Code} {base : Nat} {D : va_G} {cA : Nat → ClassId} {n : Nat} {l : Launch} {Q : Int → ml_St → Prop} (X : ml_X p s m c meth args D cA cX12_best 8 RX12 (some .int)) (hn : 256 ≤ n) (σ : ml_St) (x1 : Int) (h_x1 : I32 x1) (ls : Array Slot) (hl : lv_has ls 8 [(0, .ref (base + (215 : Int).toNat)), (1, .int (Int32.ofInt x1))]) (hw : f_X12_best_u0 Q σ x1) : ml_V p l e rm_X12_best s m args below meth c (MQ below (ml_Qi I32 base D cA n Q) args s 0 0 (ml_A base)) base D cA 0 0 n n σ (F0 m 0 ls []) := by
  unfold f_X12_best_u0 at hw
  refine ml_iconst (pc := 0) X dX12_best_0 ?_
  refine ml_istore_n (pc := 1) X rfl hl (by decide) (lst' := [(2, .int (Int32.ofInt (-1))), (0, .ref (base + (215 : Int).toNat)), (1, .int (Int32.ofInt x1))]) rfl dX12_best_1 (fun ls hl => ?_)
  refine ml_iconst (pc := 2) X dX12_best_2 ?_
  refine ml_istore_n (pc := 3) X rfl hl (by decide) (lst' := [(3, .int (Int32.ofInt 0)), (2, .int (Int32.ofInt (-1))), (0, .ref (base + (215 : Int).toNat)), (1, .int (Int32.ofInt x1))]) rfl dX12_best_3 (fun ls hl => ?_)
  refine ml_iconst (pc := 4) X dX12_best_4 ?_
  refine ml_istore (pc := 5) X hl (by decide) (lst' := [(4, .int (Int32.ofInt 0)), (3, .int (Int32.ofInt 0)), (2, .int (Int32.ofInt (-1))), (0, .ref (base + (215 : Int).toNat)), (1, .int (Int32.ofInt x1))]) rfl dX12_best_5 (fun ls hl => ?_)
  refine ml_iconst (pc := 7) X dX12_best_7 ?_
  refine ml_istore (pc := 8) X hl (by decide) (lst' := [(5, .int (Int32.ofInt 0)), (4, .int (Int32.ofInt 0)), (3, .int (Int32.ofInt 0)), (2, .int (Int32.ofInt (-1))), (0, .ref (base + (215 : Int).toNat)), (1, .int (Int32.ofInt x1))]) rfl dX12_best_8 (fun ls hl => ?_)
  obtain ⟨N0, hw⟩ := hw
  exact u_X12_best_10 X hn (fun σ x2 h_x2 ls hl hw => u_X12_best_141 X hn σ x2 h_x2 ls hl hw) N0 σ x1 (-1) 0 0 0 h_x1 ⟨by decide, by decide⟩ ⟨by decide, by decide⟩ ⟨by decide, by decide⟩ ⟨by decide, by decide⟩ _ (lv_sub hl [4, 5, 3, 2, 1, 0] rfl) hw
set_option maxRecDepth 100000 in
theorem c_X12_best (l : Launch) (base : Nat) (D : va_G) (cA : Nat → ClassId) (n : Nat) (hn : 256 ≤ n) (σ : ml_St) (x1 : Int) (h_x1 : I32 x1) (Q : Int → ml_St → Prop) (hw : f_X12_best σ x1 Q) : Met l yX12_best (Cond.code yX12_best cX12_best 8 (some .int) :: ml_T) rm_X12_best (va_Pc [.ref (base + (215 : Int).toNat), .int (Int32.ofInt x1)] (ml_U base D cA n σ)) (ml_Qi I32 base D cA n Q) 0 0 (ml_A base) := by
  refine Met.ofW (cc := cX12_best) (maxL := 8) (ret := (some .int)) (by decide) rfl ?_
  intro p e s m args below meth c s₁ B hml hv
  obtain ⟨rfl, hP, hK, hok, hro⟩ := hv
  have X : ml_X p s m c meth _ D cA cX12_best 8 RX12 (some .int) := ⟨B.exec, B.bytes, hml, findClass_of_methodNamed B.named, fun w hw => atoms_spec (ws := Cond.code yX12_best cX12_best 8 (some .int) :: ml_T) B.pre w (List.mem_cons_of_mem _ hw), hK, B.notSynchronized, B.returns⟩
  have hl := lv_entry [.ref (base + (215 : Int).toNat), .int (Int32.ofInt x1)] (n := 8) (Nat.le_of_ble_eq_true rfl)
  rw [lg_entry_eq]
  generalize (lg_sl [.ref (base + (215 : Int).toNat), .int (Int32.ofInt x1)] ++ List.replicate (8 - (lg_sl [.ref (base + (215 : Int).toNat), .int (Int32.ofInt x1)]).length) Slot.unset).toArray = ls at hl ⊢
  have hl : lv_has ls 8 [(0, .ref (base + (215 : Int).toNat)), (1, .int (Int32.ofInt x1))] := hl
  unfold f_X12_best at hw
  exact u_X12_best_0 X hn σ x1 h_x1 _ (lv_sub hl [0, 1] rfl) hw s.heap [] hP va_S.rf hok hro
theorem dX12_prices_0 : decode cX12_prices 0 = .ok (.iconst 0, 1) := by decide +kernel
theorem dX12_prices_1 : decode cX12_prices 1 = .ok (.istore_n 2, 1) := by decide +kernel
theorem dX12_prices_2 : decode cX12_prices 2 = .ok (.iload_n 2, 1) := by decide +kernel
theorem dX12_prices_3 : decode cX12_prices 3 = .ok (.aload_n 0, 1) := by decide +kernel
theorem dX12_prices_4 : decode cX12_prices 4 = .ok (.getfield 367, 3) := by decide +kernel
theorem dX12_prices_7 : decode cX12_prices 7 = .ok (.if_icmp .ge 25, 3) := by decide +kernel
theorem dX12_prices_10 : decode cX12_prices 10 = .ok (.aload_n 0, 1) := by decide +kernel
theorem dX12_prices_11 : decode cX12_prices 11 = .ok (.getfield 119, 3) := by decide +kernel
theorem dX12_prices_14 : decode cX12_prices 14 = .ok (.iload_n 2, 1) := by decide +kernel
theorem dX12_prices_15 : decode cX12_prices 15 = .ok (.iload_n 2, 1) := by decide +kernel
theorem dX12_prices_16 : decode cX12_prices 16 = .ok (.iload_n 1, 1) := by decide +kernel
theorem dX12_prices_17 : decode cX12_prices 17 = .ok (.if_icmp .ne 7, 3) := by decide +kernel
theorem dX12_prices_20 : decode cX12_prices 20 = .ok (.iconst 0, 1) := by decide +kernel
theorem dX12_prices_21 : decode cX12_prices 21 = .ok (.goto 4, 3) := by decide +kernel
theorem dX12_prices_24 : decode cX12_prices 24 = .ok (.iconst (-1), 1) := by decide +kernel
theorem dX12_prices_25 : decode cX12_prices 25 = .ok (.iastore, 1) := by decide +kernel
theorem dX12_prices_26 : decode cX12_prices 26 = .ok (.iinc 2 1, 3) := by decide +kernel
theorem dX12_prices_29 : decode cX12_prices 29 = .ok (.goto (-27), 3) := by decide +kernel
theorem dX12_prices_32 : decode cX12_prices 32 = .ok (.aload_n 0, 1) := by decide +kernel
theorem dX12_prices_33 : decode cX12_prices 33 = .ok (.getfield 122, 3) := by decide +kernel
theorem dX12_prices_36 : decode cX12_prices 36 = .ok (.iload_n 1, 1) := by decide +kernel
theorem dX12_prices_37 : decode cX12_prices 37 = .ok (.iconst 0, 1) := by decide +kernel
theorem dX12_prices_38 : decode cX12_prices 38 = .ok (.iastore, 1) := by decide +kernel
theorem dX12_prices_39 : decode cX12_prices 39 = .ok (.iconst 1, 1) := by decide +kernel
theorem dX12_prices_40 : decode cX12_prices 40 = .ok (.istore_n 2, 1) := by decide +kernel
theorem dX12_prices_41 : decode cX12_prices 41 = .ok (.iload_n 2, 1) := by decide +kernel
theorem dX12_prices_42 : decode cX12_prices 42 = .ok (.ifCond .eq 172, 3) := by decide +kernel
theorem dX12_prices_45 : decode cX12_prices 45 = .ok (.iconst 0, 1) := by decide +kernel
theorem dX12_prices_46 : decode cX12_prices 46 = .ok (.istore_n 2, 1) := by decide +kernel
theorem dX12_prices_47 : decode cX12_prices 47 = .ok (.iconst 0, 1) := by decide +kernel
theorem dX12_prices_48 : decode cX12_prices 48 = .ok (.istore_n 3, 1) := by decide +kernel
theorem dX12_prices_49 : decode cX12_prices 49 = .ok (.iload_n 3, 1) := by decide +kernel
theorem dX12_prices_50 : decode cX12_prices 50 = .ok (.aload_n 0, 1) := by decide +kernel
theorem dX12_prices_51 : decode cX12_prices 51 = .ok (.getfield 367, 3) := by decide +kernel
theorem dX12_prices_54 : decode cX12_prices 54 = .ok (.if_icmp .ge 157, 3) := by decide +kernel
theorem dX12_prices_57 : decode cX12_prices 57 = .ok (.iconst 0, 1) := by decide +kernel
theorem dX12_prices_58 : decode cX12_prices 58 = .ok (.istore 4, 2) := by decide +kernel
theorem dX12_prices_60 : decode cX12_prices 60 = .ok (.iload 4, 2) := by decide +kernel
theorem dX12_prices_62 : decode cX12_prices 62 = .ok (.aload_n 0, 1) := by decide +kernel
theorem dX12_prices_63 : decode cX12_prices 63 = .ok (.getfield 364, 3) := by decide +kernel
theorem dX12_prices_66 : decode cX12_prices 66 = .ok (.if_icmp .ge 139, 3) := by decide +kernel
theorem dX12_prices_69 : decode cX12_prices 69 = .ok (.iload_n 3, 1) := by decide +kernel
theorem dX12_prices_70 : decode cX12_prices 70 = .ok (.iload_n 1, 1) := by decide +kernel
theorem dX12_prices_71 : decode cX12_prices 71 = .ok (.if_icmp .eq 134, 3) := by decide +kernel
theorem dX12_prices_74 : decode cX12_prices 74 = .ok (.aload_n 0, 1) := by decide +kernel
theorem dX12_prices_75 : decode cX12_prices 75 = .ok (.getfield 89, 3) := by decide +kernel
theorem dX12_prices_78 : decode cX12_prices 78 = .ok (.bipush 6, 2) := by decide +kernel
theorem dX12_prices_80 : decode cX12_prices 80 = .ok (.iload_n 3, 1) := by decide +kernel
theorem dX12_prices_81 : decode cX12_prices 81 = .ok (.imul, 1) := by decide +kernel
theorem dX12_prices_82 : decode cX12_prices 82 = .ok (.iload 4, 2) := by decide +kernel
theorem dX12_prices_84 : decode cX12_prices 84 = .ok (.iadd, 1) := by decide +kernel
theorem dX12_prices_85 : decode cX12_prices 85 = .ok (.iaload, 1) := by decide +kernel
theorem dX12_prices_86 : decode cX12_prices 86 = .ok (.istore 5, 2) := by decide +kernel
theorem dX12_prices_88 : decode cX12_prices 88 = .ok (.aload_n 0, 1) := by decide +kernel
theorem dX12_prices_89 : decode cX12_prices 89 = .ok (.getfield 119, 3) := by decide +kernel
theorem dX12_prices_92 : decode cX12_prices 92 = .ok (.iload 5, 2) := by decide +kernel
theorem dX12_prices_94 : decode cX12_prices 94 = .ok (.iaload, 1) := by decide +kernel
theorem dX12_prices_95 : decode cX12_prices 95 = .ok (.iconst (-1), 1) := by decide +kernel
theorem dX12_prices_96 : decode cX12_prices 96 = .ok (.if_icmp .ne 6, 3) := by decide +kernel
theorem dX12_prices_99 : decode cX12_prices 99 = .ok (.goto 100, 3) := by decide +kernel
theorem dX12_prices_102 : decode cX12_prices 102 = .ok (.aload_n 0, 1) := by decide +kernel
theorem dX12_prices_103 : decode cX12_prices 103 = .ok (.getfield 119, 3) := by decide +kernel
theorem dX12_prices_106 : decode cX12_prices 106 = .ok (.iload 5, 2) := by decide +kernel
theorem dX12_prices_108 : decode cX12_prices 108 = .ok (.iaload, 1) := by decide +kernel
theorem dX12_prices_109 : decode cX12_prices 109 = .ok (.aload_n 0, 1) := by decide +kernel
theorem dX12_prices_110 : decode cX12_prices 110 = .ok (.getfield 27, 3) := by decide +kernel
theorem dX12_prices_113 : decode cX12_prices 113 = .ok (.aload_n 0, 1) := by decide +kernel
theorem dX12_prices_114 : decode cX12_prices 114 = .ok (.getfield 80, 3) := by decide +kernel
theorem dX12_prices_117 : decode cX12_prices 117 = .ok (.iload 4, 2) := by decide +kernel
theorem dX12_prices_119 : decode cX12_prices 119 = .ok (.iaload, 1) := by decide +kernel
theorem dX12_prices_120 : decode cX12_prices 120 = .ok (.iaload, 1) := by decide +kernel
theorem dX12_prices_121 : decode cX12_prices 121 = .ok (.iadd, 1) := by decide +kernel
theorem dX12_prices_122 : decode cX12_prices 122 = .ok (.istore 6, 2) := by decide +kernel
theorem dX12_prices_124 : decode cX12_prices 124 = .ok (.aload_n 0, 1) := by decide +kernel
theorem dX12_prices_125 : decode cX12_prices 125 = .ok (.getfield 122, 3) := by decide +kernel
theorem dX12_prices_128 : decode cX12_prices 128 = .ok (.iload 5, 2) := by decide +kernel
theorem dX12_prices_130 : decode cX12_prices 130 = .ok (.iaload, 1) := by decide +kernel
theorem dX12_prices_131 : decode cX12_prices 131 = .ok (.iconst 1, 1) := by decide +kernel
theorem dX12_prices_132 : decode cX12_prices 132 = .ok (.iadd, 1) := by decide +kernel
theorem dX12_prices_133 : decode cX12_prices 133 = .ok (.istore 7, 2) := by decide +kernel
theorem dX12_prices_135 : decode cX12_prices 135 = .ok (.aload_n 0, 1) := by decide +kernel
theorem dX12_prices_136 : decode cX12_prices 136 = .ok (.getfield 119, 3) := by decide +kernel
theorem dX12_prices_139 : decode cX12_prices 139 = .ok (.iload_n 3, 1) := by decide +kernel
theorem dX12_prices_140 : decode cX12_prices 140 = .ok (.iaload, 1) := by decide +kernel
theorem dX12_prices_141 : decode cX12_prices 141 = .ok (.iconst (-1), 1) := by decide +kernel
theorem dX12_prices_142 : decode cX12_prices 142 = .ok (.if_icmp .eq 39, 3) := by decide +kernel
theorem dX12_prices_145 : decode cX12_prices 145 = .ok (.iload 6, 2) := by decide +kernel
theorem dX12_prices_147 : decode cX12_prices 147 = .ok (.aload_n 0, 1) := by decide +kernel
theorem dX12_prices_148 : decode cX12_prices 148 = .ok (.getfield 119, 3) := by decide +kernel
theorem dX12_prices_151 : decode cX12_prices 151 = .ok (.iload_n 3, 1) := by decide +kernel
theorem dX12_prices_152 : decode cX12_prices 152 = .ok (.iaload, 1) := by decide +kernel
theorem dX12_prices_153 : decode cX12_prices 153 = .ok (.if_icmp .gt 46, 3) := by decide +kernel
theorem dX12_prices_156 : decode cX12_prices 156 = .ok (.iload 6, 2) := by decide +kernel
theorem dX12_prices_158 : decode cX12_prices 158 = .ok (.aload_n 0, 1) := by decide +kernel
theorem dX12_prices_159 : decode cX12_prices 159 = .ok (.getfield 119, 3) := by decide +kernel
theorem dX12_prices_162 : decode cX12_prices 162 = .ok (.iload_n 3, 1) := by decide +kernel
theorem dX12_prices_163 : decode cX12_prices 163 = .ok (.iaload, 1) := by decide +kernel
theorem dX12_prices_164 : decode cX12_prices 164 = .ok (.if_icmp .ne 17, 3) := by decide +kernel
theorem dX12_prices_167 : decode cX12_prices 167 = .ok (.iload 7, 2) := by decide +kernel
theorem dX12_prices_169 : decode cX12_prices 169 = .ok (.aload_n 0, 1) := by decide +kernel
theorem dX12_prices_170 : decode cX12_prices 170 = .ok (.getfield 122, 3) := by decide +kernel
theorem dX12_prices_173 : decode cX12_prices 173 = .ok (.iload_n 3, 1) := by decide +kernel
theorem dX12_prices_174 : decode cX12_prices 174 = .ok (.iaload, 1) := by decide +kernel
theorem dX12_prices_175 : decode cX12_prices 175 = .ok (.if_icmp .lt 6, 3) := by decide +kernel
theorem dX12_prices_178 : decode cX12_prices 178 = .ok (.goto 21, 3) := by decide +kernel
theorem dX12_prices_181 : decode cX12_prices 181 = .ok (.aload_n 0, 1) := by decide +kernel
theorem dX12_prices_182 : decode cX12_prices 182 = .ok (.getfield 119, 3) := by decide +kernel
theorem dX12_prices_185 : decode cX12_prices 185 = .ok (.iload_n 3, 1) := by decide +kernel
theorem dX12_prices_186 : decode cX12_prices 186 = .ok (.iload 6, 2) := by decide +kernel
theorem dX12_prices_188 : decode cX12_prices 188 = .ok (.iastore, 1) := by decide +kernel
theorem dX12_prices_189 : decode cX12_prices 189 = .ok (.aload_n 0, 1) := by decide +kernel
theorem dX12_prices_190 : decode cX12_prices 190 = .ok (.getfield 122, 3) := by decide +kernel
theorem dX12_prices_193 : decode cX12_prices 193 = .ok (.iload_n 3, 1) := by decide +kernel
theorem dX12_prices_194 : decode cX12_prices 194 = .ok (.iload 7, 2) := by decide +kernel
theorem dX12_prices_196 : decode cX12_prices 196 = .ok (.iastore, 1) := by decide +kernel
theorem dX12_prices_197 : decode cX12_prices 197 = .ok (.iconst 1, 1) := by decide +kernel
theorem dX12_prices_198 : decode cX12_prices 198 = .ok (.istore_n 2, 1) := by decide +kernel
theorem dX12_prices_199 : decode cX12_prices 199 = .ok (.iinc 4 1, 3) := by decide +kernel
theorem dX12_prices_202 : decode cX12_prices 202 = .ok (.goto (-142), 3) := by decide +kernel
theorem dX12_prices_205 : decode cX12_prices 205 = .ok (.iinc 3 1, 3) := by decide +kernel
theorem dX12_prices_208 : decode cX12_prices 208 = .ok (.goto (-159), 3) := by decide +kernel
theorem dX12_prices_211 : decode cX12_prices 211 = .ok (.goto (-170), 3) := by decide +kernel
theorem dX12_prices_214 : decode cX12_prices 214 = .ok (.return_, 1) := by decide +kernel
def f_X12_prices_u25 (Q : ml_St → Prop) (K2 : ml_St → Int → Int → Prop) (σ : ml_St) (x1 : Int) (x2 : Int) (s1 : Int) (s2 : Int) : Prop :=
(0 : Int) ≤ s1 ∧ (s1 : Int) < 950 ∧
∀ σ1, σ1 = ml_up σ 250 s1 s2 →
I32 (x2 + 1) ∧
∀ y2 : Int, y2 = x2 + 1 →
K2 σ1 x1 y2
def f_X12_prices_u2 (Q : ml_St → Prop) (K32 : ml_St → Int → Prop) : Nat → ml_St → Int → Int → Prop
| 0, _, _, _ => False
| N + 1, σ, x1, x2 =>
∀ _ : I32 (σ 215 39),
((σ 215 39) ≤ x2 →
K32 σ x1) ∧
(¬ ((σ 215 39) ≤ x2) →
(x2 ≠ x1 →
f_X12_prices_u25 Q (f_X12_prices_u2 Q K32 N) σ x1 x2 x2 (-1)) ∧
(x2 = x1 →
f_X12_prices_u25 Q (f_X12_prices_u2 Q K32 N) σ x1 x2 x2 0))
def f_X12_prices_u199 (Q : ml_St → Prop) (K60 : ml_St → Int → Int → Int → Int → Prop) (σ : ml_St) (x1 : Int) (x2 : Int) (x3 : Int) (x4 : Int) : Prop :=
I32 (x4 + 1) ∧
∀ y1 : Int, y1 = x4 + 1 →
K60 σ x1 x2 x3 y1
def f_X12_prices_u181 (Q : ml_St → Prop) (K60 : ml_St → Int → Int → Int → Int → Prop) (σ : ml_St) (x1 : Int) (x3 : Int) (x4 : Int) (x6 : Int) (x7 : Int) : Prop :=
(0 : Int) ≤ x3 ∧ (x3 : Int) < 950 ∧
∀ σ1, σ1 = ml_up σ 250 x3 x6 →
(0 : Int) ≤ x3 ∧ (x3 : Int) < 950 ∧
∀ σ2, σ2 = ml_up σ1 251 x3 x7 →
f_X12_prices_u199 Q K60 σ2 x1 1 x3 x4
def f_X12_prices_u60 (Q : ml_St → Prop) (K205 : ml_St → Int → Int → Int → Prop) : Nat → ml_St → Int → Int → Int → Int → Prop
| 0, _, _, _, _, _ => False
| N + 1, σ, x1, x2, x3, x4 =>
∀ _ : I32 (σ 215 38),
((σ 215 38) ≤ x4 →
K205 σ x1 x2 x3) ∧
(¬ ((σ 215 38) ≤ x4) →
(x3 = x1 →
K205 σ x1 x2 x3) ∧
(x3 ≠ x1 →
I32 (6 * x3) ∧
I32 ((6 * x3) + x4) ∧
(0 : Int) ≤ ((6 * x3) + x4) ∧ (((6 * x3) + x4) : Int) < 5700 ∧
∀ _ : I32 (σ 240 ((6 * x3) + x4)),
∀ y7 : Int, y7 = σ 240 ((6 * x3) + x4) →
(0 : Int) ≤ y7 ∧ (y7 : Int) < 950 ∧
∀ _ : I32 (σ 250 y7),
(((σ 250 y7) : Int) ≠ (-1) →
(0 : Int) ≤ y7 ∧ (y7 : Int) < 950 ∧
∀ _ : I32 (σ 250 y7),
(0 : Int) ≤ x4 ∧ (x4 : Int) < 6 ∧
∀ _ : I32 (σ 237 x4),
(0 : Int) ≤ (σ 237 x4) ∧ ((σ 237 x4) : Int) < 16 ∧
∀ _ : I32 (σ 220 (σ 237 x4)),
I32 ((σ 250 y7) + (σ 220 (σ 237 x4))) ∧
∀ y14 : Int, y14 = (σ 250 y7) + (σ 220 (σ 237 x4)) →
(0 : Int) ≤ y7 ∧ (y7 : Int) < 950 ∧
∀ _ : I32 (σ 251 y7),
I32 ((σ 251 y7) + 1) ∧
∀ y17 : Int, y17 = (σ 251 y7) + 1 →
(0 : Int) ≤ x3 ∧ (x3 : Int) < 950 ∧
∀ _ : I32 (σ 250 x3),
(((σ 250 x3) : Int) = (-1) →
f_X12_prices_u181 Q (f_X12_prices_u60 Q K205 N) σ x1 x3 x4 y14 y17) ∧
((σ 250 x3) ≠ (-1) →
(0 : Int) ≤ x3 ∧ (x3 : Int) < 950 ∧
∀ _ : I32 (σ 250 x3),
((σ 250 x3) < y14 →
f_X12_prices_u199 Q (f_X12_prices_u60 Q K205 N) σ x1 x2 x3 x4) ∧
(¬ ((σ 250 x3) < y14) →
(0 : Int) ≤ x3 ∧ (x3 : Int) < 950 ∧
∀ _ : I32 (σ 250 x3),
(y14 ≠ (σ 250 x3) →
f_X12_prices_u181 Q (f_X12_prices_u60 Q K205 N) σ x1 x3 x4 y14 y17) ∧
(y14 = (σ 250 x3) →
(0 : Int) ≤ x3 ∧ (x3 : Int) < 950 ∧
∀ _ : I32 (σ 251 x3),
(y17 < (σ 251 x3) →
f_X12_prices_u181 Q (f_X12_prices_u60 Q K205 N) σ x1 x3 x4 y14 y17) ∧
(¬ (y17 < (σ 251 x3)) →
f_X12_prices_u199 Q (f_X12_prices_u60 Q K205 N) σ x1 x2 x3 x4))))) ∧
((σ 250 y7) = (-1) →
f_X12_prices_u199 Q (f_X12_prices_u60 Q K205 N) σ x1 x2 x3 x4)))
def f_X12_prices_u205 (Q : ml_St → Prop) (K49 : ml_St → Int → Int → Int → Prop) (σ : ml_St) (x1 : Int) (x2 : Int) (x3 : Int) : Prop :=
I32 (x3 + 1) ∧
∀ y1 : Int, y1 = x3 + 1 →
K49 σ x1 x2 y1
def f_X12_prices_u49 (Q : ml_St → Prop) (K211 : ml_St → Int → Int → Prop) : Nat → ml_St → Int → Int → Int → Prop
| 0, _, _, _, _ => False
| N + 1, σ, x1, x2, x3 =>
∀ _ : I32 (σ 215 39),
((σ 215 39) ≤ x3 →
K211 σ x1 x2) ∧
(¬ ((σ 215 39) ≤ x3) →
∃ N1, f_X12_prices_u60 Q (f_X12_prices_u205 Q (f_X12_prices_u49 Q K211 N)) N1 σ x1 x2 x3 0)
def f_X12_prices_u211 (Q : ml_St → Prop) (K41 : ml_St → Int → Int → Prop) (σ : ml_St) (x1 : Int) (x2 : Int) : Prop :=
K41 σ x1 x2
def f_X12_prices_u41 (Q : ml_St → Prop) (K214 : ml_St → Prop) : Nat → ml_St → Int → Int → Prop
| 0, _, _, _ => False
| N + 1, σ, x1, x2 =>
(x2 = 0 →
K214 σ) ∧
(x2 ≠ 0 →
∃ N1, f_X12_prices_u49 Q (f_X12_prices_u211 Q (f_X12_prices_u41 Q K214 N)) N1 σ x1 0 0)
def f_X12_prices_u214 (Q : ml_St → Prop) (σ : ml_St) : Prop :=
Q σ
def f_X12_prices_u32 (Q : ml_St → Prop) (σ : ml_St) (x1 : Int) : Prop :=
(0 : Int) ≤ x1 ∧ (x1 : Int) < 950 ∧
∀ σ1, σ1 = ml_up σ 251 x1 0 →
∃ N1, f_X12_prices_u41 Q (f_X12_prices_u214 Q) N1 σ1 x1 1
def f_X12_prices_u0 (Q : ml_St → Prop) (σ : ml_St) (x1 : Int) : Prop :=
∃ N1, f_X12_prices_u2 Q (f_X12_prices_u32 Q) N1 σ x1 0
def f_X12_prices (σ : ml_St) (x1 : Int) (Q : ml_St → Prop) : Prop := f_X12_prices_u0 Q σ x1
def rm_X12_prices : Room := { frames := 0, cells := 0, slots := 0, locals := 0 }
set_option maxRecDepth 100000 in
set_option maxHeartbeats 4000000 in
theorem u_X12_prices_25 {p : Program} {e : Env} {s : State} {m : MethodId} {args : Array Value} {below : List Frame} {meth : Method} {c : Code} {base : Nat} {D : va_G} {cA : Nat → ClassId} {n : Nat} {l : Launch} {Q : ml_St → Prop} {K2 : ml_St → Int → Int → Prop} (X : ml_X p s m c meth args D cA cX12_prices 8 RX12 none) (hn : 256 ≤ n) (hK2 : ∀ (σ : ml_St) (x1 : Int) (x2 : Int) (h_x1 : I32 x1) (h_x2 : I32 x2) (ls : Array Slot), lv_has ls 8 [(0, .ref (base + (215 : Int).toNat)), (1, .int (Int32.ofInt x1)), (2, .int (Int32.ofInt x2))] → K2 σ x1 x2 → ml_V p l e rm_X12_prices s m args below meth c (MQ below (ml_Qv base D cA n Q) args s 0 0 (ml_A base)) base D cA 0 0 n n σ (F0 m 2 ls [])) (σ : ml_St) (x1 : Int) (x2 : Int) (s1 : Int) (s2 : Int) (h_x1 : I32 x1) (h_x2 : I32 x2) (h_s1 : I32 s1) (h_s2 : I32 s2) (ls : Array Slot) (hl : lv_has ls 8 [(0, .ref (base + (215 : Int).toNat)), (1, .int (Int32.ofInt x1)), (2, .int (Int32.ofInt x2))]) (hw : f_X12_prices_u25 Q K2 σ x1 x2 s1 s2) : ml_V p l e rm_X12_prices s m args below meth c (MQ below (ml_Qv base D cA n Q) args s 0 0 (ml_A base)) base D cA 0 0 n n σ (F0 m 25 ls [.int (Int32.ofInt s2), .int (Int32.ofInt s1), .ref (base + (250 : Int).toNat)]) := by
  unfold f_X12_prices_u25 at hw
  obtain ⟨a1, b1, hw⟩ := hw
  refine ml_iast (pc := 25) (N := 950) X (ml_c250 hn) a1 b1 h_s2 dX12_prices_25 (fun σ1 g1 => ?_)
  have hw := hw σ1 g1
  obtain ⟨v2, hw⟩ := hw
  obtain ⟨y2, e2⟩ : ∃ y : Int, y = x2 + 1 := ⟨_, rfl⟩
  have hw := hw y2 e2
  rw [← e2] at v2
  refine ml_iinc (pc := 26) X e2 hl 2 rfl (by decide) (lst' := [(2, .int (Int32.ofInt y2)), (0, .ref (base + (215 : Int).toNat)), (1, .int (Int32.ofInt x1))]) rfl dX12_prices_26 (fun ls hl => ?_)
  refine ml_goto (pc := 29) (tgt := 2) X dX12_prices_29 (by decide) ?_
  exact hK2 σ1 x1 y2 h_x1 v2 _ (lv_sub hl [1, 2, 0] rfl) hw
set_option maxRecDepth 100000 in
set_option maxHeartbeats 4000000 in
theorem u_X12_prices_2 {p : Program} {e : Env} {s : State} {m : MethodId} {args : Array Value} {below : List Frame} {meth : Method} {c : Code} {base : Nat} {D : va_G} {cA : Nat → ClassId} {n : Nat} {l : Launch} {Q : ml_St → Prop} {K32 : ml_St → Int → Prop} (X : ml_X p s m c meth args D cA cX12_prices 8 RX12 none) (hn : 256 ≤ n) (hK32 : ∀ (σ : ml_St) (x1 : Int) (h_x1 : I32 x1) (ls : Array Slot), lv_has ls 8 [(0, .ref (base + (215 : Int).toNat)), (1, .int (Int32.ofInt x1))] → K32 σ x1 → ml_V p l e rm_X12_prices s m args below meth c (MQ below (ml_Qv base D cA n Q) args s 0 0 (ml_A base)) base D cA 0 0 n n σ (F0 m 32 ls [])) : ∀ (N : Nat) (σ : ml_St) (x1 : Int) (x2 : Int) (h_x1 : I32 x1) (h_x2 : I32 x2) (ls : Array Slot), lv_has ls 8 [(0, .ref (base + (215 : Int).toNat)), (1, .int (Int32.ofInt x1)), (2, .int (Int32.ofInt x2))] → f_X12_prices_u2 Q K32 N σ x1 x2 → ml_V p l e rm_X12_prices s m args below meth c (MQ below (ml_Qv base D cA n Q) args s 0 0 (ml_A base)) base D cA 0 0 n n σ (F0 m 2 ls []) := by
  intro N
  induction N with
  | zero => intro σ x1 x2 h_x1 h_x2 ls hl hw; exact False.elim hw
  | succ N ih =>
    intro σ x1 x2 h_x1 h_x2 ls hl hw
    unfold f_X12_prices_u2 at hw
    refine ml_iload_n (pc := 2) X hl 2 rfl rfl dX12_prices_2 ?_
    refine ml_aload_n (pc := 3) X hl 0 rfl rfl dX12_prices_3 ?_
    refine gf_X12_367 (pc := 4) X (ml_c215 hn) dX12_prices_4 (fun r1 => ?_)
    have hw := hw r1
    refine ml_icmp_ge (pc := 7) (tgt := 32) X h_x2 r1 dX12_prices_7 (by decide) (fun c2 => ?_) (fun c2 => ?_)
    · have hw := hw.1 c2
      exact hK32 σ x1 h_x1 _ (lv_sub hl [0, 1] rfl) hw
    · have hw := hw.2 c2
      refine ml_aload_n (pc := 10) X hl 0 rfl rfl dX12_prices_10 ?_
      refine gf_X12_119 (pc := 11) X (ml_c215 hn) dX12_prices_11 ?_
      refine ml_iload_n (pc := 14) X hl 2 rfl rfl dX12_prices_14 ?_
      refine ml_iload_n (pc := 15) X hl 2 rfl rfl dX12_prices_15 ?_
      refine ml_iload_n (pc := 16) X hl 1 rfl rfl dX12_prices_16 ?_
      refine ml_icmp_ne (pc := 17) (tgt := 24) X h_x2 h_x1 dX12_prices_17 (by decide) (fun c3 => ?_) (fun c3 => ?_)
      · have hw := hw.1 c3
        refine ml_iconst (pc := 24) X dX12_prices_24 ?_
        exact u_X12_prices_25 X hn ih σ x1 x2 x2 (-1) h_x1 h_x2 h_x2 ⟨by decide, by decide⟩ _ (lv_sub hl [0, 1, 2] rfl) hw
      · have hw := hw.2 c3
        refine ml_iconst (pc := 20) X dX12_prices_20 ?_
        refine ml_goto (pc := 21) (tgt := 25) X dX12_prices_21 (by decide) ?_
        exact u_X12_prices_25 X hn ih σ x1 x2 x2 0 h_x1 h_x2 h_x2 ⟨by decide, by decide⟩ _ (lv_sub hl [0, 1, 2] rfl) hw
set_option maxRecDepth 100000 in
set_option maxHeartbeats 4000000 in
theorem u_X12_prices_199 {p : Program} {e : Env} {s : State} {m : MethodId} {args : Array Value} {below : List Frame} {meth : Method} {c : Code} {base : Nat} {D : va_G} {cA : Nat → ClassId} {n : Nat} {l : Launch} {Q : ml_St → Prop} {K60 : ml_St → Int → Int → Int → Int → Prop} (X : ml_X p s m c meth args D cA cX12_prices 8 RX12 none) (hn : 256 ≤ n) (hK60 : ∀ (σ : ml_St) (x1 : Int) (x2 : Int) (x3 : Int) (x4 : Int) (h_x1 : I32 x1) (h_x2 : ml_B x2) (h_x3 : I32 x3) (h_x4 : I32 x4) (ls : Array Slot), lv_has ls 8 [(0, .ref (base + (215 : Int).toNat)), (1, .int (Int32.ofInt x1)), (2, .int (Int32.ofInt x2)), (3, .int (Int32.ofInt x3)), (4, .int (Int32.ofInt x4))] → K60 σ x1 x2 x3 x4 → ml_V p l e rm_X12_prices s m args below meth c (MQ below (ml_Qv base D cA n Q) args s 0 0 (ml_A base)) base D cA 0 0 n n σ (F0 m 60 ls [])) (σ : ml_St) (x1 : Int) (x2 : Int) (x3 : Int) (x4 : Int) (h_x1 : I32 x1) (h_x2 : ml_B x2) (h_x3 : I32 x3) (h_x4 : I32 x4) (ls : Array Slot) (hl : lv_has ls 8 [(0, .ref (base + (215 : Int).toNat)), (1, .int (Int32.ofInt x1)), (2, .int (Int32.ofInt x2)), (3, .int (Int32.ofInt x3)), (4, .int (Int32.ofInt x4))]) (hw : f_X12_prices_u199 Q K60 σ x1 x2 x3 x4) : ml_V p l e rm_X12_prices s m args below meth c (MQ below (ml_Qv base D cA n Q) args s 0 0 (ml_A base)) base D cA 0 0 n n σ (F0 m 199 ls []) := by
  unfold f_X12_prices_u199 at hw
  obtain ⟨v1, hw⟩ := hw
  obtain ⟨y1, e1⟩ : ∃ y : Int, y = x4 + 1 := ⟨_, rfl⟩
  have hw := hw y1 e1
  rw [← e1] at v1
  refine ml_iinc (pc := 199) X e1 hl 4 rfl (by decide) (lst' := [(4, .int (Int32.ofInt y1)), (0, .ref (base + (215 : Int).toNat)), (1, .int (Int32.ofInt x1)), (2, .int (Int32.ofInt x2)), (3, .int (Int32.ofInt x3))]) rfl dX12_prices_199 (fun ls hl => ?_)
  refine ml_goto (pc := 202) (tgt := 60) X dX12_prices_202 (by decide) ?_
  exact hK60 σ x1 x2 x3 y1 h_x1 h_x2 h_x3 v1 _ (lv_sub hl [1, 2, 3, 4, 0] rfl) hw
set_option maxRecDepth 100000 in
set_option maxHeartbeats 4000000 in
theorem u_X12_prices_181 {p : Program} {e : Env} {s : State} {m : MethodId} {args : Array Value} {below : List Frame} {meth : Method} {c : Code} {base : Nat} {D : va_G} {cA : Nat → ClassId} {n : Nat} {l : Launch} {Q : ml_St → Prop} {K60 : ml_St → Int → Int → Int → Int → Prop} (X : ml_X p s m c meth args D cA cX12_prices 8 RX12 none) (hn : 256 ≤ n) (hK60 : ∀ (σ : ml_St) (x1 : Int) (x2 : Int) (x3 : Int) (x4 : Int) (h_x1 : I32 x1) (h_x2 : ml_B x2) (h_x3 : I32 x3) (h_x4 : I32 x4) (ls : Array Slot), lv_has ls 8 [(0, .ref (base + (215 : Int).toNat)), (1, .int (Int32.ofInt x1)), (2, .int (Int32.ofInt x2)), (3, .int (Int32.ofInt x3)), (4, .int (Int32.ofInt x4))] → K60 σ x1 x2 x3 x4 → ml_V p l e rm_X12_prices s m args below meth c (MQ below (ml_Qv base D cA n Q) args s 0 0 (ml_A base)) base D cA 0 0 n n σ (F0 m 60 ls [])) (σ : ml_St) (x1 : Int) (x3 : Int) (x4 : Int) (x6 : Int) (x7 : Int) (h_x1 : I32 x1) (h_x3 : I32 x3) (h_x4 : I32 x4) (h_x6 : I32 x6) (h_x7 : I32 x7) (ls : Array Slot) (hl : lv_has ls 8 [(0, .ref (base + (215 : Int).toNat)), (1, .int (Int32.ofInt x1)), (3, .int (Int32.ofInt x3)), (4, .int (Int32.ofInt x4)), (6, .int (Int32.ofInt x6)), (7, .int (Int32.ofInt x7))]) (hw : f_X12_prices_u181 Q K60 σ x1 x3 x4 x6 x7) : ml_V p l e rm_X12_prices s m args below meth c (MQ below (ml_Qv base D cA n Q) args s 0 0 (ml_A base)) base D cA 0 0 n n σ (F0 m 181 ls []) := by
  unfold f_X12_prices_u181 at hw
  refine ml_aload_n (pc := 181) X hl 0 rfl rfl dX12_prices_181 ?_
  refine gf_X12_119 (pc := 182) X (ml_c215 hn) dX12_prices_182 ?_
  refine ml_iload_n (pc := 185) X hl 2 rfl rfl dX12_prices_185 ?_
  refine ml_iload (pc := 186) X hl 4 rfl dX12_prices_186 ?_
  obtain ⟨a1, b1, hw⟩ := hw
  refine ml_iast (pc := 188) (N := 950) X (ml_c250 hn) a1 b1 h_x6 dX12_prices_188 (fun σ1 g1 => ?_)
  have hw := hw σ1 g1
  refine ml_aload_n (pc := 189) X hl 0 rfl rfl dX12_prices_189 ?_
  refine gf_X12_122 (pc := 190) X (ml_c215 hn) dX12_prices_190 ?_
  refine ml_iload_n (pc := 193) X hl 2 rfl rfl dX12_prices_193 ?_
  refine ml_iload (pc := 194) X hl 5 rfl dX12_prices_194 ?_
  obtain ⟨a2, b2, hw⟩ := hw
  refine ml_iast (pc := 196) (N := 950) X (ml_c251 hn) a2 b2 h_x7 dX12_prices_196 (fun σ2 g2 => ?_)
  have hw := hw σ2 g2
  refine ml_iconst (pc := 197) X dX12_prices_197 ?_
  refine ml_istore_n (pc := 198) X rfl hl (by decide) (lst' := [(2, .int (Int32.ofInt 1)), (0, .ref (base + (215 : Int).toNat)), (1, .int (Int32.ofInt x1)), (3, .int (Int32.ofInt x3)), (4, .int (Int32.ofInt x4)), (6, .int (Int32.ofInt x6)), (7, .int (Int32.ofInt x7))]) rfl dX12_prices_198 (fun ls hl => ?_)
  exact u_X12_prices_199 X hn hK60 σ2 x1 1 x3 x4 h_x1 ⟨by decide, by decide⟩ h_x3 h_x4 _ (lv_sub hl [1, 2, 0, 3, 4] rfl) hw
set_option maxRecDepth 100000 in
set_option maxHeartbeats 4000000 in
theorem u_X12_prices_60 {p : Program} {e : Env} {s : State} {m : MethodId} {args : Array Value} {below : List Frame} {meth : Method} {c : Code} {base : Nat} {D : va_G} {cA : Nat → ClassId} {n : Nat} {l : Launch} {Q : ml_St → Prop} {K205 : ml_St → Int → Int → Int → Prop} (X : ml_X p s m c meth args D cA cX12_prices 8 RX12 none) (hn : 256 ≤ n) (hK205 : ∀ (σ : ml_St) (x1 : Int) (x2 : Int) (x3 : Int) (h_x1 : I32 x1) (h_x2 : ml_B x2) (h_x3 : I32 x3) (ls : Array Slot), lv_has ls 8 [(0, .ref (base + (215 : Int).toNat)), (1, .int (Int32.ofInt x1)), (2, .int (Int32.ofInt x2)), (3, .int (Int32.ofInt x3))] → K205 σ x1 x2 x3 → ml_V p l e rm_X12_prices s m args below meth c (MQ below (ml_Qv base D cA n Q) args s 0 0 (ml_A base)) base D cA 0 0 n n σ (F0 m 205 ls [])) : ∀ (N : Nat) (σ : ml_St) (x1 : Int) (x2 : Int) (x3 : Int) (x4 : Int) (h_x1 : I32 x1) (h_x2 : ml_B x2) (h_x3 : I32 x3) (h_x4 : I32 x4) (ls : Array Slot), lv_has ls 8 [(0, .ref (base + (215 : Int).toNat)), (1, .int (Int32.ofInt x1)), (2, .int (Int32.ofInt x2)), (3, .int (Int32.ofInt x3)), (4, .int (Int32.ofInt x4))] → f_X12_prices_u60 Q K205 N σ x1 x2 x3 x4 → ml_V p l e rm_X12_prices s m args below meth c (MQ below (ml_Qv base D cA n Q) args s 0 0 (ml_A base)) base D cA 0 0 n n σ (F0 m 60 ls []) := by
  intro N
  induction N with
  | zero => intro σ x1 x2 x3 x4 h_x1 h_x2 h_x3 h_x4 ls hl hw; exact False.elim hw
  | succ N ih =>
    intro σ x1 x2 x3 x4 h_x1 h_x2 h_x3 h_x4 ls hl hw
    unfold f_X12_prices_u60 at hw
    refine ml_iload (pc := 60) X hl 4 rfl dX12_prices_60 ?_
    refine ml_aload_n (pc := 62) X hl 0 rfl rfl dX12_prices_62 ?_
    refine gf_X12_364 (pc := 63) X (ml_c215 hn) dX12_prices_63 (fun r1 => ?_)
    have hw := hw r1
    refine ml_icmp_ge (pc := 66) (tgt := 205) X h_x4 r1 dX12_prices_66 (by decide) (fun c2 => ?_) (fun c2 => ?_)
    · have hw := hw.1 c2
      exact hK205 σ x1 x2 x3 h_x1 h_x2 h_x3 _ (lv_sub hl [0, 1, 2, 3] rfl) hw
    · have hw := hw.2 c2
      refine ml_iload_n (pc := 69) X hl 3 rfl rfl dX12_prices_69 ?_
      refine ml_iload_n (pc := 70) X hl 1 rfl rfl dX12_prices_70 ?_
      refine ml_icmp_eq (pc := 71) (tgt := 205) X h_x3 h_x1 dX12_prices_71 (by decide) (fun c3 => ?_) (fun c3 => ?_)
      · have hw := hw.1 c3
        exact hK205 σ x1 x2 x3 h_x1 h_x2 h_x3 _ (lv_sub hl [0, 1, 2, 3] rfl) hw
      · have hw := hw.2 c3
        refine ml_aload_n (pc := 74) X hl 0 rfl rfl dX12_prices_74 ?_
        refine gf_X12_89 (pc := 75) X (ml_c215 hn) dX12_prices_75 ?_
        refine ml_bipush (pc := 78) X dX12_prices_78 (by decide) ?_
        refine ml_iload_n (pc := 80) X hl 3 rfl rfl dX12_prices_80 ?_
        obtain ⟨v4, hw⟩ := hw
        refine ml_imul (pc := 81) X dX12_prices_81 ?_
        refine ml_iload (pc := 82) X hl 4 rfl dX12_prices_82 ?_
        obtain ⟨v5, hw⟩ := hw
        refine ml_iadd (pc := 84) X dX12_prices_84 ?_
        obtain ⟨a6, b6, hw⟩ := hw
        refine ml_iald (pc := 85) (N := 5700) X (ml_c240 hn) a6 b6 dX12_prices_85 (fun r6 => ?_)
        have hw := hw r6
        refine ml_topI (pc := 86) (fun y7 e7 => ?_)
        have hw := hw y7 e7
        have q7 : I32 y7 := by rw [e7]; exact r6
        refine ml_istore (pc := 86) X hl (by decide) (lst' := [(5, .int (Int32.ofInt y7)), (0, .ref (base + (215 : Int).toNat)), (1, .int (Int32.ofInt x1)), (2, .int (Int32.ofInt x2)), (3, .int (Int32.ofInt x3)), (4, .int (Int32.ofInt x4))]) rfl dX12_prices_86 (fun ls hl => ?_)
        refine ml_aload_n (pc := 88) X hl 1 rfl rfl dX12_prices_88 ?_
        refine gf_X12_119 (pc := 89) X (ml_c215 hn) dX12_prices_89 ?_
        refine ml_iload (pc := 92) X hl 0 rfl dX12_prices_92 ?_
        obtain ⟨a8, b8, hw⟩ := hw
        refine ml_iald (pc := 94) (N := 950) X (ml_c250 hn) a8 b8 dX12_prices_94 (fun r8 => ?_)
        have hw := hw r8
        refine ml_iconst (pc := 95) X dX12_prices_95 ?_
        refine ml_icmp_ne (pc := 96) (tgt := 102) X r8 ⟨by decide, by decide⟩ dX12_prices_96 (by decide) (fun c9 => ?_) (fun c9 => ?_)
        · have hw := hw.1 c9
          refine ml_aload_n (pc := 102) X hl 1 rfl rfl dX12_prices_102 ?_
          refine gf_X12_119 (pc := 103) X (ml_c215 hn) dX12_prices_103 ?_
          refine ml_iload (pc := 106) X hl 0 rfl dX12_prices_106 ?_
          obtain ⟨a10, b10, hw⟩ := hw
          refine ml_iald (pc := 108) (N := 950) X (ml_c250 hn) a10 b10 dX12_prices_108 (fun r10 => ?_)
          have hw := hw r10
          refine ml_aload_n (pc := 109) X hl 1 rfl rfl dX12_prices_109 ?_
          refine gf_X12_27 (pc := 110) X (ml_c215 hn) dX12_prices_110 ?_
          refine ml_aload_n (pc := 113) X hl 1 rfl rfl dX12_prices_113 ?_
          refine gf_X12_80 (pc := 114) X (ml_c215 hn) dX12_prices_114 ?_
          refine ml_iload (pc := 117) X hl 5 rfl dX12_prices_117 ?_
          obtain ⟨a11, b11, hw⟩ := hw
          refine ml_iald (pc := 119) (N := 6) X (ml_c237 hn) a11 b11 dX12_prices_119 (fun r11 => ?_)
          have hw := hw r11
          obtain ⟨a12, b12, hw⟩ := hw
          refine ml_iald (pc := 120) (N := 16) X (ml_c220 hn) a12 b12 dX12_prices_120 (fun r12 => ?_)
          have hw := hw r12
          obtain ⟨v13, hw⟩ := hw
          refine ml_iadd (pc := 121) X dX12_prices_121 ?_
          refine ml_topI (pc := 122) (fun y14 e14 => ?_)
          have hw := hw y14 e14
          have q14 : I32 y14 := by rw [e14]; exact v13
          refine ml_istore (pc := 122) X hl (by decide) (lst' := [(6, .int (Int32.ofInt y14)), (5, .int (Int32.ofInt y7)), (0, .ref (base + (215 : Int).toNat)), (1, .int (Int32.ofInt x1)), (2, .int (Int32.ofInt x2)), (3, .int (Int32.ofInt x3)), (4, .int (Int32.ofInt x4))]) rfl dX12_prices_122 (fun ls hl => ?_)
          refine ml_aload_n (pc := 124) X hl 2 rfl rfl dX12_prices_124 ?_
          refine gf_X12_122 (pc := 125) X (ml_c215 hn) dX12_prices_125 ?_
          refine ml_iload (pc := 128) X hl 1 rfl dX12_prices_128 ?_
          obtain ⟨a15, b15, hw⟩ := hw
          refine ml_iald (pc := 130) (N := 950) X (ml_c251 hn) a15 b15 dX12_prices_130 (fun r15 => ?_)
          have hw := hw r15
          refine ml_iconst (pc := 131) X dX12_prices_131 ?_
          obtain ⟨v16, hw⟩ := hw
          refine ml_iadd (pc := 132) X dX12_prices_132 ?_
          refine ml_topI (pc := 133) (fun y17 e17 => ?_)
          have hw := hw y17 e17
          have q17 : I32 y17 := by rw [e17]; exact v16
          refine ml_istore (pc := 133) X hl (by decide) (lst' := [(7, .int (Int32.ofInt y17)), (6, .int (Int32.ofInt y14)), (5, .int (Int32.ofInt y7)), (0, .ref (base + (215 : Int).toNat)), (1, .int (Int32.ofInt x1)), (2, .int (Int32.ofInt x2)), (3, .int (Int32.ofInt x3)), (4, .int (Int32.ofInt x4))]) rfl dX12_prices_133 (fun ls hl => ?_)
          refine ml_aload_n (pc := 135) X hl 3 rfl rfl dX12_prices_135 ?_
          refine gf_X12_119 (pc := 136) X (ml_c215 hn) dX12_prices_136 ?_
          refine ml_iload_n (pc := 139) X hl 6 rfl rfl dX12_prices_139 ?_
          obtain ⟨a18, b18, hw⟩ := hw
          refine ml_iald (pc := 140) (N := 950) X (ml_c250 hn) a18 b18 dX12_prices_140 (fun r18 => ?_)
          have hw := hw r18
          refine ml_iconst (pc := 141) X dX12_prices_141 ?_
          refine ml_icmp_eq (pc := 142) (tgt := 181) X r18 ⟨by decide, by decide⟩ dX12_prices_142 (by decide) (fun c19 => ?_) (fun c19 => ?_)
          · have hw := hw.1 c19
            exact u_X12_prices_181 X hn ih σ x1 x3 x4 y14 y17 h_x1 h_x3 h_x4 q14 q17 _ (lv_sub hl [3, 4, 6, 7, 1, 0] rfl) hw
          · have hw := hw.2 c19
            refine ml_iload (pc := 145) X hl 1 rfl dX12_prices_145 ?_
            refine ml_aload_n (pc := 147) X hl 3 rfl rfl dX12_prices_147 ?_
            refine gf_X12_119 (pc := 148) X (ml_c215 hn) dX12_prices_148 ?_
            refine ml_iload_n (pc := 151) X hl 6 rfl rfl dX12_prices_151 ?_
            obtain ⟨a20, b20, hw⟩ := hw
            refine ml_iald (pc := 152) (N := 950) X (ml_c250 hn) a20 b20 dX12_prices_152 (fun r20 => ?_)
            have hw := hw r20
            refine ml_icmp_gt (pc := 153) (tgt := 199) X q14 r20 dX12_prices_153 (by decide) (fun c21 => ?_) (fun c21 => ?_)
            · have hw := hw.1 c21
              exact u_X12_prices_199 X hn ih σ x1 x2 x3 x4 h_x1 h_x2 h_x3 h_x4 _ (lv_sub hl [3, 4, 5, 6, 7] rfl) hw
            · have hw := hw.2 c21
              refine ml_iload (pc := 156) X hl 1 rfl dX12_prices_156 ?_
              refine ml_aload_n (pc := 158) X hl 3 rfl rfl dX12_prices_158 ?_
              refine gf_X12_119 (pc := 159) X (ml_c215 hn) dX12_prices_159 ?_
              refine ml_iload_n (pc := 162) X hl 6 rfl rfl dX12_prices_162 ?_
              obtain ⟨a22, b22, hw⟩ := hw
              refine ml_iald (pc := 163) (N := 950) X (ml_c250 hn) a22 b22 dX12_prices_163 (fun r22 => ?_)
              have hw := hw r22
              refine ml_icmp_ne (pc := 164) (tgt := 181) X q14 r22 dX12_prices_164 (by decide) (fun c23 => ?_) (fun c23 => ?_)
              · have hw := hw.1 c23
                exact u_X12_prices_181 X hn ih σ x1 x3 x4 y14 y17 h_x1 h_x3 h_x4 q14 q17 _ (lv_sub hl [3, 4, 6, 7, 1, 0] rfl) hw
              · have hw := hw.2 c23
                refine ml_iload (pc := 167) X hl 0 rfl dX12_prices_167 ?_
                refine ml_aload_n (pc := 169) X hl 3 rfl rfl dX12_prices_169 ?_
                refine gf_X12_122 (pc := 170) X (ml_c215 hn) dX12_prices_170 ?_
                refine ml_iload_n (pc := 173) X hl 6 rfl rfl dX12_prices_173 ?_
                obtain ⟨a24, b24, hw⟩ := hw
                refine ml_iald (pc := 174) (N := 950) X (ml_c251 hn) a24 b24 dX12_prices_174 (fun r24 => ?_)
                have hw := hw r24
                refine ml_icmp_lt (pc := 175) (tgt := 181) X q17 r24 dX12_prices_175 (by decide) (fun c25 => ?_) (fun c25 => ?_)
                · have hw := hw.1 c25
                  exact u_X12_prices_181 X hn ih σ x1 x3 x4 y14 y17 h_x1 h_x3 h_x4 q14 q17 _ (lv_sub hl [3, 4, 6, 7, 1, 0] rfl) hw
                · have hw := hw.2 c25
                  refine ml_goto (pc := 178) (tgt := 199) X dX12_prices_178 (by decide) ?_
                  exact u_X12_prices_199 X hn ih σ x1 x2 x3 x4 h_x1 h_x2 h_x3 h_x4 _ (lv_sub hl [3, 4, 5, 6, 7] rfl) hw
        · have hw := hw.2 c9
          refine ml_goto (pc := 99) (tgt := 199) X dX12_prices_99 (by decide) ?_
          exact u_X12_prices_199 X hn ih σ x1 x2 x3 x4 h_x1 h_x2 h_x3 h_x4 _ (lv_sub hl [1, 2, 3, 4, 5] rfl) hw
set_option maxRecDepth 100000 in
set_option maxHeartbeats 4000000 in
theorem u_X12_prices_205 {p : Program} {e : Env} {s : State} {m : MethodId} {args : Array Value} {below : List Frame} {meth : Method} {c : Code} {base : Nat} {D : va_G} {cA : Nat → ClassId} {n : Nat} {l : Launch} {Q : ml_St → Prop} {K49 : ml_St → Int → Int → Int → Prop} (X : ml_X p s m c meth args D cA cX12_prices 8 RX12 none) (hn : 256 ≤ n) (hK49 : ∀ (σ : ml_St) (x1 : Int) (x2 : Int) (x3 : Int) (h_x1 : I32 x1) (h_x2 : ml_B x2) (h_x3 : I32 x3) (ls : Array Slot), lv_has ls 8 [(0, .ref (base + (215 : Int).toNat)), (1, .int (Int32.ofInt x1)), (2, .int (Int32.ofInt x2)), (3, .int (Int32.ofInt x3))] → K49 σ x1 x2 x3 → ml_V p l e rm_X12_prices s m args below meth c (MQ below (ml_Qv base D cA n Q) args s 0 0 (ml_A base)) base D cA 0 0 n n σ (F0 m 49 ls [])) (σ : ml_St) (x1 : Int) (x2 : Int) (x3 : Int) (h_x1 : I32 x1) (h_x2 : ml_B x2) (h_x3 : I32 x3) (ls : Array Slot) (hl : lv_has ls 8 [(0, .ref (base + (215 : Int).toNat)), (1, .int (Int32.ofInt x1)), (2, .int (Int32.ofInt x2)), (3, .int (Int32.ofInt x3))]) (hw : f_X12_prices_u205 Q K49 σ x1 x2 x3) : ml_V p l e rm_X12_prices s m args below meth c (MQ below (ml_Qv base D cA n Q) args s 0 0 (ml_A base)) base D cA 0 0 n n σ (F0 m 205 ls []) := by
  unfold f_X12_prices_u205 at hw
  obtain ⟨v1, hw⟩ := hw
  obtain ⟨y1, e1⟩ : ∃ y : Int, y = x3 + 1 := ⟨_, rfl⟩
  have hw := hw y1 e1
  rw [← e1] at v1
  refine ml_iinc (pc := 205) X e1 hl 3 rfl (by decide) (lst' := [(3, .int (Int32.ofInt y1)), (0, .ref (base + (215 : Int).toNat)), (1, .int (Int32.ofInt x1)), (2, .int (Int32.ofInt x2))]) rfl dX12_prices_205 (fun ls hl => ?_)
  refine ml_goto (pc := 208) (tgt := 49) X dX12_prices_208 (by decide) ?_
  exact hK49 σ x1 x2 y1 h_x1 h_x2 v1 _ (lv_sub hl [1, 2, 3, 0] rfl) hw
set_option maxRecDepth 100000 in
set_option maxHeartbeats 4000000 in
theorem u_X12_prices_49 {p : Program} {e : Env} {s : State} {m : MethodId} {args : Array Value} {below : List Frame} {meth : Method} {c : Code} {base : Nat} {D : va_G} {cA : Nat → ClassId} {n : Nat} {l : Launch} {Q : ml_St → Prop} {K211 : ml_St → Int → Int → Prop} (X : ml_X p s m c meth args D cA cX12_prices 8 RX12 none) (hn : 256 ≤ n) (hK211 : ∀ (σ : ml_St) (x1 : Int) (x2 : Int) (h_x1 : I32 x1) (h_x2 : ml_B x2) (ls : Array Slot), lv_has ls 8 [(0, .ref (base + (215 : Int).toNat)), (1, .int (Int32.ofInt x1)), (2, .int (Int32.ofInt x2))] → K211 σ x1 x2 → ml_V p l e rm_X12_prices s m args below meth c (MQ below (ml_Qv base D cA n Q) args s 0 0 (ml_A base)) base D cA 0 0 n n σ (F0 m 211 ls [])) : ∀ (N : Nat) (σ : ml_St) (x1 : Int) (x2 : Int) (x3 : Int) (h_x1 : I32 x1) (h_x2 : ml_B x2) (h_x3 : I32 x3) (ls : Array Slot), lv_has ls 8 [(0, .ref (base + (215 : Int).toNat)), (1, .int (Int32.ofInt x1)), (2, .int (Int32.ofInt x2)), (3, .int (Int32.ofInt x3))] → f_X12_prices_u49 Q K211 N σ x1 x2 x3 → ml_V p l e rm_X12_prices s m args below meth c (MQ below (ml_Qv base D cA n Q) args s 0 0 (ml_A base)) base D cA 0 0 n n σ (F0 m 49 ls []) := by
  intro N
  induction N with
  | zero => intro σ x1 x2 x3 h_x1 h_x2 h_x3 ls hl hw; exact False.elim hw
  | succ N ih =>
    intro σ x1 x2 x3 h_x1 h_x2 h_x3 ls hl hw
    unfold f_X12_prices_u49 at hw
    refine ml_iload_n (pc := 49) X hl 3 rfl rfl dX12_prices_49 ?_
    refine ml_aload_n (pc := 50) X hl 0 rfl rfl dX12_prices_50 ?_
    refine gf_X12_367 (pc := 51) X (ml_c215 hn) dX12_prices_51 (fun r1 => ?_)
    have hw := hw r1
    refine ml_icmp_ge (pc := 54) (tgt := 211) X h_x3 r1 dX12_prices_54 (by decide) (fun c2 => ?_) (fun c2 => ?_)
    · have hw := hw.1 c2
      exact hK211 σ x1 x2 h_x1 h_x2 _ (lv_sub hl [0, 1, 2] rfl) hw
    · have hw := hw.2 c2
      refine ml_iconst (pc := 57) X dX12_prices_57 ?_
      refine ml_istore (pc := 58) X hl (by decide) (lst' := [(4, .int (Int32.ofInt 0)), (0, .ref (base + (215 : Int).toNat)), (1, .int (Int32.ofInt x1)), (2, .int (Int32.ofInt x2)), (3, .int (Int32.ofInt x3))]) rfl dX12_prices_58 (fun ls hl => ?_)
      obtain ⟨N0, hw⟩ := hw
      exact u_X12_prices_60 X hn (fun σ x1 x2 x3 h_x1 h_x2 h_x3 ls hl hw => u_X12_prices_205 X hn ih σ x1 x2 x3 h_x1 h_x2 h_x3 ls hl hw) N0 σ x1 x2 x3 0 h_x1 h_x2 h_x3 ⟨by decide, by decide⟩ _ (lv_sub hl [1, 2, 3, 4, 0] rfl) hw
set_option maxRecDepth 100000 in
set_option maxHeartbeats 4000000 in
theorem u_X12_prices_211 {p : Program} {e : Env} {s : State} {m : MethodId} {args : Array Value} {below : List Frame} {meth : Method} {c : Code} {base : Nat} {D : va_G} {cA : Nat → ClassId} {n : Nat} {l : Launch} {Q : ml_St → Prop} {K41 : ml_St → Int → Int → Prop} (X : ml_X p s m c meth args D cA cX12_prices 8 RX12 none) (hn : 256 ≤ n) (hK41 : ∀ (σ : ml_St) (x1 : Int) (x2 : Int) (h_x1 : I32 x1) (h_x2 : ml_B x2) (ls : Array Slot), lv_has ls 8 [(0, .ref (base + (215 : Int).toNat)), (1, .int (Int32.ofInt x1)), (2, .int (Int32.ofInt x2))] → K41 σ x1 x2 → ml_V p l e rm_X12_prices s m args below meth c (MQ below (ml_Qv base D cA n Q) args s 0 0 (ml_A base)) base D cA 0 0 n n σ (F0 m 41 ls [])) (σ : ml_St) (x1 : Int) (x2 : Int) (h_x1 : I32 x1) (h_x2 : ml_B x2) (ls : Array Slot) (hl : lv_has ls 8 [(0, .ref (base + (215 : Int).toNat)), (1, .int (Int32.ofInt x1)), (2, .int (Int32.ofInt x2))]) (hw : f_X12_prices_u211 Q K41 σ x1 x2) : ml_V p l e rm_X12_prices s m args below meth c (MQ below (ml_Qv base D cA n Q) args s 0 0 (ml_A base)) base D cA 0 0 n n σ (F0 m 211 ls []) := by
  unfold f_X12_prices_u211 at hw
  refine ml_goto (pc := 211) (tgt := 41) X dX12_prices_211 (by decide) ?_
  exact hK41 σ x1 x2 h_x1 h_x2 _ (lv_sub hl [0, 1, 2] rfl) hw
set_option maxRecDepth 100000 in
set_option maxHeartbeats 4000000 in
theorem u_X12_prices_41 {p : Program} {e : Env} {s : State} {m : MethodId} {args : Array Value} {below : List Frame} {meth : Method} {c : Code} {base : Nat} {D : va_G} {cA : Nat → ClassId} {n : Nat} {l : Launch} {Q : ml_St → Prop} {K214 : ml_St → Prop} (X : ml_X p s m c meth args D cA cX12_prices 8 RX12 none) (hn : 256 ≤ n) (hK214 : ∀ (σ : ml_St) (ls : Array Slot), lv_has ls 8 [] → K214 σ → ml_V p l e rm_X12_prices s m args below meth c (MQ below (ml_Qv base D cA n Q) args s 0 0 (ml_A base)) base D cA 0 0 n n σ (F0 m 214 ls [])) : ∀ (N : Nat) (σ : ml_St) (x1 : Int) (x2 : Int) (h_x1 : I32 x1) (h_x2 : ml_B x2) (ls : Array Slot), lv_has ls 8 [(0, .ref (base + (215 : Int).toNat)), (1, .int (Int32.ofInt x1)), (2, .int (Int32.ofInt x2))] → f_X12_prices_u41 Q K214 N σ x1 x2 → ml_V p l e rm_X12_prices s m args below meth c (MQ below (ml_Qv base D cA n Q) args s 0 0 (ml_A base)) base D cA 0 0 n n σ (F0 m 41 ls []) := by
  intro N
  induction N with
  | zero => intro σ x1 x2 h_x1 h_x2 ls hl hw; exact False.elim hw
  | succ N ih =>
    intro σ x1 x2 h_x1 h_x2 ls hl hw
    unfold f_X12_prices_u41 at hw
    refine ml_iload_n (pc := 41) X hl 2 rfl rfl dX12_prices_41 ?_
    refine ml_if_eq (pc := 42) (tgt := 214) X h_x2.i dX12_prices_42 (by decide) (fun c1 => ?_) (fun c1 => ?_)
    · have hw := hw.1 c1
      exact hK214 σ   _ (lv_sub hl [] rfl) hw
    · have hw := hw.2 c1
      refine ml_iconst (pc := 45) X dX12_prices_45 ?_
      refine ml_istore_n (pc := 46) X rfl hl (by decide) (lst' := [(2, .int (Int32.ofInt 0)), (0, .ref (base + (215 : Int).toNat)), (1, .int (Int32.ofInt x1))]) rfl dX12_prices_46 (fun ls hl => ?_)
      refine ml_iconst (pc := 47) X dX12_prices_47 ?_
      refine ml_istore_n (pc := 48) X rfl hl (by decide) (lst' := [(3, .int (Int32.ofInt 0)), (2, .int (Int32.ofInt 0)), (0, .ref (base + (215 : Int).toNat)), (1, .int (Int32.ofInt x1))]) rfl dX12_prices_48 (fun ls hl => ?_)
      obtain ⟨N0, hw⟩ := hw
      exact u_X12_prices_49 X hn (fun σ x1 x2 h_x1 h_x2 ls hl hw => u_X12_prices_211 X hn ih σ x1 x2 h_x1 h_x2 ls hl hw) N0 σ x1 0 0 h_x1 ⟨by decide, by decide⟩ ⟨by decide, by decide⟩ _ (lv_sub hl [2, 3, 1, 0] rfl) hw
set_option maxRecDepth 100000 in
set_option maxHeartbeats 4000000 in
theorem u_X12_prices_214 {p : Program} {e : Env} {s : State} {m : MethodId} {args : Array Value} {below : List Frame} {meth : Method} {c : Code} {base : Nat} {D : va_G} {cA : Nat → ClassId} {n : Nat} {l : Launch} {Q : ml_St → Prop} (X : ml_X p s m c meth args D cA cX12_prices 8 RX12 none) (hn : 256 ≤ n) (σ : ml_St) (ls : Array Slot) (hl : lv_has ls 8 []) (hw : f_X12_prices_u214 Q σ) : ml_V p l e rm_X12_prices s m args below meth c (MQ below (ml_Qv base D cA n Q) args s 0 0 (ml_A base)) base D cA 0 0 n n σ (F0 m 214 ls []) := by
  unfold f_X12_prices_u214 at hw
  exact ml_vret (pc := 214) X hw dX12_prices_214
set_option maxRecDepth 100000 in
set_option maxHeartbeats 4000000 in
theorem u_X12_prices_32 {p : Program} {e : Env} {s : State} {m : MethodId} {args : Array Value} {below : List Frame} {meth : Method} {c : Code} {base : Nat} {D : va_G} {cA : Nat → ClassId} {n : Nat} {l : Launch} {Q : ml_St → Prop} (X : ml_X p s m c meth args D cA cX12_prices 8 RX12 none) (hn : 256 ≤ n) (σ : ml_St) (x1 : Int) (h_x1 : I32 x1) (ls : Array Slot) (hl : lv_has ls 8 [(0, .ref (base + (215 : Int).toNat)), (1, .int (Int32.ofInt x1))]) (hw : f_X12_prices_u32 Q σ x1) : ml_V p l e rm_X12_prices s m args below meth c (MQ below (ml_Qv base D cA n Q) args s 0 0 (ml_A base)) base D cA 0 0 n n σ (F0 m 32 ls []) := by
  unfold f_X12_prices_u32 at hw
  refine ml_aload_n (pc := 32) X hl 0 rfl rfl dX12_prices_32 ?_
  refine gf_X12_122 (pc := 33) X (ml_c215 hn) dX12_prices_33 ?_
  refine ml_iload_n (pc := 36) X hl 1 rfl rfl dX12_prices_36 ?_
  refine ml_iconst (pc := 37) X dX12_prices_37 ?_
  obtain ⟨a1, b1, hw⟩ := hw
  refine ml_iast (pc := 38) (N := 950) X (ml_c251 hn) a1 b1 ⟨by decide, by decide⟩ dX12_prices_38 (fun σ1 g1 => ?_)
  have hw := hw σ1 g1
  refine ml_iconst (pc := 39) X dX12_prices_39 ?_
  refine ml_istore_n (pc := 40) X rfl hl (by decide) (lst' := [(2, .int (Int32.ofInt 1)), (0, .ref (base + (215 : Int).toNat)), (1, .int (Int32.ofInt x1))]) rfl dX12_prices_40 (fun ls hl => ?_)
  obtain ⟨N0, hw⟩ := hw
  exact u_X12_prices_41 X hn (fun σ   ls hl hw => u_X12_prices_214 X hn σ   ls hl hw) N0 σ1 x1 1 h_x1 ⟨by decide, by decide⟩ _ (lv_sub hl [1, 2, 0] rfl) hw
set_option maxRecDepth 100000 in
set_option maxHeartbeats 4000000 in
theorem u_X12_prices_0 {p : Program} {e : Env} {s : State} {m : MethodId} {args : Array Value} {below : List Frame} {meth : Method} {c : Code} {base : Nat} {D : va_G} {cA : Nat → ClassId} {n : Nat} {l : Launch} {Q : ml_St → Prop} (X : ml_X p s m c meth args D cA cX12_prices 8 RX12 none) (hn : 256 ≤ n) (σ : ml_St) (x1 : Int) (h_x1 : I32 x1) (ls : Array Slot) (hl : lv_has ls 8 [(0, .ref (base + (215 : Int).toNat)), (1, .int (Int32.ofInt x1))]) (hw : f_X12_prices_u0 Q σ x1) : ml_V p l e rm_X12_prices s m args below meth c (MQ below (ml_Qv base D cA n Q) args s 0 0 (ml_A base)) base D cA 0 0 n n σ (F0 m 0 ls []) := by
  unfold f_X12_prices_u0 at hw
  refine ml_iconst (pc := 0) X dX12_prices_0 ?_
  refine ml_istore_n (pc := 1) X rfl hl (by decide) (lst' := [(2, .int (Int32.ofInt 0)), (0, .ref (base + (215 : Int).toNat)), (1, .int (Int32.ofInt x1))]) rfl dX12_prices_1 (fun ls hl => ?_)
  obtain ⟨N0, hw⟩ := hw
  exact u_X12_prices_2 X hn (fun σ x1 h_x1 ls hl hw => u_X12_prices_32 X hn σ x1 h_x1 ls hl hw) N0 σ x1 0 h_x1 ⟨by decide, by decide⟩ _ (lv_sub hl [1, 2, 0] rfl) hw
set_option maxRecDepth 100000 in
theorem c_X12_prices (l : Launch) (base : Nat) (D : va_G) (cA : Nat → ClassId) (n : Nat) (hn : 256 ≤ n) (σ : ml_St) (x1 : Int) (h_x1 : I32 x1) (Q : ml_St → Prop) (hw : f_X12_prices σ x1 Q) : Met l yX12_prices (Cond.code yX12_prices cX12_prices 8 none :: ml_T) rm_X12_prices (va_Pc [.ref (base + (215 : Int).toNat), .int (Int32.ofInt x1)] (ml_U base D cA n σ)) (ml_Qv base D cA n Q) 0 0 (ml_A base) := by
  refine Met.ofW (cc := cX12_prices) (maxL := 8) (ret := none) (by decide) rfl ?_
  intro p e s m args below meth c s₁ B hml hv
  obtain ⟨rfl, hP, hK, hok, hro⟩ := hv
  have X : ml_X p s m c meth _ D cA cX12_prices 8 RX12 none := ⟨B.exec, B.bytes, hml, findClass_of_methodNamed B.named, fun w hw => atoms_spec (ws := Cond.code yX12_prices cX12_prices 8 none :: ml_T) B.pre w (List.mem_cons_of_mem _ hw), hK, B.notSynchronized, B.returns⟩
  have hl := lv_entry [.ref (base + (215 : Int).toNat), .int (Int32.ofInt x1)] (n := 8) (Nat.le_of_ble_eq_true rfl)
  rw [lg_entry_eq]
  generalize (lg_sl [.ref (base + (215 : Int).toNat), .int (Int32.ofInt x1)] ++ List.replicate (8 - (lg_sl [.ref (base + (215 : Int).toNat), .int (Int32.ofInt x1)]).length) Slot.unset).toArray = ls at hl ⊢
  have hl : lv_has ls 8 [(0, .ref (base + (215 : Int).toNat)), (1, .int (Int32.ofInt x1))] := hl
  unfold f_X12_prices at hw
  exact u_X12_prices_0 X hn σ x1 h_x1 _ (lv_sub hl [0, 1] rfl) hw s.heap [] hP va_S.rf hok hro
theorem dX12_targetOf_0 : decode cX12_targetOf 0 = .ok (.aload_n 0, 1) := by decide +kernel
theorem dX12_targetOf_1 : decode cX12_targetOf 1 = .ok (.iload_n 1, 1) := by decide +kernel
theorem dX12_targetOf_2 : decode cX12_targetOf 2 = .ok (.invokevirtual 310, 3) := by decide +kernel
theorem dX12_targetOf_5 : decode cX12_targetOf 5 = .ok (.lstore_n 2, 1) := by decide +kernel
theorem dX12_targetOf_6 : decode cX12_targetOf 6 = .ok (.iconst 0, 1) := by decide +kernel
theorem dX12_targetOf_7 : decode cX12_targetOf 7 = .ok (.istore 4, 2) := by decide +kernel
theorem dX12_targetOf_9 : decode cX12_targetOf 9 = .ok (.iload 4, 2) := by decide +kernel
theorem dX12_targetOf_11 : decode cX12_targetOf 11 = .ok (.aload_n 0, 1) := by decide +kernel
theorem dX12_targetOf_12 : decode cX12_targetOf 12 = .ok (.getfield 367, 3) := by decide +kernel
theorem dX12_targetOf_15 : decode cX12_targetOf 15 = .ok (.if_icmp .ge 24, 3) := by decide +kernel
theorem dX12_targetOf_18 : decode cX12_targetOf 18 = .ok (.aload_n 0, 1) := by decide +kernel
theorem dX12_targetOf_19 : decode cX12_targetOf 19 = .ok (.getfield 83, 3) := by decide +kernel
theorem dX12_targetOf_22 : decode cX12_targetOf 22 = .ok (.iload 4, 2) := by decide +kernel
theorem dX12_targetOf_24 : decode cX12_targetOf 24 = .ok (.laload, 1) := by decide +kernel
theorem dX12_targetOf_25 : decode cX12_targetOf 25 = .ok (.lload_n 2, 1) := by decide +kernel
theorem dX12_targetOf_26 : decode cX12_targetOf 26 = .ok (.lcmp, 1) := by decide +kernel
theorem dX12_targetOf_27 : decode cX12_targetOf 27 = .ok (.ifCond .ne 6, 3) := by decide +kernel
theorem dX12_targetOf_30 : decode cX12_targetOf 30 = .ok (.iload 4, 2) := by decide +kernel
theorem dX12_targetOf_32 : decode cX12_targetOf 32 = .ok (.ireturn, 1) := by decide +kernel
theorem dX12_targetOf_33 : decode cX12_targetOf 33 = .ok (.iinc 4 1, 3) := by decide +kernel
theorem dX12_targetOf_36 : decode cX12_targetOf 36 = .ok (.goto (-27), 3) := by decide +kernel
theorem dX12_targetOf_39 : decode cX12_targetOf 39 = .ok (.iconst (-1), 1) := by decide +kernel
theorem dX12_targetOf_40 : decode cX12_targetOf 40 = .ok (.ireturn, 1) := by decide +kernel
def f_X12_targetOf_u9 (Q : Int → ml_St → Prop) (K30 : ml_St → Int → Prop) (K39 : ml_St → Prop) : Nat → ml_St → Int → Int → Prop
| 0, _, _, _ => False
| N + 1, σ, x2, x4 =>
∀ _ : I32 (σ 215 39),
((σ 215 39) ≤ x4 →
K39 σ) ∧
(¬ ((σ 215 39) ≤ x4) →
(0 : Int) ≤ x4 ∧ (x4 : Int) < 950 ∧
∀ _ : I64 (σ 238 x4),
((σ 238 x4) ≠ x2 →
I32 (x4 + 1) ∧
∀ y5 : Int, y5 = x4 + 1 →
f_X12_targetOf_u9 Q K30 K39 N σ x2 y5) ∧
((σ 238 x4) = x2 →
K30 σ x4))
def f_X12_targetOf_u30 (Q : Int → ml_St → Prop) (σ : ml_St) (x4 : Int) : Prop :=
Q x4 σ
def f_X12_targetOf_u39 (Q : Int → ml_St → Prop) (σ : ml_St) : Prop :=
Q (-1) σ
def f_X12_targetOf_u0 (Q : Int → ml_St → Prop) (σ : ml_St) (x1 : Int) : Prop :=
f_X12_codeOf σ x1 (fun r1 σ1 => ∀ _ : I64 r1,
∃ N1, f_X12_targetOf_u9 Q (f_X12_targetOf_u30 Q) (f_X12_targetOf_u39 Q) N1 σ1 r1 0)
def f_X12_targetOf (σ : ml_St) (x1 : Int) (Q : Int → ml_St → Prop) : Prop := f_X12_targetOf_u0 Q σ x1
def rm_X12_targetOf : Room := { frames := 1, cells := 0, slots := 0, locals := 24 }
set_option maxRecDepth 100000 in
set_option maxHeartbeats 4000000 in
theorem u_X12_targetOf_9 {p : Program} {e : Env} {s : State} {m : MethodId} {args : Array Value} {below : List Frame} {meth : Method} {c : Code} {base : Nat} {D : va_G} {cA : Nat → ClassId} {n : Nat} {l : Launch} {Q : Int → ml_St → Prop} {K30 : ml_St → Int → Prop} {K39 : ml_St → Prop} (X : ml_X p s m c meth args D cA cX12_targetOf 5 RX12 (some .int)) (hn : 256 ≤ n) (hK30 : ∀ (σ : ml_St) (x4 : Int) (h_x4 : I32 x4) (ls : Array Slot), lv_has ls 5 [(4, .int (Int32.ofInt x4))] → K30 σ x4 → ml_V p l e rm_X12_targetOf s m args below meth c (MQ below (ml_Qi I32 base D cA n Q) args s 0 0 (ml_A base)) base D cA 0 0 n n σ (F0 m 30 ls [])) (hK39 : ∀ (σ : ml_St) (ls : Array Slot), lv_has ls 5 [] → K39 σ → ml_V p l e rm_X12_targetOf s m args below meth c (MQ below (ml_Qi I32 base D cA n Q) args s 0 0 (ml_A base)) base D cA 0 0 n n σ (F0 m 39 ls [])) : ∀ (N : Nat) (σ : ml_St) (x2 : Int) (x4 : Int) (h_x2 : I64 x2) (h_x4 : I32 x4) (ls : Array Slot), lv_has ls 5 [(0, .ref (base + (215 : Int).toNat)), (2, .long (Int64.ofInt x2)), (4, .int (Int32.ofInt x4))] → f_X12_targetOf_u9 Q K30 K39 N σ x2 x4 → ml_V p l e rm_X12_targetOf s m args below meth c (MQ below (ml_Qi I32 base D cA n Q) args s 0 0 (ml_A base)) base D cA 0 0 n n σ (F0 m 9 ls []) := by
  intro N
  induction N with
  | zero => intro σ x2 x4 h_x2 h_x4 ls hl hw; exact False.elim hw
  | succ N ih =>
    intro σ x2 x4 h_x2 h_x4 ls hl hw
    unfold f_X12_targetOf_u9 at hw
    refine ml_iload (pc := 9) X hl 2 rfl dX12_targetOf_9 ?_
    refine ml_aload_n (pc := 11) X hl 0 rfl rfl dX12_targetOf_11 ?_
    refine gf_X12_367 (pc := 12) X (ml_c215 hn) dX12_targetOf_12 (fun r1 => ?_)
    have hw := hw r1
    refine ml_icmp_ge (pc := 15) (tgt := 39) X h_x4 r1 dX12_targetOf_15 (by decide) (fun c2 => ?_) (fun c2 => ?_)
    · have hw := hw.1 c2
      exact hK39 σ   _ (lv_sub hl [] rfl) hw
    · have hw := hw.2 c2
      refine ml_aload_n (pc := 18) X hl 0 rfl rfl dX12_targetOf_18 ?_
      refine gf_X12_83 (pc := 19) X (ml_c215 hn) dX12_targetOf_19 ?_
      refine ml_iload (pc := 22) X hl 2 rfl dX12_targetOf_22 ?_
      obtain ⟨a3, b3, hw⟩ := hw
      refine ml_lald (pc := 24) (N := 950) X (ml_c238 hn) a3 b3 dX12_targetOf_24 (fun r3 => ?_)
      have hw := hw r3
      refine ml_lload_n (pc := 25) X hl 1 rfl rfl dX12_targetOf_25 ?_
      refine ml_lcmp_ne (pc := 26) (tgt := 33) X r3 h_x2 dX12_targetOf_26 dX12_targetOf_27 (by decide) (fun c4 => ?_) (fun c4 => ?_)
      · have hw := hw.1 c4
        obtain ⟨v5, hw⟩ := hw
        obtain ⟨y5, e5⟩ : ∃ y : Int, y = x4 + 1 := ⟨_, rfl⟩
        have hw := hw y5 e5
        rw [← e5] at v5
        refine ml_iinc (pc := 33) X e5 hl 2 rfl (by decide) (lst' := [(4, .int (Int32.ofInt y5)), (0, .ref (base + (215 : Int).toNat)), (2, .long (Int64.ofInt x2))]) rfl dX12_targetOf_33 (fun ls hl => ?_)
        refine ml_goto (pc := 36) (tgt := 9) X dX12_targetOf_36 (by decide) ?_
        exact ih σ x2 y5 h_x2 v5 _ (lv_sub hl [1, 2, 0] rfl) hw
      · have hw := hw.2 c4
        exact hK30 σ x4 h_x4 _ (lv_sub hl [2] rfl) hw
set_option maxRecDepth 100000 in
set_option maxHeartbeats 4000000 in
theorem u_X12_targetOf_30 {p : Program} {e : Env} {s : State} {m : MethodId} {args : Array Value} {below : List Frame} {meth : Method} {c : Code} {base : Nat} {D : va_G} {cA : Nat → ClassId} {n : Nat} {l : Launch} {Q : Int → ml_St → Prop} (X : ml_X p s m c meth args D cA cX12_targetOf 5 RX12 (some .int)) (hn : 256 ≤ n) (σ : ml_St) (x4 : Int) (h_x4 : I32 x4) (ls : Array Slot) (hl : lv_has ls 5 [(4, .int (Int32.ofInt x4))]) (hw : f_X12_targetOf_u30 Q σ x4) : ml_V p l e rm_X12_targetOf s m args below meth c (MQ below (ml_Qi I32 base D cA n Q) args s 0 0 (ml_A base)) base D cA 0 0 n n σ (F0 m 30 ls []) := by
  unfold f_X12_targetOf_u30 at hw
  refine ml_iload (pc := 30) X hl 0 rfl dX12_targetOf_30 ?_
  exact ml_iret (pc := 32) X h_x4 hw dX12_targetOf_32
set_option maxRecDepth 100000 in
set_option maxHeartbeats 4000000 in
theorem u_X12_targetOf_39 {p : Program} {e : Env} {s : State} {m : MethodId} {args : Array Value} {below : List Frame} {meth : Method} {c : Code} {base : Nat} {D : va_G} {cA : Nat → ClassId} {n : Nat} {l : Launch} {Q : Int → ml_St → Prop} (X : ml_X p s m c meth args D cA cX12_targetOf 5 RX12 (some .int)) (hn : 256 ≤ n) (σ : ml_St) (ls : Array Slot) (hl : lv_has ls 5 []) (hw : f_X12_targetOf_u39 Q σ) : ml_V p l e rm_X12_targetOf s m args below meth c (MQ below (ml_Qi I32 base D cA n Q) args s 0 0 (ml_A base)) base D cA 0 0 n n σ (F0 m 39 ls []) := by
  unfold f_X12_targetOf_u39 at hw
  refine ml_iconst (pc := 39) X dX12_targetOf_39 ?_
  exact ml_iret (pc := 40) X ⟨by decide, by decide⟩ hw dX12_targetOf_40
set_option maxRecDepth 100000 in
set_option maxHeartbeats 4000000 in
theorem u_X12_targetOf_0 {p : Program} {e : Env} {s : State} {m : MethodId} {args : Array Value} {below : List Frame} {meth : Method} {c : Code} {base : Nat} {D : va_G} {cA : Nat → ClassId} {n : Nat} {l : Launch} {Q : Int → ml_St → Prop} (X : ml_X p s m c meth args D cA cX12_targetOf 5 RX12 (some .int)) (hn : 256 ≤ n) (σ : ml_St) (x1 : Int) (h_x1 : I32 x1) (ls : Array Slot) (hl : lv_has ls 5 [(0, .ref (base + (215 : Int).toNat)), (1, .int (Int32.ofInt x1))]) (hw : f_X12_targetOf_u0 Q σ x1) : ml_V p l e rm_X12_targetOf s m args below meth c (MQ below (ml_Qi I32 base D cA n Q) args s 0 0 (ml_A base)) base D cA 0 0 n n σ (F0 m 0 ls []) := by
  unfold f_X12_targetOf_u0 at hw
  refine ml_aload_n (pc := 0) X hl 0 rfl rfl dX12_targetOf_0 ?_
  refine ml_iload_n (pc := 1) X hl 1 rfl rfl dX12_targetOf_1 ?_
  refine ml_calllV (pc := 2) (rest := []) X [.int (Int32.ofInt x1)] (by decide) rfl (ml_c215 hn) (c_X12_codeOf l base D cA n hn σ x1 h_x1 _ hw) cv_X12_310 ⟨rfl, rfl⟩ ⟨by decide, by decide⟩ rfl rfl hl (Nat.le_of_ble_eq_true rfl) ⟨Nat.zero_le _, Nat.zero_le _⟩ dX12_targetOf_2 (fun r1 σ1 t1 hw => ?_)
  have hw := hw t1
  refine ml_lstore_n (pc := 5) X rfl hl (by decide) (lst' := [(2, .long (Int64.ofInt r1)), (0, .ref (base + (215 : Int).toNat)), (1, .int (Int32.ofInt x1))]) rfl dX12_targetOf_5 (fun ls hl => ?_)
  refine ml_iconst (pc := 6) X dX12_targetOf_6 ?_
  refine ml_istore (pc := 7) X hl (by decide) (lst' := [(4, .int (Int32.ofInt 0)), (2, .long (Int64.ofInt r1)), (0, .ref (base + (215 : Int).toNat)), (1, .int (Int32.ofInt x1))]) rfl dX12_targetOf_7 (fun ls hl => ?_)
  obtain ⟨N0, hw⟩ := hw
  exact u_X12_targetOf_9 X hn (fun σ x4 h_x4 ls hl hw => u_X12_targetOf_30 X hn σ x4 h_x4 ls hl hw) (fun σ   ls hl hw => u_X12_targetOf_39 X hn σ   ls hl hw) N0 σ1 r1 0 t1 ⟨by decide, by decide⟩ _ (lv_sub hl [2, 1, 0] rfl) hw
set_option maxRecDepth 100000 in
theorem c_X12_targetOf (l : Launch) (base : Nat) (D : va_G) (cA : Nat → ClassId) (n : Nat) (hn : 256 ≤ n) (σ : ml_St) (x1 : Int) (h_x1 : I32 x1) (Q : Int → ml_St → Prop) (hw : f_X12_targetOf σ x1 Q) : Met l yX12_targetOf (Cond.code yX12_targetOf cX12_targetOf 5 (some .int) :: ml_T) rm_X12_targetOf (va_Pc [.ref (base + (215 : Int).toNat), .int (Int32.ofInt x1)] (ml_U base D cA n σ)) (ml_Qi I32 base D cA n Q) 0 0 (ml_A base) := by
  refine Met.ofW (cc := cX12_targetOf) (maxL := 5) (ret := (some .int)) (by decide) rfl ?_
  intro p e s m args below meth c s₁ B hml hv
  obtain ⟨rfl, hP, hK, hok, hro⟩ := hv
  have X : ml_X p s m c meth _ D cA cX12_targetOf 5 RX12 (some .int) := ⟨B.exec, B.bytes, hml, findClass_of_methodNamed B.named, fun w hw => atoms_spec (ws := Cond.code yX12_targetOf cX12_targetOf 5 (some .int) :: ml_T) B.pre w (List.mem_cons_of_mem _ hw), hK, B.notSynchronized, B.returns⟩
  have hl := lv_entry [.ref (base + (215 : Int).toNat), .int (Int32.ofInt x1)] (n := 5) (Nat.le_of_ble_eq_true rfl)
  rw [lg_entry_eq]
  generalize (lg_sl [.ref (base + (215 : Int).toNat), .int (Int32.ofInt x1)] ++ List.replicate (5 - (lg_sl [.ref (base + (215 : Int).toNat), .int (Int32.ofInt x1)]).length) Slot.unset).toArray = ls at hl ⊢
  have hl : lv_has ls 5 [(0, .ref (base + (215 : Int).toNat)), (1, .int (Int32.ofInt x1))] := hl
  unfold f_X12_targetOf at hw
  exact u_X12_targetOf_0 X hn σ x1 h_x1 _ (lv_sub hl [0, 1] rfl) hw s.heap [] hP va_S.rf hok hro
