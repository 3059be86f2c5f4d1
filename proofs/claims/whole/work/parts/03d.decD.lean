theorem dX11_init_0 : decode cX11_init 0 = .ok (.aload_n 0, 1) := by decide +kernel
theorem dX11_init_1 : decode cX11_init 1 = .ok (.invokespecial 3, 3) := by decide +kernel
theorem dX11_init_4 : decode cX11_init 4 = .ok (.aload_n 0, 1) := by decide +kernel
theorem dX11_init_5 : decode cX11_init 5 = .ok (.bipush 13, 2) := by decide +kernel
theorem dX11_init_7 : decode cX11_init 7 = .ok (.putfield 9, 3) := by decide +kernel
theorem dX11_init_10 : decode cX11_init 10 = .ok (.aload_n 0, 1) := by decide +kernel
theorem dX11_init_11 : decode cX11_init 11 = .ok (.iconst 3, 1) := by decide +kernel
theorem dX11_init_12 : decode cX11_init 12 = .ok (.putfield 15, 3) := by decide +kernel
theorem dX11_init_15 : decode cX11_init 15 = .ok (.aload_n 0, 1) := by decide +kernel
theorem dX11_init_16 : decode cX11_init 16 = .ok (.iconst 2, 1) := by decide +kernel
theorem dX11_init_17 : decode cX11_init 17 = .ok (.putfield 18, 3) := by decide +kernel
theorem dX11_init_20 : decode cX11_init 20 = .ok (.aload_n 0, 1) := by decide +kernel
theorem dX11_init_21 : decode cX11_init 21 = .ok (.bipush 30, 2) := by decide +kernel
theorem dX11_init_23 : decode cX11_init 23 = .ok (.putfield 21, 3) := by decide +kernel
theorem dX11_init_26 : decode cX11_init 26 = .ok (.aload_n 0, 1) := by decide +kernel
theorem dX11_init_27 : decode cX11_init 27 = .ok (.iconst 3, 1) := by decide +kernel
theorem dX11_init_28 : decode cX11_init 28 = .ok (.putfield 24, 3) := by decide +kernel
theorem dX11_init_31 : decode cX11_init 31 = .ok (.aload_n 0, 1) := by decide +kernel
theorem dX11_init_32 : decode cX11_init 32 = .ok (.iconst 4, 1) := by decide +kernel
theorem dX11_init_33 : decode cX11_init 33 = .ok (.newarray .int, 2) := by decide +kernel
theorem dX11_init_35 : decode cX11_init 35 = .ok (.putfield 27, 3) := by decide +kernel
theorem dX11_init_38 : decode cX11_init 38 = .ok (.aload_n 0, 1) := by decide +kernel
theorem dX11_init_39 : decode cX11_init 39 = .ok (.iconst 4, 1) := by decide +kernel
theorem dX11_init_40 : decode cX11_init 40 = .ok (.newarray .int, 2) := by decide +kernel
theorem dX11_init_42 : decode cX11_init 42 = .ok (.putfield 31, 3) := by decide +kernel
theorem dX11_init_45 : decode cX11_init 45 = .ok (.aload_n 0, 1) := by decide +kernel
theorem dX11_init_46 : decode cX11_init 46 = .ok (.iconst 4, 1) := by decide +kernel
theorem dX11_init_47 : decode cX11_init 47 = .ok (.newarray .int, 2) := by decide +kernel
theorem dX11_init_49 : decode cX11_init 49 = .ok (.putfield 34, 3) := by decide +kernel
theorem dX11_init_52 : decode cX11_init 52 = .ok (.aload_n 0, 1) := by decide +kernel
theorem dX11_init_53 : decode cX11_init 53 = .ok (.iconst 4, 1) := by decide +kernel
theorem dX11_init_54 : decode cX11_init 54 = .ok (.newarray .int, 2) := by decide +kernel
theorem dX11_init_56 : decode cX11_init 56 = .ok (.putfield 37, 3) := by decide +kernel
theorem dX11_init_59 : decode cX11_init 59 = .ok (.aload_n 0, 1) := by decide +kernel
theorem dX11_init_60 : decode cX11_init 60 = .ok (.iconst 4, 1) := by decide +kernel
theorem dX11_init_61 : decode cX11_init 61 = .ok (.newarray .boolean, 2) := by decide +kernel
theorem dX11_init_63 : decode cX11_init 63 = .ok (.putfield 40, 3) := by decide +kernel
theorem dX11_init_66 : decode cX11_init 66 = .ok (.aload_n 0, 1) := by decide +kernel
theorem dX11_init_67 : decode cX11_init 67 = .ok (.iconst 4, 1) := by decide +kernel
theorem dX11_init_68 : decode cX11_init 68 = .ok (.newarray .int, 2) := by decide +kernel
theorem dX11_init_70 : decode cX11_init 70 = .ok (.putfield 44, 3) := by decide +kernel
theorem dX11_init_73 : decode cX11_init 73 = .ok (.aload_n 0, 1) := by decide +kernel
theorem dX11_init_74 : decode cX11_init 74 = .ok (.iconst 4, 1) := by decide +kernel
theorem dX11_init_75 : decode cX11_init 75 = .ok (.newarray .int, 2) := by decide +kernel
theorem dX11_init_77 : decode cX11_init 77 = .ok (.putfield 47, 3) := by decide +kernel
theorem dX11_init_80 : decode cX11_init 80 = .ok (.aload_n 0, 1) := by decide +kernel
theorem dX11_init_81 : decode cX11_init 81 = .ok (.iconst 4, 1) := by decide +kernel
theorem dX11_init_82 : decode cX11_init 82 = .ok (.newarray .long, 2) := by decide +kernel
theorem dX11_init_84 : decode cX11_init 84 = .ok (.putfield 50, 3) := by decide +kernel
theorem dX11_init_87 : decode cX11_init 87 = .ok (.aload_n 0, 1) := by decide +kernel
theorem dX11_init_88 : decode cX11_init 88 = .ok (.iconst 4, 1) := by decide +kernel
theorem dX11_init_89 : decode cX11_init 89 = .ok (.newarray .boolean, 2) := by decide +kernel
theorem dX11_init_91 : decode cX11_init 91 = .ok (.putfield 54, 3) := by decide +kernel
theorem dX11_init_94 : decode cX11_init 94 = .ok (.aload_n 0, 1) := by decide +kernel
theorem dX11_init_95 : decode cX11_init 95 = .ok (.iconst 4, 1) := by decide +kernel
theorem dX11_init_96 : decode cX11_init 96 = .ok (.newarray .int, 2) := by decide +kernel
theorem dX11_init_98 : decode cX11_init 98 = .ok (.putfield 57, 3) := by decide +kernel
theorem dX11_init_101 : decode cX11_init 101 = .ok (.aload_n 0, 1) := by decide +kernel
theorem dX11_init_102 : decode cX11_init 102 = .ok (.sipush 208, 3) := by decide +kernel
theorem dX11_init_105 : decode cX11_init 105 = .ok (.newarray .int, 2) := by decide +kernel
theorem dX11_init_107 : decode cX11_init 107 = .ok (.putfield 60, 3) := by decide +kernel
theorem dX11_init_110 : decode cX11_init 110 = .ok (.aload_n 0, 1) := by decide +kernel
theorem dX11_init_111 : decode cX11_init 111 = .ok (.sipush 212, 3) := by decide +kernel
theorem dX11_init_114 : decode cX11_init 114 = .ok (.newarray .int, 2) := by decide +kernel
theorem dX11_init_116 : decode cX11_init 116 = .ok (.putfield 63, 3) := by decide +kernel
theorem dX11_init_119 : decode cX11_init 119 = .ok (.aload_n 0, 1) := by decide +kernel
theorem dX11_init_120 : decode cX11_init 120 = .ok (.bipush 52, 2) := by decide +kernel
theorem dX11_init_122 : decode cX11_init 122 = .ok (.newarray .int, 2) := by decide +kernel
theorem dX11_init_124 : decode cX11_init 124 = .ok (.putfield 66, 3) := by decide +kernel
theorem dX11_init_127 : decode cX11_init 127 = .ok (.aload_n 0, 1) := by decide +kernel
theorem dX11_init_128 : decode cX11_init 128 = .ok (.bipush 52, 2) := by decide +kernel
theorem dX11_init_130 : decode cX11_init 130 = .ok (.newarray .int, 2) := by decide +kernel
theorem dX11_init_132 : decode cX11_init 132 = .ok (.putfield 69, 3) := by decide +kernel
theorem dX11_init_135 : decode cX11_init 135 = .ok (.aload_n 0, 1) := by decide +kernel
theorem dX11_init_136 : decode cX11_init 136 = .ok (.bipush 53, 2) := by decide +kernel
theorem dX11_init_138 : decode cX11_init 138 = .ok (.newarray .int, 2) := by decide +kernel
theorem dX11_init_140 : decode cX11_init 140 = .ok (.putfield 72, 3) := by decide +kernel
theorem dX11_init_143 : decode cX11_init 143 = .ok (.aload_n 0, 1) := by decide +kernel
theorem dX11_init_144 : decode cX11_init 144 = .ok (.iconst (-1), 1) := by decide +kernel
theorem dX11_init_145 : decode cX11_init 145 = .ok (.putfield 75, 3) := by decide +kernel
theorem dX11_init_148 : decode cX11_init 148 = .ok (.aload_n 0, 1) := by decide +kernel
theorem dX11_init_149 : decode cX11_init 149 = .ok (.iconst (-1), 1) := by decide +kernel
theorem dX11_init_150 : decode cX11_init 150 = .ok (.putfield 78, 3) := by decide +kernel
theorem dX11_init_153 : decode cX11_init 153 = .ok (.aload_n 0, 1) := by decide +kernel
theorem dX11_init_154 : decode cX11_init 154 = .ok (.sipush 128, 3) := by decide +kernel
theorem dX11_init_157 : decode cX11_init 157 = .ok (.newarray .int, 2) := by decide +kernel
theorem dX11_init_159 : decode cX11_init 159 = .ok (.putfield 81, 3) := by decide +kernel
theorem dX11_init_162 : decode cX11_init 162 = .ok (.aload_n 0, 1) := by decide +kernel
theorem dX11_init_163 : decode cX11_init 163 = .ok (.sipush 128, 3) := by decide +kernel
theorem dX11_init_166 : decode cX11_init 166 = .ok (.newarray .int, 2) := by decide +kernel
theorem dX11_init_168 : decode cX11_init 168 = .ok (.putfield 84, 3) := by decide +kernel
theorem dX11_init_171 : decode cX11_init 171 = .ok (.aload_n 0, 1) := by decide +kernel
theorem dX11_init_172 : decode cX11_init 172 = .ok (.ldc 87, 2) := by decide +kernel
theorem dX11_init_174 : decode cX11_init 174 = .ok (.newarray .int, 2) := by decide +kernel
theorem dX11_init_176 : decode cX11_init 176 = .ok (.putfield 88, 3) := by decide +kernel
theorem dX11_init_179 : decode cX11_init 179 = .ok (.aload_n 0, 1) := by decide +kernel
theorem dX11_init_180 : decode cX11_init 180 = .ok (.bipush 40, 2) := by decide +kernel
theorem dX11_init_182 : decode cX11_init 182 = .ok (.newarray .int, 2) := by decide +kernel
theorem dX11_init_184 : decode cX11_init 184 = .ok (.putfield 91, 3) := by decide +kernel
theorem dX11_init_187 : decode cX11_init 187 = .ok (.aload_n 0, 1) := by decide +kernel
theorem dX11_init_188 : decode cX11_init 188 = .ok (.bipush 40, 2) := by decide +kernel
theorem dX11_init_190 : decode cX11_init 190 = .ok (.newarray .int, 2) := by decide +kernel
theorem dX11_init_192 : decode cX11_init 192 = .ok (.putfield 94, 3) := by decide +kernel
theorem dX11_init_195 : decode cX11_init 195 = .ok (.aload_n 0, 1) := by decide +kernel
theorem dX11_init_196 : decode cX11_init 196 = .ok (.bipush 40, 2) := by decide +kernel
theorem dX11_init_198 : decode cX11_init 198 = .ok (.newarray .int, 2) := by decide +kernel
theorem dX11_init_200 : decode cX11_init 200 = .ok (.putfield 97, 3) := by decide +kernel
theorem dX11_init_203 : decode cX11_init 203 = .ok (.aload_n 0, 1) := by decide +kernel
theorem dX11_init_204 : decode cX11_init 204 = .ok (.bipush 16, 2) := by decide +kernel
theorem dX11_init_206 : decode cX11_init 206 = .ok (.newarray .int, 2) := by decide +kernel
theorem dX11_init_208 : decode cX11_init 208 = .ok (.putfield 100, 3) := by decide +kernel
theorem dX11_init_211 : decode cX11_init 211 = .ok (.aload_n 0, 1) := by decide +kernel
theorem dX11_init_212 : decode cX11_init 212 = .ok (.bipush 16, 2) := by decide +kernel
theorem dX11_init_214 : decode cX11_init 214 = .ok (.newarray .int, 2) := by decide +kernel
theorem dX11_init_216 : decode cX11_init 216 = .ok (.putfield 103, 3) := by decide +kernel
theorem dX11_init_219 : decode cX11_init 219 = .ok (.aload_n 0, 1) := by decide +kernel
theorem dX11_init_220 : decode cX11_init 220 = .ok (.bipush 52, 2) := by decide +kernel
theorem dX11_init_222 : decode cX11_init 222 = .ok (.newarray .int, 2) := by decide +kernel
theorem dX11_init_224 : decode cX11_init 224 = .ok (.putfield 106, 3) := by decide +kernel
theorem dX11_init_227 : decode cX11_init 227 = .ok (.aload_n 0, 1) := by decide +kernel
theorem dX11_init_228 : decode cX11_init 228 = .ok (.bipush 52, 2) := by decide +kernel
theorem dX11_init_230 : decode cX11_init 230 = .ok (.newarray .int, 2) := by decide +kernel
theorem dX11_init_232 : decode cX11_init 232 = .ok (.putfield 109, 3) := by decide +kernel
theorem dX11_init_235 : decode cX11_init 235 = .ok (.aload_n 0, 1) := by decide +kernel
theorem dX11_init_236 : decode cX11_init 236 = .ok (.bipush 84, 2) := by decide +kernel
theorem dX11_init_238 : decode cX11_init 238 = .ok (.newarray .int, 2) := by decide +kernel
theorem dX11_init_240 : decode cX11_init 240 = .ok (.putfield 112, 3) := by decide +kernel
theorem dX11_init_243 : decode cX11_init 243 = .ok (.aload_n 0, 1) := by decide +kernel
theorem dX11_init_244 : decode cX11_init 244 = .ok (.bipush 21, 2) := by decide +kernel
theorem dX11_init_246 : decode cX11_init 246 = .ok (.newarray .int, 2) := by decide +kernel
theorem dX11_init_248 : decode cX11_init 248 = .ok (.putfield 115, 3) := by decide +kernel
theorem dX11_init_251 : decode cX11_init 251 = .ok (.aload_n 0, 1) := by decide +kernel
theorem dX11_init_252 : decode cX11_init 252 = .ok (.ldc 118, 2) := by decide +kernel
theorem dX11_init_254 : decode cX11_init 254 = .ok (.newarray .long, 2) := by decide +kernel
theorem dX11_init_256 : decode cX11_init 256 = .ok (.putfield 119, 3) := by decide +kernel
theorem dX11_init_259 : decode cX11_init 259 = .ok (.aload_n 0, 1) := by decide +kernel
theorem dX11_init_260 : decode cX11_init 260 = .ok (.ldc 118, 2) := by decide +kernel
theorem dX11_init_262 : decode cX11_init 262 = .ok (.newarray .long, 2) := by decide +kernel
theorem dX11_init_264 : decode cX11_init 264 = .ok (.putfield 122, 3) := by decide +kernel
theorem dX11_init_267 : decode cX11_init 267 = .ok (.aload_n 0, 1) := by decide +kernel
theorem dX11_init_268 : decode cX11_init 268 = .ok (.ldc 118, 2) := by decide +kernel
theorem dX11_init_270 : decode cX11_init 270 = .ok (.newarray .long, 2) := by decide +kernel
theorem dX11_init_272 : decode cX11_init 272 = .ok (.putfield 125, 3) := by decide +kernel
theorem dX11_init_275 : decode cX11_init 275 = .ok (.aload_n 0, 1) := by decide +kernel
theorem dX11_init_276 : decode cX11_init 276 = .ok (.ldc 118, 2) := by decide +kernel
theorem dX11_init_278 : decode cX11_init 278 = .ok (.newarray .boolean, 2) := by decide +kernel
theorem dX11_init_280 : decode cX11_init 280 = .ok (.putfield 128, 3) := by decide +kernel
theorem dX11_init_283 : decode cX11_init 283 = .ok (.aload_n 0, 1) := by decide +kernel
theorem dX11_init_284 : decode cX11_init 284 = .ok (.ldc 118, 2) := by decide +kernel
theorem dX11_init_286 : decode cX11_init 286 = .ok (.newarray .int, 2) := by decide +kernel
theorem dX11_init_288 : decode cX11_init 288 = .ok (.putfield 131, 3) := by decide +kernel
theorem dX11_init_291 : decode cX11_init 291 = .ok (.aload_n 0, 1) := by decide +kernel
theorem dX11_init_292 : decode cX11_init 292 = .ok (.ldc 118, 2) := by decide +kernel
theorem dX11_init_294 : decode cX11_init 294 = .ok (.newarray .long, 2) := by decide +kernel
theorem dX11_init_296 : decode cX11_init 296 = .ok (.putfield 134, 3) := by decide +kernel
theorem dX11_init_299 : decode cX11_init 299 = .ok (.aload_n 0, 1) := by decide +kernel
theorem dX11_init_300 : decode cX11_init 300 = .ok (.ldc 118, 2) := by decide +kernel
theorem dX11_init_302 : decode cX11_init 302 = .ok (.newarray .long, 2) := by decide +kernel
theorem dX11_init_304 : decode cX11_init 304 = .ok (.putfield 137, 3) := by decide +kernel
theorem dX11_init_307 : decode cX11_init 307 = .ok (.aload_n 0, 1) := by decide +kernel
theorem dX11_init_308 : decode cX11_init 308 = .ok (.ldc 118, 2) := by decide +kernel
theorem dX11_init_310 : decode cX11_init 310 = .ok (.newarray .long, 2) := by decide +kernel
theorem dX11_init_312 : decode cX11_init 312 = .ok (.putfield 140, 3) := by decide +kernel
theorem dX11_init_315 : decode cX11_init 315 = .ok (.aload_n 0, 1) := by decide +kernel
theorem dX11_init_316 : decode cX11_init 316 = .ok (.ldc 118, 2) := by decide +kernel
theorem dX11_init_318 : decode cX11_init 318 = .ok (.newarray .boolean, 2) := by decide +kernel
theorem dX11_init_320 : decode cX11_init 320 = .ok (.putfield 143, 3) := by decide +kernel
theorem dX11_init_323 : decode cX11_init 323 = .ok (.aload_n 0, 1) := by decide +kernel
theorem dX11_init_324 : decode cX11_init 324 = .ok (.ldc 118, 2) := by decide +kernel
theorem dX11_init_326 : decode cX11_init 326 = .ok (.newarray .int, 2) := by decide +kernel
theorem dX11_init_328 : decode cX11_init 328 = .ok (.putfield 146, 3) := by decide +kernel
theorem dX11_init_331 : decode cX11_init 331 = .ok (.aload_n 0, 1) := by decide +kernel
theorem dX11_init_332 : decode cX11_init 332 = .ok (.iconst 4, 1) := by decide +kernel
theorem dX11_init_333 : decode cX11_init 333 = .ok (.newarray .int, 2) := by decide +kernel
theorem dX11_init_335 : decode cX11_init 335 = .ok (.putfield 149, 3) := by decide +kernel
theorem dX11_init_338 : decode cX11_init 338 = .ok (.aload_n 0, 1) := by decide +kernel
theorem dX11_init_339 : decode cX11_init 339 = .ok (.iconst 4, 1) := by decide +kernel
theorem dX11_init_340 : decode cX11_init 340 = .ok (.newarray .int, 2) := by decide +kernel
theorem dX11_init_342 : decode cX11_init 342 = .ok (.putfield 152, 3) := by decide +kernel
theorem dX11_init_345 : decode cX11_init 345 = .ok (.aload_n 0, 1) := by decide +kernel
theorem dX11_init_346 : decode cX11_init 346 = .ok (.iconst 4, 1) := by decide +kernel
theorem dX11_init_347 : decode cX11_init 347 = .ok (.newarray .int, 2) := by decide +kernel
theorem dX11_init_349 : decode cX11_init 349 = .ok (.putfield 155, 3) := by decide +kernel
theorem dX11_init_352 : decode cX11_init 352 = .ok (.aload_n 0, 1) := by decide +kernel
theorem dX11_init_353 : decode cX11_init 353 = .ok (.iconst 4, 1) := by decide +kernel
theorem dX11_init_354 : decode cX11_init 354 = .ok (.newarray .int, 2) := by decide +kernel
theorem dX11_init_356 : decode cX11_init 356 = .ok (.putfield 158, 3) := by decide +kernel
theorem dX11_init_359 : decode cX11_init 359 = .ok (.aload_n 0, 1) := by decide +kernel
theorem dX11_init_360 : decode cX11_init 360 = .ok (.bipush 52, 2) := by decide +kernel
theorem dX11_init_362 : decode cX11_init 362 = .ok (.newarray .int, 2) := by decide +kernel
theorem dX11_init_364 : decode cX11_init 364 = .ok (.putfield 161, 3) := by decide +kernel
theorem dX11_init_367 : decode cX11_init 367 = .ok (.aload_n 0, 1) := by decide +kernel
theorem dX11_init_368 : decode cX11_init 368 = .ok (.bipush 64, 2) := by decide +kernel
theorem dX11_init_370 : decode cX11_init 370 = .ok (.newarray .int, 2) := by decide +kernel
theorem dX11_init_372 : decode cX11_init 372 = .ok (.putfield 164, 3) := by decide +kernel
theorem dX11_init_375 : decode cX11_init 375 = .ok (.aload_n 0, 1) := by decide +kernel
theorem dX11_init_376 : decode cX11_init 376 = .ok (.bipush 64, 2) := by decide +kernel
theorem dX11_init_378 : decode cX11_init 378 = .ok (.newarray .int, 2) := by decide +kernel
theorem dX11_init_380 : decode cX11_init 380 = .ok (.putfield 167, 3) := by decide +kernel
theorem dX11_init_383 : decode cX11_init 383 = .ok (.aload_n 0, 1) := by decide +kernel
theorem dX11_init_384 : decode cX11_init 384 = .ok (.iconst 4, 1) := by decide +kernel
theorem dX11_init_385 : decode cX11_init 385 = .ok (.newarray .int, 2) := by decide +kernel
theorem dX11_init_387 : decode cX11_init 387 = .ok (.putfield 170, 3) := by decide +kernel
theorem dX11_init_390 : decode cX11_init 390 = .ok (.aload_n 0, 1) := by decide +kernel
theorem dX11_init_391 : decode cX11_init 391 = .ok (.iconst 4, 1) := by decide +kernel
theorem dX11_init_392 : decode cX11_init 392 = .ok (.newarray .int, 2) := by decide +kernel
theorem dX11_init_394 : decode cX11_init 394 = .ok (.putfield 173, 3) := by decide +kernel
theorem dX11_init_397 : decode cX11_init 397 = .ok (.iconst 5, 1) := by decide +kernel
theorem dX11_init_398 : decode cX11_init 398 = .ok (.istore_n 1, 1) := by decide +kernel
theorem dX11_init_399 : decode cX11_init 399 = .ok (.iconst 1, 1) := by decide +kernel
theorem dX11_init_400 : decode cX11_init 400 = .ok (.istore_n 2, 1) := by decide +kernel
theorem dX11_init_401 : decode cX11_init 401 = .ok (.iload_n 2, 1) := by decide +kernel
theorem dX11_init_402 : decode cX11_init 402 = .ok (.iconst 5, 1) := by decide +kernel
theorem dX11_init_403 : decode cX11_init 403 = .ok (.if_icmp .ge 46, 3) := by decide +kernel
theorem dX11_init_406 : decode cX11_init 406 = .ok (.aload_n 0, 1) := by decide +kernel
theorem dX11_init_407 : decode cX11_init 407 = .ok (.getfield 103, 3) := by decide +kernel
theorem dX11_init_410 : decode cX11_init 410 = .ok (.iload_n 2, 1) := by decide +kernel
theorem dX11_init_411 : decode cX11_init 411 = .ok (.iload_n 2, 1) := by decide +kernel
theorem dX11_init_412 : decode cX11_init 412 = .ok (.iastore, 1) := by decide +kernel
theorem dX11_init_413 : decode cX11_init 413 = .ok (.iload_n 2, 1) := by decide +kernel
theorem dX11_init_414 : decode cX11_init 414 = .ok (.istore_n 3, 1) := by decide +kernel
theorem dX11_init_415 : decode cX11_init 415 = .ok (.iload_n 3, 1) := by decide +kernel
theorem dX11_init_416 : decode cX11_init 416 = .ok (.iconst 5, 1) := by decide +kernel
theorem dX11_init_417 : decode cX11_init 417 = .ok (.if_icmp .ge 26, 3) := by decide +kernel
theorem dX11_init_420 : decode cX11_init 420 = .ok (.aload_n 0, 1) := by decide +kernel
theorem dX11_init_421 : decode cX11_init 421 = .ok (.getfield 100, 3) := by decide +kernel
theorem dX11_init_424 : decode cX11_init 424 = .ok (.iload_n 1, 1) := by decide +kernel
theorem dX11_init_425 : decode cX11_init 425 = .ok (.iload_n 2, 1) := by decide +kernel
theorem dX11_init_426 : decode cX11_init 426 = .ok (.iastore, 1) := by decide +kernel
theorem dX11_init_427 : decode cX11_init 427 = .ok (.aload_n 0, 1) := by decide +kernel
theorem dX11_init_428 : decode cX11_init 428 = .ok (.getfield 103, 3) := by decide +kernel
theorem dX11_init_431 : decode cX11_init 431 = .ok (.iload_n 1, 1) := by decide +kernel
theorem dX11_init_432 : decode cX11_init 432 = .ok (.iload_n 3, 1) := by decide +kernel
theorem dX11_init_433 : decode cX11_init 433 = .ok (.iastore, 1) := by decide +kernel
theorem dX11_init_434 : decode cX11_init 434 = .ok (.iinc 1 1, 3) := by decide +kernel
theorem dX11_init_437 : decode cX11_init 437 = .ok (.iinc 3 1, 3) := by decide +kernel
theorem dX11_init_440 : decode cX11_init 440 = .ok (.goto (-25), 3) := by decide +kernel
theorem dX11_init_443 : decode cX11_init 443 = .ok (.iinc 2 1, 3) := by decide +kernel
theorem dX11_init_446 : decode cX11_init 446 = .ok (.goto (-45), 3) := by decide +kernel
theorem dX11_init_449 : decode cX11_init 449 = .ok (.aload_n 0, 1) := by decide +kernel
theorem dX11_init_450 : decode cX11_init 450 = .ok (.invokevirtual 176, 3) := by decide +kernel
theorem dX11_init_453 : decode cX11_init 453 = .ok (.return_, 1) := by decide +kernel
theorem dX11_thrown_0 : decode cX11_thrown 0 = .ok (.aload_n 0, 1) := by decide +kernel
theorem dX11_thrown_1 : decode cX11_thrown 1 = .ok (.getfield 179, 3) := by decide +kernel
theorem dX11_thrown_4 : decode cX11_thrown 4 = .ok (.ireturn, 1) := by decide +kernel
theorem dX11_holds_0 : decode cX11_holds 0 = .ok (.aload_n 0, 1) := by decide +kernel
theorem dX11_holds_1 : decode cX11_holds 1 = .ok (.iload_n 1, 1) := by decide +kernel
theorem dX11_holds_2 : decode cX11_holds 2 = .ok (.putfield 179, 3) := by decide +kernel
theorem dX11_holds_5 : decode cX11_holds 5 = .ok (.iload_n 1, 1) := by decide +kernel
theorem dX11_holds_6 : decode cX11_holds 6 = .ok (.ifCond .le 7, 3) := by decide +kernel
theorem dX11_holds_9 : decode cX11_holds 9 = .ok (.iconst 1, 1) := by decide +kernel
theorem dX11_holds_10 : decode cX11_holds 10 = .ok (.goto 4, 3) := by decide +kernel
theorem dX11_holds_13 : decode cX11_holds 13 = .ok (.iconst 0, 1) := by decide +kernel
theorem dX11_holds_14 : decode cX11_holds 14 = .ok (.ireturn, 1) := by decide +kernel
theorem dX11_in_0 : decode cX11_in 0 = .ok (.iload_n 1, 1) := by decide +kernel
theorem dX11_in_1 : decode cX11_in 1 = .ok (.iload_n 2, 1) := by decide +kernel
theorem dX11_in_2 : decode cX11_in 2 = .ok (.if_icmp .lt 12, 3) := by decide +kernel
theorem dX11_in_5 : decode cX11_in 5 = .ok (.iload_n 1, 1) := by decide +kernel
theorem dX11_in_6 : decode cX11_in 6 = .ok (.iload_n 3, 1) := by decide +kernel
theorem dX11_in_7 : decode cX11_in 7 = .ok (.if_icmp .gt 7, 3) := by decide +kernel
theorem dX11_in_10 : decode cX11_in 10 = .ok (.iconst 1, 1) := by decide +kernel
theorem dX11_in_11 : decode cX11_in 11 = .ok (.goto 4, 3) := by decide +kernel
theorem dX11_in_14 : decode cX11_in 14 = .ok (.iconst 0, 1) := by decide +kernel
theorem dX11_in_15 : decode cX11_in 15 = .ok (.ireturn, 1) := by decide +kernel
theorem dX11_isKind_0 : decode cX11_isKind 0 = .ok (.aload_n 0, 1) := by decide +kernel
theorem dX11_isKind_1 : decode cX11_isKind 1 = .ok (.iload_n 1, 1) := by decide +kernel
theorem dX11_isKind_2 : decode cX11_isKind 2 = .ok (.iconst 0, 1) := by decide +kernel
theorem dX11_isKind_3 : decode cX11_isKind 3 = .ok (.bipush 51, 2) := by decide +kernel
theorem dX11_isKind_5 : decode cX11_isKind 5 = .ok (.invokevirtual 182, 3) := by decide +kernel
theorem dX11_isKind_8 : decode cX11_isKind 8 = .ok (.ifCond .eq 18, 3) := by decide +kernel
theorem dX11_isKind_11 : decode cX11_isKind 11 = .ok (.iload_n 1, 1) := by decide +kernel
theorem dX11_isKind_12 : decode cX11_isKind 12 = .ok (.bipush 13, 2) := by decide +kernel
theorem dX11_isKind_14 : decode cX11_isKind 14 = .ok (.irem, 1) := by decide +kernel
theorem dX11_isKind_15 : decode cX11_isKind 15 = .ok (.aload_n 0, 1) := by decide +kernel
theorem dX11_isKind_16 : decode cX11_isKind 16 = .ok (.getfield 9, 3) := by decide +kernel
theorem dX11_isKind_19 : decode cX11_isKind 19 = .ok (.if_icmp .ge 7, 3) := by decide +kernel
theorem dX11_isKind_22 : decode cX11_isKind 22 = .ok (.iconst 1, 1) := by decide +kernel
theorem dX11_isKind_23 : decode cX11_isKind 23 = .ok (.goto 4, 3) := by decide +kernel
theorem dX11_isKind_26 : decode cX11_isKind 26 = .ok (.iconst 0, 1) := by decide +kernel
theorem dX11_isKind_27 : decode cX11_isKind 27 = .ok (.ireturn, 1) := by decide +kernel
theorem dX11_isPlayer_0 : decode cX11_isPlayer 0 = .ok (.aload_n 0, 1) := by decide +kernel
theorem dX11_isPlayer_1 : decode cX11_isPlayer 1 = .ok (.iload_n 1, 1) := by decide +kernel
theorem dX11_isPlayer_2 : decode cX11_isPlayer 2 = .ok (.iconst 0, 1) := by decide +kernel
theorem dX11_isPlayer_3 : decode cX11_isPlayer 3 = .ok (.aload_n 0, 1) := by decide +kernel
theorem dX11_isPlayer_4 : decode cX11_isPlayer 4 = .ok (.getfield 186, 3) := by decide +kernel
theorem dX11_isPlayer_7 : decode cX11_isPlayer 7 = .ok (.iconst 1, 1) := by decide +kernel
theorem dX11_isPlayer_8 : decode cX11_isPlayer 8 = .ok (.isub, 1) := by decide +kernel
theorem dX11_isPlayer_9 : decode cX11_isPlayer 9 = .ok (.invokevirtual 182, 3) := by decide +kernel
theorem dX11_isPlayer_12 : decode cX11_isPlayer 12 = .ok (.ireturn, 1) := by decide +kernel
theorem dX11_laysUses_0 : decode cX11_laysUses 0 = .ok (.aload_n 0, 1) := by decide +kernel
theorem dX11_laysUses_1 : decode cX11_laysUses 1 = .ok (.iconst 1, 1) := by decide +kernel
theorem dX11_laysUses_2 : decode cX11_laysUses 2 = .ok (.putfield 189, 3) := by decide +kernel
theorem dX11_laysUses_5 : decode cX11_laysUses 5 = .ok (.iconst 1, 1) := by decide +kernel
theorem dX11_laysUses_6 : decode cX11_laysUses 6 = .ok (.istore_n 1, 1) := by decide +kernel
theorem dX11_laysUses_7 : decode cX11_laysUses 7 = .ok (.iload_n 1, 1) := by decide +kernel
theorem dX11_laysUses_8 : decode cX11_laysUses 8 = .ok (.bipush 6, 2) := by decide +kernel
theorem dX11_laysUses_10 : decode cX11_laysUses 10 = .ok (.if_icmp .ge 115, 3) := by decide +kernel
theorem dX11_laysUses_13 : decode cX11_laysUses 13 = .ok (.iconst 0, 1) := by decide +kernel
theorem dX11_laysUses_14 : decode cX11_laysUses 14 = .ok (.istore_n 2, 1) := by decide +kernel
theorem dX11_laysUses_15 : decode cX11_laysUses 15 = .ok (.iload_n 2, 1) := by decide +kernel
theorem dX11_laysUses_16 : decode cX11_laysUses 16 = .ok (.iload_n 1, 1) := by decide +kernel
theorem dX11_laysUses_17 : decode cX11_laysUses 17 = .ok (.if_icmp .gt 102, 3) := by decide +kernel
theorem dX11_laysUses_20 : decode cX11_laysUses 20 = .ok (.iconst 0, 1) := by decide +kernel
theorem dX11_laysUses_21 : decode cX11_laysUses 21 = .ok (.istore_n 3, 1) := by decide +kernel
theorem dX11_laysUses_22 : decode cX11_laysUses 22 = .ok (.iload_n 3, 1) := by decide +kernel
theorem dX11_laysUses_23 : decode cX11_laysUses 23 = .ok (.iconst 4, 1) := by decide +kernel
theorem dX11_laysUses_24 : decode cX11_laysUses 24 = .ok (.if_icmp .ge 61, 3) := by decide +kernel
theorem dX11_laysUses_27 : decode cX11_laysUses 27 = .ok (.aload_n 0, 1) := by decide +kernel
theorem dX11_laysUses_28 : decode cX11_laysUses 28 = .ok (.getfield 112, 3) := by decide +kernel
theorem dX11_laysUses_31 : decode cX11_laysUses 31 = .ok (.iconst 4, 1) := by decide +kernel
theorem dX11_laysUses_32 : decode cX11_laysUses 32 = .ok (.aload_n 0, 1) := by decide +kernel
theorem dX11_laysUses_33 : decode cX11_laysUses 33 = .ok (.getfield 189, 3) := by decide +kernel
theorem dX11_laysUses_36 : decode cX11_laysUses 36 = .ok (.imul, 1) := by decide +kernel
theorem dX11_laysUses_37 : decode cX11_laysUses 37 = .ok (.iload_n 3, 1) := by decide +kernel
theorem dX11_laysUses_38 : decode cX11_laysUses 38 = .ok (.iadd, 1) := by decide +kernel
theorem dX11_laysUses_39 : decode cX11_laysUses 39 = .ok (.iload_n 1, 1) := by decide +kernel
theorem dX11_laysUses_40 : decode cX11_laysUses 40 = .ok (.iconst 5, 1) := by decide +kernel
theorem dX11_laysUses_41 : decode cX11_laysUses 41 = .ok (.if_icmp .eq 10, 3) := by decide +kernel
theorem dX11_laysUses_44 : decode cX11_laysUses 44 = .ok (.iload_n 1, 1) := by decide +kernel
theorem dX11_laysUses_45 : decode cX11_laysUses 45 = .ok (.iconst 1, 1) := by decide +kernel
theorem dX11_laysUses_46 : decode cX11_laysUses 46 = .ok (.isub, 1) := by decide +kernel
theorem dX11_laysUses_47 : decode cX11_laysUses 47 = .ok (.iload_n 3, 1) := by decide +kernel
theorem dX11_laysUses_48 : decode cX11_laysUses 48 = .ok (.if_icmp .eq 7, 3) := by decide +kernel
theorem dX11_laysUses_51 : decode cX11_laysUses 51 = .ok (.iconst 1, 1) := by decide +kernel
theorem dX11_laysUses_52 : decode cX11_laysUses 52 = .ok (.goto 4, 3) := by decide +kernel
theorem dX11_laysUses_55 : decode cX11_laysUses 55 = .ok (.iconst 0, 1) := by decide +kernel
theorem dX11_laysUses_56 : decode cX11_laysUses 56 = .ok (.iload_n 2, 1) := by decide +kernel
theorem dX11_laysUses_57 : decode cX11_laysUses 57 = .ok (.ifCond .le 19, 3) := by decide +kernel
theorem dX11_laysUses_60 : decode cX11_laysUses 60 = .ok (.iload_n 2, 1) := by decide +kernel
theorem dX11_laysUses_61 : decode cX11_laysUses 61 = .ok (.iconst 5, 1) := by decide +kernel
theorem dX11_laysUses_62 : decode cX11_laysUses 62 = .ok (.if_icmp .eq 10, 3) := by decide +kernel
theorem dX11_laysUses_65 : decode cX11_laysUses 65 = .ok (.iload_n 2, 1) := by decide +kernel
theorem dX11_laysUses_66 : decode cX11_laysUses 66 = .ok (.iconst 1, 1) := by decide +kernel
theorem dX11_laysUses_67 : decode cX11_laysUses 67 = .ok (.isub, 1) := by decide +kernel
theorem dX11_laysUses_68 : decode cX11_laysUses 68 = .ok (.iload_n 3, 1) := by decide +kernel
theorem dX11_laysUses_69 : decode cX11_laysUses 69 = .ok (.if_icmp .eq 7, 3) := by decide +kernel
theorem dX11_laysUses_72 : decode cX11_laysUses 72 = .ok (.iconst 1, 1) := by decide +kernel
theorem dX11_laysUses_73 : decode cX11_laysUses 73 = .ok (.goto 4, 3) := by decide +kernel
theorem dX11_laysUses_76 : decode cX11_laysUses 76 = .ok (.iconst 0, 1) := by decide +kernel
theorem dX11_laysUses_77 : decode cX11_laysUses 77 = .ok (.iadd, 1) := by decide +kernel
theorem dX11_laysUses_78 : decode cX11_laysUses 78 = .ok (.iastore, 1) := by decide +kernel
theorem dX11_laysUses_79 : decode cX11_laysUses 79 = .ok (.iinc 3 1, 3) := by decide +kernel
theorem dX11_laysUses_82 : decode cX11_laysUses 82 = .ok (.goto (-60), 3) := by decide +kernel
theorem dX11_laysUses_85 : decode cX11_laysUses 85 = .ok (.aload_n 0, 1) := by decide +kernel
theorem dX11_laysUses_86 : decode cX11_laysUses 86 = .ok (.getfield 115, 3) := by decide +kernel
theorem dX11_laysUses_89 : decode cX11_laysUses 89 = .ok (.aload_n 0, 1) := by decide +kernel
theorem dX11_laysUses_90 : decode cX11_laysUses 90 = .ok (.getfield 189, 3) := by decide +kernel
theorem dX11_laysUses_93 : decode cX11_laysUses 93 = .ok (.iload_n 2, 1) := by decide +kernel
theorem dX11_laysUses_94 : decode cX11_laysUses 94 = .ok (.ifCond .le 7, 3) := by decide +kernel
theorem dX11_laysUses_97 : decode cX11_laysUses 97 = .ok (.iconst 2, 1) := by decide +kernel
theorem dX11_laysUses_98 : decode cX11_laysUses 98 = .ok (.goto 4, 3) := by decide +kernel
theorem dX11_laysUses_101 : decode cX11_laysUses 101 = .ok (.iconst 1, 1) := by decide +kernel
theorem dX11_laysUses_102 : decode cX11_laysUses 102 = .ok (.iastore, 1) := by decide +kernel
theorem dX11_laysUses_103 : decode cX11_laysUses 103 = .ok (.aload_n 0, 1) := by decide +kernel
theorem dX11_laysUses_104 : decode cX11_laysUses 104 = .ok (.dup, 1) := by decide +kernel
theorem dX11_laysUses_105 : decode cX11_laysUses 105 = .ok (.getfield 189, 3) := by decide +kernel
theorem dX11_laysUses_108 : decode cX11_laysUses 108 = .ok (.iconst 1, 1) := by decide +kernel
theorem dX11_laysUses_109 : decode cX11_laysUses 109 = .ok (.iadd, 1) := by decide +kernel
theorem dX11_laysUses_110 : decode cX11_laysUses 110 = .ok (.putfield 189, 3) := by decide +kernel
theorem dX11_laysUses_113 : decode cX11_laysUses 113 = .ok (.iinc 2 1, 3) := by decide +kernel
theorem dX11_laysUses_116 : decode cX11_laysUses 116 = .ok (.goto (-101), 3) := by decide +kernel
theorem dX11_laysUses_119 : decode cX11_laysUses 119 = .ok (.iinc 1 1, 3) := by decide +kernel
theorem dX11_laysUses_122 : decode cX11_laysUses 122 = .ok (.goto (-115), 3) := by decide +kernel
theorem dX11_laysUses_125 : decode cX11_laysUses 125 = .ok (.return_, 1) := by decide +kernel
theorem dX11_code_0 : decode cX11_code 0 = .ok (.iload_n 1, 1) := by decide +kernel
theorem dX11_code_1 : decode cX11_code 1 = .ok (.iload_n 2, 1) := by decide +kernel
theorem dX11_code_2 : decode cX11_code 2 = .ok (.if_icmp .ge 7, 3) := by decide +kernel
theorem dX11_code_5 : decode cX11_code 5 = .ok (.iload_n 1, 1) := by decide +kernel
theorem dX11_code_6 : decode cX11_code 6 = .ok (.goto 4, 3) := by decide +kernel
theorem dX11_code_9 : decode cX11_code 9 = .ok (.iload_n 2, 1) := by decide +kernel
theorem dX11_code_10 : decode cX11_code 10 = .ok (.istore 4, 2) := by decide +kernel
theorem dX11_code_12 : decode cX11_code 12 = .ok (.iload_n 1, 1) := by decide +kernel
theorem dX11_code_13 : decode cX11_code 13 = .ok (.iload_n 2, 1) := by decide +kernel
theorem dX11_code_14 : decode cX11_code 14 = .ok (.if_icmp .ge 7, 3) := by decide +kernel
theorem dX11_code_17 : decode cX11_code 17 = .ok (.iload_n 2, 1) := by decide +kernel
theorem dX11_code_18 : decode cX11_code 18 = .ok (.goto 4, 3) := by decide +kernel
theorem dX11_code_21 : decode cX11_code 21 = .ok (.iload_n 1, 1) := by decide +kernel
theorem dX11_code_22 : decode cX11_code 22 = .ok (.istore 5, 2) := by decide +kernel
theorem dX11_code_24 : decode cX11_code 24 = .ok (.iload 4, 2) := by decide +kernel
theorem dX11_code_26 : decode cX11_code 26 = .ok (.ifCond .ne 6, 3) := by decide +kernel
theorem dX11_code_29 : decode cX11_code 29 = .ok (.iload 5, 2) := by decide +kernel
theorem dX11_code_31 : decode cX11_code 31 = .ok (.ireturn, 1) := by decide +kernel
theorem dX11_code_32 : decode cX11_code 32 = .ok (.iload 4, 2) := by decide +kernel
theorem dX11_code_34 : decode cX11_code 34 = .ok (.aload_n 0, 1) := by decide +kernel
theorem dX11_code_35 : decode cX11_code 35 = .ok (.getfield 15, 3) := by decide +kernel
theorem dX11_code_38 : decode cX11_code 38 = .ok (.if_icmp .ne 10, 3) := by decide +kernel
theorem dX11_code_41 : decode cX11_code 41 = .ok (.iload_n 3, 1) := by decide +kernel
theorem dX11_code_42 : decode cX11_code 42 = .ok (.ifCond .eq 6, 3) := by decide +kernel
theorem dX11_code_45 : decode cX11_code 45 = .ok (.bipush 15, 2) := by decide +kernel
theorem dX11_code_47 : decode cX11_code 47 = .ok (.ireturn, 1) := by decide +kernel
theorem dX11_code_48 : decode cX11_code 48 = .ok (.iconst 5, 1) := by decide +kernel
theorem dX11_code_49 : decode cX11_code 49 = .ok (.istore 6, 2) := by decide +kernel
theorem dX11_code_51 : decode cX11_code 51 = .ok (.aload_n 0, 1) := by decide +kernel
theorem dX11_code_52 : decode cX11_code 52 = .ok (.getfield 100, 3) := by decide +kernel
theorem dX11_code_55 : decode cX11_code 55 = .ok (.iload 6, 2) := by decide +kernel
theorem dX11_code_57 : decode cX11_code 57 = .ok (.iaload, 1) := by decide +kernel
theorem dX11_code_58 : decode cX11_code 58 = .ok (.iload 4, 2) := by decide +kernel
theorem dX11_code_60 : decode cX11_code 60 = .ok (.if_icmp .ne 15, 3) := by decide +kernel
theorem dX11_code_63 : decode cX11_code 63 = .ok (.aload_n 0, 1) := by decide +kernel
theorem dX11_code_64 : decode cX11_code 64 = .ok (.getfield 103, 3) := by decide +kernel
theorem dX11_code_67 : decode cX11_code 67 = .ok (.iload 6, 2) := by decide +kernel
theorem dX11_code_69 : decode cX11_code 69 = .ok (.iaload, 1) := by decide +kernel
theorem dX11_code_70 : decode cX11_code 70 = .ok (.iload 5, 2) := by decide +kernel
theorem dX11_code_72 : decode cX11_code 72 = .ok (.if_icmp .eq 9, 3) := by decide +kernel
theorem dX11_code_75 : decode cX11_code 75 = .ok (.iinc 6 1, 3) := by decide +kernel
theorem dX11_code_78 : decode cX11_code 78 = .ok (.goto (-27), 3) := by decide +kernel
theorem dX11_code_81 : decode cX11_code 81 = .ok (.iload 6, 2) := by decide +kernel
theorem dX11_code_83 : decode cX11_code 83 = .ok (.ireturn, 1) := by decide +kernel
theorem dX11_on_0 : decode cX11_on 0 = .ok (.iload_n 1, 1) := by decide +kernel
theorem dX11_on_1 : decode cX11_on 1 = .ok (.aload_n 0, 1) := by decide +kernel
theorem dX11_on_2 : decode cX11_on 2 = .ok (.getfield 15, 3) := by decide +kernel
theorem dX11_on_5 : decode cX11_on 5 = .ok (.if_icmp .ge 9, 3) := by decide +kernel
theorem dX11_on_8 : decode cX11_on 8 = .ok (.iload_n 1, 1) := by decide +kernel
theorem dX11_on_9 : decode cX11_on 9 = .ok (.iconst 1, 1) := by decide +kernel
theorem dX11_on_10 : decode cX11_on 10 = .ok (.iadd, 1) := by decide +kernel
theorem dX11_on_11 : decode cX11_on 11 = .ok (.goto 7, 3) := by decide +kernel
theorem dX11_on_14 : decode cX11_on 14 = .ok (.aload_n 0, 1) := by decide +kernel
theorem dX11_on_15 : decode cX11_on 15 = .ok (.getfield 15, 3) := by decide +kernel
theorem dX11_on_18 : decode cX11_on 18 = .ok (.ireturn, 1) := by decide +kernel
theorem dX11_option_0 : decode cX11_option 0 = .ok (.aload_n 0, 1) := by decide +kernel
theorem dX11_option_1 : decode cX11_option 1 = .ok (.getfield 164, 3) := by decide +kernel
theorem dX11_option_4 : decode cX11_option 4 = .ok (.aload_n 0, 1) := by decide +kernel
theorem dX11_option_5 : decode cX11_option 5 = .ok (.getfield 192, 3) := by decide +kernel
theorem dX11_option_8 : decode cX11_option 8 = .ok (.iload_n 1, 1) := by decide +kernel
theorem dX11_option_9 : decode cX11_option 9 = .ok (.iastore, 1) := by decide +kernel
theorem dX11_option_10 : decode cX11_option 10 = .ok (.aload_n 0, 1) := by decide +kernel
theorem dX11_option_11 : decode cX11_option 11 = .ok (.getfield 167, 3) := by decide +kernel
theorem dX11_option_14 : decode cX11_option 14 = .ok (.aload_n 0, 1) := by decide +kernel
theorem dX11_option_15 : decode cX11_option 15 = .ok (.getfield 192, 3) := by decide +kernel
theorem dX11_option_18 : decode cX11_option 18 = .ok (.iload_n 2, 1) := by decide +kernel
theorem dX11_option_19 : decode cX11_option 19 = .ok (.iastore, 1) := by decide +kernel
theorem dX11_option_20 : decode cX11_option 20 = .ok (.aload_n 0, 1) := by decide +kernel
theorem dX11_option_21 : decode cX11_option 21 = .ok (.dup, 1) := by decide +kernel
theorem dX11_option_22 : decode cX11_option 22 = .ok (.getfield 192, 3) := by decide +kernel
theorem dX11_option_25 : decode cX11_option 25 = .ok (.iconst 1, 1) := by decide +kernel
theorem dX11_option_26 : decode cX11_option 26 = .ok (.iadd, 1) := by decide +kernel
theorem dX11_option_27 : decode cX11_option 27 = .ok (.putfield 192, 3) := by decide +kernel
theorem dX11_option_30 : decode cX11_option 30 = .ok (.return_, 1) := by decide +kernel
theorem dX11_laysOptions_0 : decode cX11_laysOptions 0 = .ok (.iload_n 1, 1) := by decide +kernel
theorem dX11_laysOptions_1 : decode cX11_laysOptions 1 = .ok (.bipush 15, 2) := by decide +kernel
theorem dX11_laysOptions_3 : decode cX11_laysOptions 3 = .ok (.if_icmp .ne 10, 3) := by decide +kernel
theorem dX11_laysOptions_6 : decode cX11_laysOptions 6 = .ok (.aload_n 0, 1) := by decide +kernel
theorem dX11_laysOptions_7 : decode cX11_laysOptions 7 = .ok (.getfield 15, 3) := by decide +kernel
theorem dX11_laysOptions_10 : decode cX11_laysOptions 10 = .ok (.goto 9, 3) := by decide +kernel
theorem dX11_laysOptions_13 : decode cX11_laysOptions 13 = .ok (.aload_n 0, 1) := by decide +kernel
theorem dX11_laysOptions_14 : decode cX11_laysOptions 14 = .ok (.getfield 100, 3) := by decide +kernel
theorem dX11_laysOptions_17 : decode cX11_laysOptions 17 = .ok (.iload_n 1, 1) := by decide +kernel
theorem dX11_laysOptions_18 : decode cX11_laysOptions 18 = .ok (.iaload, 1) := by decide +kernel
theorem dX11_laysOptions_19 : decode cX11_laysOptions 19 = .ok (.istore_n 3, 1) := by decide +kernel
theorem dX11_laysOptions_20 : decode cX11_laysOptions 20 = .ok (.iload_n 1, 1) := by decide +kernel
theorem dX11_laysOptions_21 : decode cX11_laysOptions 21 = .ok (.bipush 15, 2) := by decide +kernel
theorem dX11_laysOptions_23 : decode cX11_laysOptions 23 = .ok (.if_icmp .ne 10, 3) := by decide +kernel
theorem dX11_laysOptions_26 : decode cX11_laysOptions 26 = .ok (.aload_n 0, 1) := by decide +kernel
theorem dX11_laysOptions_27 : decode cX11_laysOptions 27 = .ok (.getfield 15, 3) := by decide +kernel
theorem dX11_laysOptions_30 : decode cX11_laysOptions 30 = .ok (.goto 9, 3) := by decide +kernel
theorem dX11_laysOptions_33 : decode cX11_laysOptions 33 = .ok (.aload_n 0, 1) := by decide +kernel
theorem dX11_laysOptions_34 : decode cX11_laysOptions 34 = .ok (.getfield 103, 3) := by decide +kernel
theorem dX11_laysOptions_37 : decode cX11_laysOptions 37 = .ok (.iload_n 1, 1) := by decide +kernel
theorem dX11_laysOptions_38 : decode cX11_laysOptions 38 = .ok (.iaload, 1) := by decide +kernel
theorem dX11_laysOptions_39 : decode cX11_laysOptions 39 = .ok (.istore 4, 2) := by decide +kernel
theorem dX11_laysOptions_41 : decode cX11_laysOptions 41 = .ok (.iload_n 3, 1) := by decide +kernel
theorem dX11_laysOptions_42 : decode cX11_laysOptions 42 = .ok (.iload 4, 2) := by decide +kernel
theorem dX11_laysOptions_44 : decode cX11_laysOptions 44 = .ok (.if_icmp .ne 9, 3) := by decide +kernel
theorem dX11_laysOptions_47 : decode cX11_laysOptions 47 = .ok (.iload_n 1, 1) := by decide +kernel
theorem dX11_laysOptions_48 : decode cX11_laysOptions 48 = .ok (.bipush 15, 2) := by decide +kernel
theorem dX11_laysOptions_50 : decode cX11_laysOptions 50 = .ok (.if_icmp .ne 7, 3) := by decide +kernel
theorem dX11_laysOptions_53 : decode cX11_laysOptions 53 = .ok (.iconst 1, 1) := by decide +kernel
theorem dX11_laysOptions_54 : decode cX11_laysOptions 54 = .ok (.goto 4, 3) := by decide +kernel
theorem dX11_laysOptions_57 : decode cX11_laysOptions 57 = .ok (.iconst 0, 1) := by decide +kernel
theorem dX11_laysOptions_58 : decode cX11_laysOptions 58 = .ok (.istore 5, 2) := by decide +kernel
theorem dX11_laysOptions_60 : decode cX11_laysOptions 60 = .ok (.iload_n 3, 1) := by decide +kernel
theorem dX11_laysOptions_61 : decode cX11_laysOptions 61 = .ok (.ifCond .eq 11, 3) := by decide +kernel
theorem dX11_laysOptions_64 : decode cX11_laysOptions 64 = .ok (.iload_n 3, 1) := by decide +kernel
theorem dX11_laysOptions_65 : decode cX11_laysOptions 65 = .ok (.aload_n 0, 1) := by decide +kernel
theorem dX11_laysOptions_66 : decode cX11_laysOptions 66 = .ok (.getfield 15, 3) := by decide +kernel
theorem dX11_laysOptions_69 : decode cX11_laysOptions 69 = .ok (.if_icmp .ne 7, 3) := by decide +kernel
theorem dX11_laysOptions_72 : decode cX11_laysOptions 72 = .ok (.iconst 1, 1) := by decide +kernel
theorem dX11_laysOptions_73 : decode cX11_laysOptions 73 = .ok (.goto 4, 3) := by decide +kernel
theorem dX11_laysOptions_76 : decode cX11_laysOptions 76 = .ok (.iconst 0, 1) := by decide +kernel
theorem dX11_laysOptions_77 : decode cX11_laysOptions 77 = .ok (.istore 6, 2) := by decide +kernel
theorem dX11_laysOptions_79 : decode cX11_laysOptions 79 = .ok (.iload 4, 2) := by decide +kernel
theorem dX11_laysOptions_81 : decode cX11_laysOptions 81 = .ok (.ifCond .eq 12, 3) := by decide +kernel
theorem dX11_laysOptions_84 : decode cX11_laysOptions 84 = .ok (.iload 4, 2) := by decide +kernel
theorem dX11_laysOptions_86 : decode cX11_laysOptions 86 = .ok (.aload_n 0, 1) := by decide +kernel
theorem dX11_laysOptions_87 : decode cX11_laysOptions 87 = .ok (.getfield 15, 3) := by decide +kernel
theorem dX11_laysOptions_90 : decode cX11_laysOptions 90 = .ok (.if_icmp .ne 7, 3) := by decide +kernel
theorem dX11_laysOptions_93 : decode cX11_laysOptions 93 = .ok (.iconst 1, 1) := by decide +kernel
theorem dX11_laysOptions_94 : decode cX11_laysOptions 94 = .ok (.goto 4, 3) := by decide +kernel
theorem dX11_laysOptions_97 : decode cX11_laysOptions 97 = .ok (.iconst 0, 1) := by decide +kernel
theorem dX11_laysOptions_98 : decode cX11_laysOptions 98 = .ok (.istore 7, 2) := by decide +kernel
theorem dX11_laysOptions_100 : decode cX11_laysOptions 100 = .ok (.iload_n 3, 1) := by decide +kernel
theorem dX11_laysOptions_101 : decode cX11_laysOptions 101 = .ok (.ifCond .le 7, 3) := by decide +kernel
theorem dX11_laysOptions_104 : decode cX11_laysOptions 104 = .ok (.iconst 1, 1) := by decide +kernel
theorem dX11_laysOptions_105 : decode cX11_laysOptions 105 = .ok (.goto 4, 3) := by decide +kernel
theorem dX11_laysOptions_108 : decode cX11_laysOptions 108 = .ok (.iconst 0, 1) := by decide +kernel
theorem dX11_laysOptions_109 : decode cX11_laysOptions 109 = .ok (.istore 8, 2) := by decide +kernel
theorem dX11_laysOptions_111 : decode cX11_laysOptions 111 = .ok (.iload 6, 2) := by decide +kernel
theorem dX11_laysOptions_113 : decode cX11_laysOptions 113 = .ok (.ifCond .eq 37, 3) := by decide +kernel
theorem dX11_laysOptions_116 : decode cX11_laysOptions 116 = .ok (.iload 7, 2) := by decide +kernel
theorem dX11_laysOptions_118 : decode cX11_laysOptions 118 = .ok (.ifCond .eq 32, 3) := by decide +kernel
theorem dX11_laysOptions_121 : decode cX11_laysOptions 121 = .ok (.aload_n 0, 1) := by decide +kernel
theorem dX11_laysOptions_122 : decode cX11_laysOptions 122 = .ok (.iload_n 2, 1) := by decide +kernel
theorem dX11_laysOptions_123 : decode cX11_laysOptions 123 = .ok (.ifCond .ne 7, 3) := by decide +kernel
theorem dX11_laysOptions_126 : decode cX11_laysOptions 126 = .ok (.iconst 0, 1) := by decide +kernel
theorem dX11_laysOptions_127 : decode cX11_laysOptions 127 = .ok (.goto 19, 3) := by decide +kernel
theorem dX11_laysOptions_130 : decode cX11_laysOptions 130 = .ok (.aload_n 0, 1) := by decide +kernel
theorem dX11_laysOptions_131 : decode cX11_laysOptions 131 = .ok (.iload_n 2, 1) := by decide +kernel
theorem dX11_laysOptions_132 : decode cX11_laysOptions 132 = .ok (.iconst 2, 1) := by decide +kernel
theorem dX11_laysOptions_133 : decode cX11_laysOptions 133 = .ok (.if_icmp .ne 7, 3) := by decide +kernel
theorem dX11_laysOptions_136 : decode cX11_laysOptions 136 = .ok (.iconst 1, 1) := by decide +kernel
theorem dX11_laysOptions_137 : decode cX11_laysOptions 137 = .ok (.goto 4, 3) := by decide +kernel
theorem dX11_laysOptions_140 : decode cX11_laysOptions 140 = .ok (.iconst 0, 1) := by decide +kernel
theorem dX11_laysOptions_141 : decode cX11_laysOptions 141 = .ok (.iconst 1, 1) := by decide +kernel
theorem dX11_laysOptions_142 : decode cX11_laysOptions 142 = .ok (.iconst 0, 1) := by decide +kernel
theorem dX11_laysOptions_143 : decode cX11_laysOptions 143 = .ok (.invokevirtual 195, 3) := by decide +kernel
theorem dX11_laysOptions_146 : decode cX11_laysOptions 146 = .ok (.iload_n 2, 1) := by decide +kernel
theorem dX11_laysOptions_147 : decode cX11_laysOptions 147 = .ok (.invokevirtual 199, 3) := by decide +kernel
theorem dX11_laysOptions_150 : decode cX11_laysOptions 150 = .ok (.iload_n 2, 1) := by decide +kernel
theorem dX11_laysOptions_151 : decode cX11_laysOptions 151 = .ok (.ifCond .le 55, 3) := by decide +kernel
theorem dX11_laysOptions_154 : decode cX11_laysOptions 154 = .ok (.iload 4, 2) := by decide +kernel
theorem dX11_laysOptions_156 : decode cX11_laysOptions 156 = .ok (.ifCond .le 50, 3) := by decide +kernel
theorem dX11_laysOptions_159 : decode cX11_laysOptions 159 = .ok (.iload 6, 2) := by decide +kernel
theorem dX11_laysOptions_161 : decode cX11_laysOptions 161 = .ok (.ifCond .eq 45, 3) := by decide +kernel
theorem dX11_laysOptions_164 : decode cX11_laysOptions 164 = .ok (.aload_n 0, 1) := by decide +kernel
theorem dX11_laysOptions_165 : decode cX11_laysOptions 165 = .ok (.aload_n 0, 1) := by decide +kernel
theorem dX11_laysOptions_166 : decode cX11_laysOptions 166 = .ok (.iload_n 2, 1) := by decide +kernel
theorem dX11_laysOptions_167 : decode cX11_laysOptions 167 = .ok (.iconst 2, 1) := by decide +kernel
theorem dX11_laysOptions_168 : decode cX11_laysOptions 168 = .ok (.if_icmp .ne 7, 3) := by decide +kernel
theorem dX11_laysOptions_171 : decode cX11_laysOptions 171 = .ok (.iconst 1, 1) := by decide +kernel
theorem dX11_laysOptions_172 : decode cX11_laysOptions 172 = .ok (.goto 4, 3) := by decide +kernel
theorem dX11_laysOptions_175 : decode cX11_laysOptions 175 = .ok (.iconst 0, 1) := by decide +kernel
theorem dX11_laysOptions_176 : decode cX11_laysOptions 176 = .ok (.aload_n 0, 1) := by decide +kernel
theorem dX11_laysOptions_177 : decode cX11_laysOptions 177 = .ok (.iload 4, 2) := by decide +kernel
theorem dX11_laysOptions_179 : decode cX11_laysOptions 179 = .ok (.invokevirtual 203, 3) := by decide +kernel
theorem dX11_laysOptions_182 : decode cX11_laysOptions 182 = .ok (.aload_n 0, 1) := by decide +kernel
theorem dX11_laysOptions_183 : decode cX11_laysOptions 183 = .ok (.iload 4, 2) := by decide +kernel
theorem dX11_laysOptions_185 : decode cX11_laysOptions 185 = .ok (.invokevirtual 203, 3) := by decide +kernel
theorem dX11_laysOptions_188 : decode cX11_laysOptions 188 = .ok (.iconst 1, 1) := by decide +kernel
theorem dX11_laysOptions_189 : decode cX11_laysOptions 189 = .ok (.if_icmp .eq 7, 3) := by decide +kernel
theorem dX11_laysOptions_192 : decode cX11_laysOptions 192 = .ok (.iconst 1, 1) := by decide +kernel
theorem dX11_laysOptions_193 : decode cX11_laysOptions 193 = .ok (.goto 4, 3) := by decide +kernel
theorem dX11_laysOptions_196 : decode cX11_laysOptions 196 = .ok (.iconst 0, 1) := by decide +kernel
theorem dX11_laysOptions_197 : decode cX11_laysOptions 197 = .ok (.invokevirtual 195, 3) := by decide +kernel
theorem dX11_laysOptions_200 : decode cX11_laysOptions 200 = .ok (.iload_n 2, 1) := by decide +kernel
theorem dX11_laysOptions_201 : decode cX11_laysOptions 201 = .ok (.iconst 1, 1) := by decide +kernel
theorem dX11_laysOptions_202 : decode cX11_laysOptions 202 = .ok (.isub, 1) := by decide +kernel
theorem dX11_laysOptions_203 : decode cX11_laysOptions 203 = .ok (.invokevirtual 199, 3) := by decide +kernel
theorem dX11_laysOptions_206 : decode cX11_laysOptions 206 = .ok (.iload_n 2, 1) := by decide +kernel
theorem dX11_laysOptions_207 : decode cX11_laysOptions 207 = .ok (.ifCond .le 58, 3) := by decide +kernel
theorem dX11_laysOptions_210 : decode cX11_laysOptions 210 = .ok (.iload 8, 2) := by decide +kernel
theorem dX11_laysOptions_212 : decode cX11_laysOptions 212 = .ok (.ifCond .eq 53, 3) := by decide +kernel
theorem dX11_laysOptions_215 : decode cX11_laysOptions 215 = .ok (.iload 5, 2) := by decide +kernel
theorem dX11_laysOptions_217 : decode cX11_laysOptions 217 = .ok (.ifCond .eq 48, 3) := by decide +kernel
theorem dX11_laysOptions_220 : decode cX11_laysOptions 220 = .ok (.iload 7, 2) := by decide +kernel
theorem dX11_laysOptions_222 : decode cX11_laysOptions 222 = .ok (.ifCond .eq 43, 3) := by decide +kernel
theorem dX11_laysOptions_225 : decode cX11_laysOptions 225 = .ok (.aload_n 0, 1) := by decide +kernel
theorem dX11_laysOptions_226 : decode cX11_laysOptions 226 = .ok (.aload_n 0, 1) := by decide +kernel
theorem dX11_laysOptions_227 : decode cX11_laysOptions 227 = .ok (.iload_n 2, 1) := by decide +kernel
theorem dX11_laysOptions_228 : decode cX11_laysOptions 228 = .ok (.iconst 2, 1) := by decide +kernel
theorem dX11_laysOptions_229 : decode cX11_laysOptions 229 = .ok (.if_icmp .ne 7, 3) := by decide +kernel
theorem dX11_laysOptions_232 : decode cX11_laysOptions 232 = .ok (.iconst 1, 1) := by decide +kernel
theorem dX11_laysOptions_233 : decode cX11_laysOptions 233 = .ok (.goto 4, 3) := by decide +kernel
theorem dX11_laysOptions_236 : decode cX11_laysOptions 236 = .ok (.iconst 0, 1) := by decide +kernel
theorem dX11_laysOptions_237 : decode cX11_laysOptions 237 = .ok (.aload_n 0, 1) := by decide +kernel
theorem dX11_laysOptions_238 : decode cX11_laysOptions 238 = .ok (.iload_n 3, 1) := by decide +kernel
theorem dX11_laysOptions_239 : decode cX11_laysOptions 239 = .ok (.invokevirtual 203, 3) := by decide +kernel
theorem dX11_laysOptions_242 : decode cX11_laysOptions 242 = .ok (.aload_n 0, 1) := by decide +kernel
theorem dX11_laysOptions_243 : decode cX11_laysOptions 243 = .ok (.iload_n 3, 1) := by decide +kernel
theorem dX11_laysOptions_244 : decode cX11_laysOptions 244 = .ok (.invokevirtual 203, 3) := by decide +kernel
theorem dX11_laysOptions_247 : decode cX11_laysOptions 247 = .ok (.iconst 1, 1) := by decide +kernel
theorem dX11_laysOptions_248 : decode cX11_laysOptions 248 = .ok (.if_icmp .eq 7, 3) := by decide +kernel
theorem dX11_laysOptions_251 : decode cX11_laysOptions 251 = .ok (.iconst 1, 1) := by decide +kernel
theorem dX11_laysOptions_252 : decode cX11_laysOptions 252 = .ok (.goto 4, 3) := by decide +kernel
theorem dX11_laysOptions_255 : decode cX11_laysOptions 255 = .ok (.iconst 0, 1) := by decide +kernel
theorem dX11_laysOptions_256 : decode cX11_laysOptions 256 = .ok (.invokevirtual 195, 3) := by decide +kernel
theorem dX11_laysOptions_259 : decode cX11_laysOptions 259 = .ok (.iload_n 2, 1) := by decide +kernel
theorem dX11_laysOptions_260 : decode cX11_laysOptions 260 = .ok (.iconst 1, 1) := by decide +kernel
theorem dX11_laysOptions_261 : decode cX11_laysOptions 261 = .ok (.isub, 1) := by decide +kernel
theorem dX11_laysOptions_262 : decode cX11_laysOptions 262 = .ok (.invokevirtual 199, 3) := by decide +kernel
theorem dX11_laysOptions_265 : decode cX11_laysOptions 265 = .ok (.iload_n 2, 1) := by decide +kernel
theorem dX11_laysOptions_266 : decode cX11_laysOptions 266 = .ok (.iconst 2, 1) := by decide +kernel
theorem dX11_laysOptions_267 : decode cX11_laysOptions 267 = .ok (.if_icmp .ne 30, 3) := by decide +kernel
theorem dX11_laysOptions_270 : decode cX11_laysOptions 270 = .ok (.iload 8, 2) := by decide +kernel
theorem dX11_laysOptions_272 : decode cX11_laysOptions 272 = .ok (.ifCond .eq 25, 3) := by decide +kernel
theorem dX11_laysOptions_275 : decode cX11_laysOptions 275 = .ok (.aload_n 0, 1) := by decide +kernel
theorem dX11_laysOptions_276 : decode cX11_laysOptions 276 = .ok (.aload_n 0, 1) := by decide +kernel
theorem dX11_laysOptions_277 : decode cX11_laysOptions 277 = .ok (.aload_n 0, 1) := by decide +kernel
theorem dX11_laysOptions_278 : decode cX11_laysOptions 278 = .ok (.iload_n 3, 1) := by decide +kernel
theorem dX11_laysOptions_279 : decode cX11_laysOptions 279 = .ok (.invokevirtual 203, 3) := by decide +kernel
theorem dX11_laysOptions_282 : decode cX11_laysOptions 282 = .ok (.aload_n 0, 1) := by decide +kernel
theorem dX11_laysOptions_283 : decode cX11_laysOptions 283 = .ok (.iload 4, 2) := by decide +kernel
theorem dX11_laysOptions_285 : decode cX11_laysOptions 285 = .ok (.invokevirtual 203, 3) := by decide +kernel
theorem dX11_laysOptions_288 : decode cX11_laysOptions 288 = .ok (.iload 5, 2) := by decide +kernel
theorem dX11_laysOptions_290 : decode cX11_laysOptions 290 = .ok (.invokevirtual 195, 3) := by decide +kernel
theorem dX11_laysOptions_293 : decode cX11_laysOptions 293 = .ok (.iconst 0, 1) := by decide +kernel
theorem dX11_laysOptions_294 : decode cX11_laysOptions 294 = .ok (.invokevirtual 199, 3) := by decide +kernel
theorem dX11_laysOptions_297 : decode cX11_laysOptions 297 = .ok (.return_, 1) := by decide +kernel
theorem dX11_comes_0 : decode cX11_comes 0 = .ok (.aload_n 0, 1) := by decide +kernel
theorem dX11_comes_1 : decode cX11_comes 1 = .ok (.getfield 143, 3) := by decide +kernel
theorem dX11_comes_4 : decode cX11_comes 4 = .ok (.iload_n 1, 1) := by decide +kernel
theorem dX11_comes_5 : decode cX11_comes 5 = .ok (.baload, 1) := by decide +kernel
theorem dX11_comes_6 : decode cX11_comes 6 = .ok (.ifCond .ne 56, 3) := by decide +kernel
theorem dX11_comes_9 : decode cX11_comes 9 = .ok (.aload_n 0, 1) := by decide +kernel
theorem dX11_comes_10 : decode cX11_comes 10 = .ok (.getfield 143, 3) := by decide +kernel
theorem dX11_comes_13 : decode cX11_comes 13 = .ok (.iload_n 1, 1) := by decide +kernel
theorem dX11_comes_14 : decode cX11_comes 14 = .ok (.iconst 1, 1) := by decide +kernel
theorem dX11_comes_15 : decode cX11_comes 15 = .ok (.bastore, 1) := by decide +kernel
theorem dX11_comes_16 : decode cX11_comes 16 = .ok (.aload_n 0, 1) := by decide +kernel
theorem dX11_comes_17 : decode cX11_comes 17 = .ok (.getfield 146, 3) := by decide +kernel
theorem dX11_comes_20 : decode cX11_comes 20 = .ok (.aload_n 0, 1) := by decide +kernel
theorem dX11_comes_21 : decode cX11_comes 21 = .ok (.getfield 207, 3) := by decide +kernel
theorem dX11_comes_24 : decode cX11_comes 24 = .ok (.iload_n 1, 1) := by decide +kernel
theorem dX11_comes_25 : decode cX11_comes 25 = .ok (.iastore, 1) := by decide +kernel
theorem dX11_comes_26 : decode cX11_comes 26 = .ok (.aload_n 0, 1) := by decide +kernel
theorem dX11_comes_27 : decode cX11_comes 27 = .ok (.dup, 1) := by decide +kernel
theorem dX11_comes_28 : decode cX11_comes 28 = .ok (.getfield 207, 3) := by decide +kernel
theorem dX11_comes_31 : decode cX11_comes 31 = .ok (.iconst 1, 1) := by decide +kernel
theorem dX11_comes_32 : decode cX11_comes 32 = .ok (.iadd, 1) := by decide +kernel
theorem dX11_comes_33 : decode cX11_comes 33 = .ok (.putfield 207, 3) := by decide +kernel
theorem dX11_comes_36 : decode cX11_comes 36 = .ok (.aload_n 0, 1) := by decide +kernel
theorem dX11_comes_37 : decode cX11_comes 37 = .ok (.getfield 134, 3) := by decide +kernel
theorem dX11_comes_40 : decode cX11_comes 40 = .ok (.iload_n 1, 1) := by decide +kernel
theorem dX11_comes_41 : decode cX11_comes 41 = .ok (.lload_n 2, 1) := by decide +kernel
theorem dX11_comes_42 : decode cX11_comes 42 = .ok (.lastore, 1) := by decide +kernel
theorem dX11_comes_43 : decode cX11_comes 43 = .ok (.aload_n 0, 1) := by decide +kernel
theorem dX11_comes_44 : decode cX11_comes 44 = .ok (.getfield 137, 3) := by decide +kernel
theorem dX11_comes_47 : decode cX11_comes 47 = .ok (.iload_n 1, 1) := by decide +kernel
theorem dX11_comes_48 : decode cX11_comes 48 = .ok (.lload 4, 2) := by decide +kernel
theorem dX11_comes_50 : decode cX11_comes 50 = .ok (.lastore, 1) := by decide +kernel
theorem dX11_comes_51 : decode cX11_comes 51 = .ok (.aload_n 0, 1) := by decide +kernel
theorem dX11_comes_52 : decode cX11_comes 52 = .ok (.getfield 140, 3) := by decide +kernel
theorem dX11_comes_55 : decode cX11_comes 55 = .ok (.iload_n 1, 1) := by decide +kernel
theorem dX11_comes_56 : decode cX11_comes 56 = .ok (.lload 6, 2) := by decide +kernel
theorem dX11_comes_58 : decode cX11_comes 58 = .ok (.lastore, 1) := by decide +kernel
theorem dX11_comes_59 : decode cX11_comes 59 = .ok (.goto 217, 3) := by decide +kernel
theorem dX11_comes_62 : decode cX11_comes 62 = .ok (.iload 8, 2) := by decide +kernel
theorem dX11_comes_64 : decode cX11_comes 64 = .ok (.ifCond .eq 136, 3) := by decide +kernel
theorem dX11_comes_67 : decode cX11_comes 67 = .ok (.lload_n 2, 1) := by decide +kernel
theorem dX11_comes_68 : decode cX11_comes 68 = .ok (.aload_n 0, 1) := by decide +kernel
theorem dX11_comes_69 : decode cX11_comes 69 = .ok (.getfield 134, 3) := by decide +kernel
theorem dX11_comes_72 : decode cX11_comes 72 = .ok (.iload_n 1, 1) := by decide +kernel
theorem dX11_comes_73 : decode cX11_comes 73 = .ok (.laload, 1) := by decide +kernel
theorem dX11_comes_74 : decode cX11_comes 74 = .ok (.lcmp, 1) := by decide +kernel
theorem dX11_comes_75 : decode cX11_comes 75 = .ok (.ifCond .gt 50, 3) := by decide +kernel
theorem dX11_comes_78 : decode cX11_comes 78 = .ok (.lload_n 2, 1) := by decide +kernel
theorem dX11_comes_79 : decode cX11_comes 79 = .ok (.aload_n 0, 1) := by decide +kernel
theorem dX11_comes_80 : decode cX11_comes 80 = .ok (.getfield 134, 3) := by decide +kernel
theorem dX11_comes_83 : decode cX11_comes 83 = .ok (.iload_n 1, 1) := by decide +kernel
theorem dX11_comes_84 : decode cX11_comes 84 = .ok (.laload, 1) := by decide +kernel
theorem dX11_comes_85 : decode cX11_comes 85 = .ok (.lcmp, 1) := by decide +kernel
theorem dX11_comes_86 : decode cX11_comes 86 = .ok (.ifCond .ne 43, 3) := by decide +kernel
theorem dX11_comes_89 : decode cX11_comes 89 = .ok (.lload 4, 2) := by decide +kernel
theorem dX11_comes_91 : decode cX11_comes 91 = .ok (.aload_n 0, 1) := by decide +kernel
theorem dX11_comes_92 : decode cX11_comes 92 = .ok (.getfield 137, 3) := by decide +kernel
theorem dX11_comes_95 : decode cX11_comes 95 = .ok (.iload_n 1, 1) := by decide +kernel
theorem dX11_comes_96 : decode cX11_comes 96 = .ok (.laload, 1) := by decide +kernel
theorem dX11_comes_97 : decode cX11_comes 97 = .ok (.lcmp, 1) := by decide +kernel
theorem dX11_comes_98 : decode cX11_comes 98 = .ok (.ifCond .gt 27, 3) := by decide +kernel
theorem dX11_comes_101 : decode cX11_comes 101 = .ok (.lload 4, 2) := by decide +kernel
theorem dX11_comes_103 : decode cX11_comes 103 = .ok (.aload_n 0, 1) := by decide +kernel
theorem dX11_comes_104 : decode cX11_comes 104 = .ok (.getfield 137, 3) := by decide +kernel
theorem dX11_comes_107 : decode cX11_comes 107 = .ok (.iload_n 1, 1) := by decide +kernel
theorem dX11_comes_108 : decode cX11_comes 108 = .ok (.laload, 1) := by decide +kernel
theorem dX11_comes_109 : decode cX11_comes 109 = .ok (.lcmp, 1) := by decide +kernel
theorem dX11_comes_110 : decode cX11_comes 110 = .ok (.ifCond .ne 19, 3) := by decide +kernel
theorem dX11_comes_113 : decode cX11_comes 113 = .ok (.lload 6, 2) := by decide +kernel
theorem dX11_comes_115 : decode cX11_comes 115 = .ok (.aload_n 0, 1) := by decide +kernel
theorem dX11_comes_116 : decode cX11_comes 116 = .ok (.getfield 140, 3) := by decide +kernel
theorem dX11_comes_119 : decode cX11_comes 119 = .ok (.iload_n 1, 1) := by decide +kernel
theorem dX11_comes_120 : decode cX11_comes 120 = .ok (.laload, 1) := by decide +kernel
theorem dX11_comes_121 : decode cX11_comes 121 = .ok (.lcmp, 1) := by decide +kernel
theorem dX11_comes_122 : decode cX11_comes 122 = .ok (.ifCond .le 7, 3) := by decide +kernel
theorem dX11_comes_125 : decode cX11_comes 125 = .ok (.iconst 1, 1) := by decide +kernel
theorem dX11_comes_126 : decode cX11_comes 126 = .ok (.goto 4, 3) := by decide +kernel
theorem dX11_comes_129 : decode cX11_comes 129 = .ok (.iconst 0, 1) := by decide +kernel
theorem dX11_comes_130 : decode cX11_comes 130 = .ok (.istore 9, 2) := by decide +kernel
theorem dX11_comes_132 : decode cX11_comes 132 = .ok (.aload_n 0, 1) := by decide +kernel
theorem dX11_comes_133 : decode cX11_comes 133 = .ok (.getfield 134, 3) := by decide +kernel
theorem dX11_comes_136 : decode cX11_comes 136 = .ok (.iload_n 1, 1) := by decide +kernel
theorem dX11_comes_137 : decode cX11_comes 137 = .ok (.iload 9, 2) := by decide +kernel
theorem dX11_comes_139 : decode cX11_comes 139 = .ok (.ifCond .eq 7, 3) := by decide +kernel
theorem dX11_comes_142 : decode cX11_comes 142 = .ok (.lload_n 2, 1) := by decide +kernel
theorem dX11_comes_143 : decode cX11_comes 143 = .ok (.goto 9, 3) := by decide +kernel
theorem dX11_comes_146 : decode cX11_comes 146 = .ok (.aload_n 0, 1) := by decide +kernel
theorem dX11_comes_147 : decode cX11_comes 147 = .ok (.getfield 134, 3) := by decide +kernel
theorem dX11_comes_150 : decode cX11_comes 150 = .ok (.iload_n 1, 1) := by decide +kernel
theorem dX11_comes_151 : decode cX11_comes 151 = .ok (.laload, 1) := by decide +kernel
theorem dX11_comes_152 : decode cX11_comes 152 = .ok (.lastore, 1) := by decide +kernel
theorem dX11_comes_153 : decode cX11_comes 153 = .ok (.aload_n 0, 1) := by decide +kernel
theorem dX11_comes_154 : decode cX11_comes 154 = .ok (.getfield 137, 3) := by decide +kernel
theorem dX11_comes_157 : decode cX11_comes 157 = .ok (.iload_n 1, 1) := by decide +kernel
theorem dX11_comes_158 : decode cX11_comes 158 = .ok (.iload 9, 2) := by decide +kernel
theorem dX11_comes_160 : decode cX11_comes 160 = .ok (.ifCond .eq 8, 3) := by decide +kernel
theorem dX11_comes_163 : decode cX11_comes 163 = .ok (.lload 4, 2) := by decide +kernel
theorem dX11_comes_165 : decode cX11_comes 165 = .ok (.goto 9, 3) := by decide +kernel
theorem dX11_comes_168 : decode cX11_comes 168 = .ok (.aload_n 0, 1) := by decide +kernel
theorem dX11_comes_169 : decode cX11_comes 169 = .ok (.getfield 137, 3) := by decide +kernel
theorem dX11_comes_172 : decode cX11_comes 172 = .ok (.iload_n 1, 1) := by decide +kernel
theorem dX11_comes_173 : decode cX11_comes 173 = .ok (.laload, 1) := by decide +kernel
theorem dX11_comes_174 : decode cX11_comes 174 = .ok (.lastore, 1) := by decide +kernel
theorem dX11_comes_175 : decode cX11_comes 175 = .ok (.aload_n 0, 1) := by decide +kernel
theorem dX11_comes_176 : decode cX11_comes 176 = .ok (.getfield 140, 3) := by decide +kernel
theorem dX11_comes_179 : decode cX11_comes 179 = .ok (.iload_n 1, 1) := by decide +kernel
theorem dX11_comes_180 : decode cX11_comes 180 = .ok (.iload 9, 2) := by decide +kernel
theorem dX11_comes_182 : decode cX11_comes 182 = .ok (.ifCond .eq 8, 3) := by decide +kernel
theorem dX11_comes_185 : decode cX11_comes 185 = .ok (.lload 6, 2) := by decide +kernel
theorem dX11_comes_187 : decode cX11_comes 187 = .ok (.goto 9, 3) := by decide +kernel
theorem dX11_comes_190 : decode cX11_comes 190 = .ok (.aload_n 0, 1) := by decide +kernel
theorem dX11_comes_191 : decode cX11_comes 191 = .ok (.getfield 140, 3) := by decide +kernel
theorem dX11_comes_194 : decode cX11_comes 194 = .ok (.iload_n 1, 1) := by decide +kernel
theorem dX11_comes_195 : decode cX11_comes 195 = .ok (.laload, 1) := by decide +kernel
theorem dX11_comes_196 : decode cX11_comes 196 = .ok (.lastore, 1) := by decide +kernel
theorem dX11_comes_197 : decode cX11_comes 197 = .ok (.goto 79, 3) := by decide +kernel
theorem dX11_comes_200 : decode cX11_comes 200 = .ok (.aload_n 0, 1) := by decide +kernel
theorem dX11_comes_201 : decode cX11_comes 201 = .ok (.getfield 134, 3) := by decide +kernel
theorem dX11_comes_204 : decode cX11_comes 204 = .ok (.iload_n 1, 1) := by decide +kernel
theorem dX11_comes_205 : decode cX11_comes 205 = .ok (.aload_n 0, 1) := by decide +kernel
theorem dX11_comes_206 : decode cX11_comes 206 = .ok (.getfield 134, 3) := by decide +kernel
theorem dX11_comes_209 : decode cX11_comes 209 = .ok (.iload_n 1, 1) := by decide +kernel
theorem dX11_comes_210 : decode cX11_comes 210 = .ok (.laload, 1) := by decide +kernel
theorem dX11_comes_211 : decode cX11_comes 211 = .ok (.lload_n 2, 1) := by decide +kernel
theorem dX11_comes_212 : decode cX11_comes 212 = .ok (.ladd, 1) := by decide +kernel
theorem dX11_comes_213 : decode cX11_comes 213 = .ok (.ldc2_w 210, 3) := by decide +kernel
theorem dX11_comes_216 : decode cX11_comes 216 = .ok (.lrem, 1) := by decide +kernel
theorem dX11_comes_217 : decode cX11_comes 217 = .ok (.lastore, 1) := by decide +kernel
theorem dX11_comes_218 : decode cX11_comes 218 = .ok (.aload_n 0, 1) := by decide +kernel
theorem dX11_comes_219 : decode cX11_comes 219 = .ok (.getfield 137, 3) := by decide +kernel
theorem dX11_comes_222 : decode cX11_comes 222 = .ok (.iload_n 1, 1) := by decide +kernel
theorem dX11_comes_223 : decode cX11_comes 223 = .ok (.lload 4, 2) := by decide +kernel
theorem dX11_comes_225 : decode cX11_comes 225 = .ok (.aload_n 0, 1) := by decide +kernel
theorem dX11_comes_226 : decode cX11_comes 226 = .ok (.getfield 137, 3) := by decide +kernel
theorem dX11_comes_229 : decode cX11_comes 229 = .ok (.iload_n 1, 1) := by decide +kernel
theorem dX11_comes_230 : decode cX11_comes 230 = .ok (.laload, 1) := by decide +kernel
theorem dX11_comes_231 : decode cX11_comes 231 = .ok (.lcmp, 1) := by decide +kernel
theorem dX11_comes_232 : decode cX11_comes 232 = .ok (.ifCond .ge 8, 3) := by decide +kernel
theorem dX11_comes_235 : decode cX11_comes 235 = .ok (.lload 4, 2) := by decide +kernel
theorem dX11_comes_237 : decode cX11_comes 237 = .ok (.goto 9, 3) := by decide +kernel
theorem dX11_comes_240 : decode cX11_comes 240 = .ok (.aload_n 0, 1) := by decide +kernel
theorem dX11_comes_241 : decode cX11_comes 241 = .ok (.getfield 137, 3) := by decide +kernel
theorem dX11_comes_244 : decode cX11_comes 244 = .ok (.iload_n 1, 1) := by decide +kernel
theorem dX11_comes_245 : decode cX11_comes 245 = .ok (.laload, 1) := by decide +kernel
theorem dX11_comes_246 : decode cX11_comes 246 = .ok (.lastore, 1) := by decide +kernel
theorem dX11_comes_247 : decode cX11_comes 247 = .ok (.aload_n 0, 1) := by decide +kernel
theorem dX11_comes_248 : decode cX11_comes 248 = .ok (.getfield 140, 3) := by decide +kernel
theorem dX11_comes_251 : decode cX11_comes 251 = .ok (.iload_n 1, 1) := by decide +kernel
theorem dX11_comes_252 : decode cX11_comes 252 = .ok (.lload 6, 2) := by decide +kernel
theorem dX11_comes_254 : decode cX11_comes 254 = .ok (.aload_n 0, 1) := by decide +kernel
theorem dX11_comes_255 : decode cX11_comes 255 = .ok (.getfield 140, 3) := by decide +kernel
theorem dX11_comes_258 : decode cX11_comes 258 = .ok (.iload_n 1, 1) := by decide +kernel
theorem dX11_comes_259 : decode cX11_comes 259 = .ok (.laload, 1) := by decide +kernel
theorem dX11_comes_260 : decode cX11_comes 260 = .ok (.lcmp, 1) := by decide +kernel
theorem dX11_comes_261 : decode cX11_comes 261 = .ok (.ifCond .le 8, 3) := by decide +kernel
theorem dX11_comes_264 : decode cX11_comes 264 = .ok (.lload 6, 2) := by decide +kernel
theorem dX11_comes_266 : decode cX11_comes 266 = .ok (.goto 9, 3) := by decide +kernel
theorem dX11_comes_269 : decode cX11_comes 269 = .ok (.aload_n 0, 1) := by decide +kernel
theorem dX11_comes_270 : decode cX11_comes 270 = .ok (.getfield 140, 3) := by decide +kernel
theorem dX11_comes_273 : decode cX11_comes 273 = .ok (.iload_n 1, 1) := by decide +kernel
theorem dX11_comes_274 : decode cX11_comes 274 = .ok (.laload, 1) := by decide +kernel
theorem dX11_comes_275 : decode cX11_comes 275 = .ok (.lastore, 1) := by decide +kernel
theorem dX11_comes_276 : decode cX11_comes 276 = .ok (.return_, 1) := by decide +kernel
theorem dX11_goesOn_0 : decode cX11_goesOn 0 = .ok (.aload_n 0, 1) := by decide +kernel
theorem dX11_goesOn_1 : decode cX11_goesOn 1 = .ok (.iconst 0, 1) := by decide +kernel
theorem dX11_goesOn_2 : decode cX11_goesOn 2 = .ok (.putfield 192, 3) := by decide +kernel
theorem dX11_goesOn_5 : decode cX11_goesOn 5 = .ok (.iconst 0, 1) := by decide +kernel
theorem dX11_goesOn_6 : decode cX11_goesOn 6 = .ok (.istore 10, 2) := by decide +kernel
theorem dX11_goesOn_8 : decode cX11_goesOn 8 = .ok (.iload 10, 2) := by decide +kernel
theorem dX11_goesOn_10 : decode cX11_goesOn 10 = .ok (.iconst 4, 1) := by decide +kernel
theorem dX11_goesOn_11 : decode cX11_goesOn 11 = .ok (.if_icmp .ge 69, 3) := by decide +kernel
theorem dX11_goesOn_14 : decode cX11_goesOn 14 = .ok (.aload_n 0, 1) := by decide +kernel
theorem dX11_goesOn_15 : decode cX11_goesOn 15 = .ok (.getfield 170, 3) := by decide +kernel
theorem dX11_goesOn_18 : decode cX11_goesOn 18 = .ok (.iload 10, 2) := by decide +kernel
theorem dX11_goesOn_20 : decode cX11_goesOn 20 = .ok (.aload_n 0, 1) := by decide +kernel
theorem dX11_goesOn_21 : decode cX11_goesOn 21 = .ok (.getfield 192, 3) := by decide +kernel
theorem dX11_goesOn_24 : decode cX11_goesOn 24 = .ok (.iastore, 1) := by decide +kernel
theorem dX11_goesOn_25 : decode cX11_goesOn 25 = .ok (.aload_n 0, 1) := by decide +kernel
theorem dX11_goesOn_26 : decode cX11_goesOn 26 = .ok (.iload_n 1, 1) := by decide +kernel
theorem dX11_goesOn_27 : decode cX11_goesOn 27 = .ok (.iconst 4, 1) := by decide +kernel
theorem dX11_goesOn_28 : decode cX11_goesOn 28 = .ok (.iload 10, 2) := by decide +kernel
theorem dX11_goesOn_30 : decode cX11_goesOn 30 = .ok (.imul, 1) := by decide +kernel
theorem dX11_goesOn_31 : decode cX11_goesOn 31 = .ok (.ishr, 1) := by decide +kernel
theorem dX11_goesOn_32 : decode cX11_goesOn 32 = .ok (.bipush 15, 2) := by decide +kernel
theorem dX11_goesOn_34 : decode cX11_goesOn 34 = .ok (.iand, 1) := by decide +kernel
theorem dX11_goesOn_35 : decode cX11_goesOn 35 = .ok (.aload_n 0, 1) := by decide +kernel
theorem dX11_goesOn_36 : decode cX11_goesOn 36 = .ok (.getfield 155, 3) := by decide +kernel
theorem dX11_goesOn_39 : decode cX11_goesOn 39 = .ok (.iload 10, 2) := by decide +kernel
theorem dX11_goesOn_41 : decode cX11_goesOn 41 = .ok (.iaload, 1) := by decide +kernel
theorem dX11_goesOn_42 : decode cX11_goesOn 42 = .ok (.invokevirtual 212, 3) := by decide +kernel
theorem dX11_goesOn_45 : decode cX11_goesOn 45 = .ok (.aload_n 0, 1) := by decide +kernel
theorem dX11_goesOn_46 : decode cX11_goesOn 46 = .ok (.getfield 173, 3) := by decide +kernel
theorem dX11_goesOn_49 : decode cX11_goesOn 49 = .ok (.iload 10, 2) := by decide +kernel
theorem dX11_goesOn_51 : decode cX11_goesOn 51 = .ok (.aload_n 0, 1) := by decide +kernel
theorem dX11_goesOn_52 : decode cX11_goesOn 52 = .ok (.getfield 192, 3) := by decide +kernel
theorem dX11_goesOn_55 : decode cX11_goesOn 55 = .ok (.iastore, 1) := by decide +kernel
theorem dX11_goesOn_56 : decode cX11_goesOn 56 = .ok (.aload_n 0, 1) := by decide +kernel
theorem dX11_goesOn_57 : decode cX11_goesOn 57 = .ok (.getfield 170, 3) := by decide +kernel
theorem dX11_goesOn_60 : decode cX11_goesOn 60 = .ok (.iload 10, 2) := by decide +kernel
theorem dX11_goesOn_62 : decode cX11_goesOn 62 = .ok (.iaload, 1) := by decide +kernel
theorem dX11_goesOn_63 : decode cX11_goesOn 63 = .ok (.aload_n 0, 1) := by decide +kernel
theorem dX11_goesOn_64 : decode cX11_goesOn 64 = .ok (.getfield 173, 3) := by decide +kernel
theorem dX11_goesOn_67 : decode cX11_goesOn 67 = .ok (.iload 10, 2) := by decide +kernel
theorem dX11_goesOn_69 : decode cX11_goesOn 69 = .ok (.iaload, 1) := by decide +kernel
theorem dX11_goesOn_70 : decode cX11_goesOn 70 = .ok (.if_icmp .ne 4, 3) := by decide +kernel
theorem dX11_goesOn_73 : decode cX11_goesOn 73 = .ok (.return_, 1) := by decide +kernel
theorem dX11_goesOn_74 : decode cX11_goesOn 74 = .ok (.iinc 10 1, 3) := by decide +kernel
theorem dX11_goesOn_77 : decode cX11_goesOn 77 = .ok (.goto (-69), 3) := by decide +kernel
theorem dX11_goesOn_80 : decode cX11_goesOn 80 = .ok (.aload_n 0, 1) := by decide +kernel
theorem dX11_goesOn_81 : decode cX11_goesOn 81 = .ok (.getfield 170, 3) := by decide +kernel
theorem dX11_goesOn_84 : decode cX11_goesOn 84 = .ok (.iconst 0, 1) := by decide +kernel
theorem dX11_goesOn_85 : decode cX11_goesOn 85 = .ok (.iaload, 1) := by decide +kernel
theorem dX11_goesOn_86 : decode cX11_goesOn 86 = .ok (.istore 10, 2) := by decide +kernel
theorem dX11_goesOn_88 : decode cX11_goesOn 88 = .ok (.iload 10, 2) := by decide +kernel
theorem dX11_goesOn_90 : decode cX11_goesOn 90 = .ok (.aload_n 0, 1) := by decide +kernel
theorem dX11_goesOn_91 : decode cX11_goesOn 91 = .ok (.getfield 173, 3) := by decide +kernel
theorem dX11_goesOn_94 : decode cX11_goesOn 94 = .ok (.iconst 0, 1) := by decide +kernel
theorem dX11_goesOn_95 : decode cX11_goesOn 95 = .ok (.iaload, 1) := by decide +kernel
theorem dX11_goesOn_96 : decode cX11_goesOn 96 = .ok (.if_icmp .ge 201, 3) := by decide +kernel
theorem dX11_goesOn_99 : decode cX11_goesOn 99 = .ok (.aload_n 0, 1) := by decide +kernel
theorem dX11_goesOn_100 : decode cX11_goesOn 100 = .ok (.getfield 170, 3) := by decide +kernel
theorem dX11_goesOn_103 : decode cX11_goesOn 103 = .ok (.iconst 1, 1) := by decide +kernel
theorem dX11_goesOn_104 : decode cX11_goesOn 104 = .ok (.iaload, 1) := by decide +kernel
theorem dX11_goesOn_105 : decode cX11_goesOn 105 = .ok (.istore 11, 2) := by decide +kernel
theorem dX11_goesOn_107 : decode cX11_goesOn 107 = .ok (.iload 11, 2) := by decide +kernel
theorem dX11_goesOn_109 : decode cX11_goesOn 109 = .ok (.aload_n 0, 1) := by decide +kernel
theorem dX11_goesOn_110 : decode cX11_goesOn 110 = .ok (.getfield 173, 3) := by decide +kernel
theorem dX11_goesOn_113 : decode cX11_goesOn 113 = .ok (.iconst 1, 1) := by decide +kernel
theorem dX11_goesOn_114 : decode cX11_goesOn 114 = .ok (.iaload, 1) := by decide +kernel
theorem dX11_goesOn_115 : decode cX11_goesOn 115 = .ok (.if_icmp .ge 176, 3) := by decide +kernel
theorem dX11_goesOn_118 : decode cX11_goesOn 118 = .ok (.aload_n 0, 1) := by decide +kernel
theorem dX11_goesOn_119 : decode cX11_goesOn 119 = .ok (.getfield 170, 3) := by decide +kernel
theorem dX11_goesOn_122 : decode cX11_goesOn 122 = .ok (.iconst 2, 1) := by decide +kernel
theorem dX11_goesOn_123 : decode cX11_goesOn 123 = .ok (.iaload, 1) := by decide +kernel
theorem dX11_goesOn_124 : decode cX11_goesOn 124 = .ok (.istore 12, 2) := by decide +kernel
theorem dX11_goesOn_126 : decode cX11_goesOn 126 = .ok (.iload 12, 2) := by decide +kernel
theorem dX11_goesOn_128 : decode cX11_goesOn 128 = .ok (.aload_n 0, 1) := by decide +kernel
theorem dX11_goesOn_129 : decode cX11_goesOn 129 = .ok (.getfield 173, 3) := by decide +kernel
theorem dX11_goesOn_132 : decode cX11_goesOn 132 = .ok (.iconst 2, 1) := by decide +kernel
theorem dX11_goesOn_133 : decode cX11_goesOn 133 = .ok (.iaload, 1) := by decide +kernel
theorem dX11_goesOn_134 : decode cX11_goesOn 134 = .ok (.if_icmp .ge 151, 3) := by decide +kernel
theorem dX11_goesOn_137 : decode cX11_goesOn 137 = .ok (.aload_n 0, 1) := by decide +kernel
theorem dX11_goesOn_138 : decode cX11_goesOn 138 = .ok (.getfield 170, 3) := by decide +kernel
theorem dX11_goesOn_141 : decode cX11_goesOn 141 = .ok (.iconst 3, 1) := by decide +kernel
theorem dX11_goesOn_142 : decode cX11_goesOn 142 = .ok (.iaload, 1) := by decide +kernel
theorem dX11_goesOn_143 : decode cX11_goesOn 143 = .ok (.istore 13, 2) := by decide +kernel
theorem dX11_goesOn_145 : decode cX11_goesOn 145 = .ok (.iload 13, 2) := by decide +kernel
theorem dX11_goesOn_147 : decode cX11_goesOn 147 = .ok (.aload_n 0, 1) := by decide +kernel
theorem dX11_goesOn_148 : decode cX11_goesOn 148 = .ok (.getfield 173, 3) := by decide +kernel
theorem dX11_goesOn_151 : decode cX11_goesOn 151 = .ok (.iconst 3, 1) := by decide +kernel
theorem dX11_goesOn_152 : decode cX11_goesOn 152 = .ok (.iaload, 1) := by decide +kernel
theorem dX11_goesOn_153 : decode cX11_goesOn 153 = .ok (.if_icmp .ge 126, 3) := by decide +kernel
theorem dX11_goesOn_156 : decode cX11_goesOn 156 = .ok (.iload_n 2, 1) := by decide +kernel
theorem dX11_goesOn_157 : decode cX11_goesOn 157 = .ok (.aload_n 0, 1) := by decide +kernel
theorem dX11_goesOn_158 : decode cX11_goesOn 158 = .ok (.getfield 167, 3) := by decide +kernel
theorem dX11_goesOn_161 : decode cX11_goesOn 161 = .ok (.iload 10, 2) := by decide +kernel
theorem dX11_goesOn_163 : decode cX11_goesOn 163 = .ok (.iaload, 1) := by decide +kernel
theorem dX11_goesOn_164 : decode cX11_goesOn 164 = .ok (.iadd, 1) := by decide +kernel
theorem dX11_goesOn_165 : decode cX11_goesOn 165 = .ok (.aload_n 0, 1) := by decide +kernel
theorem dX11_goesOn_166 : decode cX11_goesOn 166 = .ok (.getfield 167, 3) := by decide +kernel
theorem dX11_goesOn_169 : decode cX11_goesOn 169 = .ok (.iload 11, 2) := by decide +kernel
theorem dX11_goesOn_171 : decode cX11_goesOn 171 = .ok (.iaload, 1) := by decide +kernel
theorem dX11_goesOn_172 : decode cX11_goesOn 172 = .ok (.iadd, 1) := by decide +kernel
theorem dX11_goesOn_173 : decode cX11_goesOn 173 = .ok (.aload_n 0, 1) := by decide +kernel
theorem dX11_goesOn_174 : decode cX11_goesOn 174 = .ok (.getfield 167, 3) := by decide +kernel
theorem dX11_goesOn_177 : decode cX11_goesOn 177 = .ok (.iload 12, 2) := by decide +kernel
theorem dX11_goesOn_179 : decode cX11_goesOn 179 = .ok (.iaload, 1) := by decide +kernel
theorem dX11_goesOn_180 : decode cX11_goesOn 180 = .ok (.iadd, 1) := by decide +kernel
theorem dX11_goesOn_181 : decode cX11_goesOn 181 = .ok (.aload_n 0, 1) := by decide +kernel
theorem dX11_goesOn_182 : decode cX11_goesOn 182 = .ok (.getfield 167, 3) := by decide +kernel
theorem dX11_goesOn_185 : decode cX11_goesOn 185 = .ok (.iload 13, 2) := by decide +kernel
theorem dX11_goesOn_187 : decode cX11_goesOn 187 = .ok (.iaload, 1) := by decide +kernel
theorem dX11_goesOn_188 : decode cX11_goesOn 188 = .ok (.iadd, 1) := by decide +kernel
theorem dX11_goesOn_189 : decode cX11_goesOn 189 = .ok (.istore 14, 2) := by decide +kernel
theorem dX11_goesOn_191 : decode cX11_goesOn 191 = .ok (.aload_n 0, 1) := by decide +kernel
theorem dX11_goesOn_192 : decode cX11_goesOn 192 = .ok (.getfield 164, 3) := by decide +kernel
theorem dX11_goesOn_195 : decode cX11_goesOn 195 = .ok (.iload 10, 2) := by decide +kernel
theorem dX11_goesOn_197 : decode cX11_goesOn 197 = .ok (.iaload, 1) := by decide +kernel
theorem dX11_goesOn_198 : decode cX11_goesOn 198 = .ok (.aload_n 0, 1) := by decide +kernel
theorem dX11_goesOn_199 : decode cX11_goesOn 199 = .ok (.getfield 164, 3) := by decide +kernel
theorem dX11_goesOn_202 : decode cX11_goesOn 202 = .ok (.iload 11, 2) := by decide +kernel
theorem dX11_goesOn_204 : decode cX11_goesOn 204 = .ok (.iaload, 1) := by decide +kernel
theorem dX11_goesOn_205 : decode cX11_goesOn 205 = .ok (.iconst 4, 1) := by decide +kernel
theorem dX11_goesOn_206 : decode cX11_goesOn 206 = .ok (.ishl, 1) := by decide +kernel
theorem dX11_goesOn_207 : decode cX11_goesOn 207 = .ok (.ior, 1) := by decide +kernel
theorem dX11_goesOn_208 : decode cX11_goesOn 208 = .ok (.aload_n 0, 1) := by decide +kernel
theorem dX11_goesOn_209 : decode cX11_goesOn 209 = .ok (.getfield 164, 3) := by decide +kernel
theorem dX11_goesOn_212 : decode cX11_goesOn 212 = .ok (.iload 12, 2) := by decide +kernel
theorem dX11_goesOn_214 : decode cX11_goesOn 214 = .ok (.iaload, 1) := by decide +kernel
theorem dX11_goesOn_215 : decode cX11_goesOn 215 = .ok (.bipush 8, 2) := by decide +kernel
theorem dX11_goesOn_217 : decode cX11_goesOn 217 = .ok (.ishl, 1) := by decide +kernel
theorem dX11_goesOn_218 : decode cX11_goesOn 218 = .ok (.ior, 1) := by decide +kernel
theorem dX11_goesOn_219 : decode cX11_goesOn 219 = .ok (.aload_n 0, 1) := by decide +kernel
theorem dX11_goesOn_220 : decode cX11_goesOn 220 = .ok (.getfield 164, 3) := by decide +kernel
theorem dX11_goesOn_223 : decode cX11_goesOn 223 = .ok (.iload 13, 2) := by decide +kernel
theorem dX11_goesOn_225 : decode cX11_goesOn 225 = .ok (.iaload, 1) := by decide +kernel
theorem dX11_goesOn_226 : decode cX11_goesOn 226 = .ok (.bipush 12, 2) := by decide +kernel
theorem dX11_goesOn_228 : decode cX11_goesOn 228 = .ok (.ishl, 1) := by decide +kernel
theorem dX11_goesOn_229 : decode cX11_goesOn 229 = .ok (.ior, 1) := by decide +kernel
theorem dX11_goesOn_230 : decode cX11_goesOn 230 = .ok (.istore 15, 2) := by decide +kernel
theorem dX11_goesOn_232 : decode cX11_goesOn 232 = .ok (.aload_n 0, 1) := by decide +kernel
theorem dX11_goesOn_233 : decode cX11_goesOn 233 = .ok (.iload 15, 2) := by decide +kernel
theorem dX11_goesOn_235 : decode cX11_goesOn 235 = .ok (.lload_n 3, 1) := by decide +kernel
theorem dX11_goesOn_236 : decode cX11_goesOn 236 = .ok (.iload 9, 2) := by decide +kernel
theorem dX11_goesOn_238 : decode cX11_goesOn 238 = .ok (.ifCond .eq 8, 3) := by decide +kernel
theorem dX11_goesOn_241 : decode cX11_goesOn 241 = .ok (.lload 5, 2) := by decide +kernel
theorem dX11_goesOn_243 : decode cX11_goesOn 243 = .ok (.goto 9, 3) := by decide +kernel
theorem dX11_goesOn_246 : decode cX11_goesOn 246 = .ok (.lload 5, 2) := by decide +kernel
theorem dX11_goesOn_248 : decode cX11_goesOn 248 = .ok (.iload 14, 2) := by decide +kernel
theorem dX11_goesOn_250 : decode cX11_goesOn 250 = .ok (.i2l, 1) := by decide +kernel
theorem dX11_goesOn_251 : decode cX11_goesOn 251 = .ok (.ladd, 1) := by decide +kernel
theorem dX11_goesOn_252 : decode cX11_goesOn 252 = .ok (.iload 9, 2) := by decide +kernel
theorem dX11_goesOn_254 : decode cX11_goesOn 254 = .ok (.ifCond .eq 8, 3) := by decide +kernel
theorem dX11_goesOn_257 : decode cX11_goesOn 257 = .ok (.lload 7, 2) := by decide +kernel
theorem dX11_goesOn_259 : decode cX11_goesOn 259 = .ok (.goto 9, 3) := by decide +kernel
theorem dX11_goesOn_262 : decode cX11_goesOn 262 = .ok (.lload 7, 2) := by decide +kernel
theorem dX11_goesOn_264 : decode cX11_goesOn 264 = .ok (.iload 14, 2) := by decide +kernel
theorem dX11_goesOn_266 : decode cX11_goesOn 266 = .ok (.i2l, 1) := by decide +kernel
theorem dX11_goesOn_267 : decode cX11_goesOn 267 = .ok (.ladd, 1) := by decide +kernel
theorem dX11_goesOn_268 : decode cX11_goesOn 268 = .ok (.iload 9, 2) := by decide +kernel
theorem dX11_goesOn_270 : decode cX11_goesOn 270 = .ok (.invokevirtual 215, 3) := by decide +kernel
theorem dX11_goesOn_273 : decode cX11_goesOn 273 = .ok (.iinc 13 1, 3) := by decide +kernel
theorem dX11_goesOn_276 : decode cX11_goesOn 276 = .ok (.goto (-131), 3) := by decide +kernel
theorem dX11_goesOn_279 : decode cX11_goesOn 279 = .ok (.iinc 12 1, 3) := by decide +kernel
theorem dX11_goesOn_282 : decode cX11_goesOn 282 = .ok (.goto (-156), 3) := by decide +kernel
theorem dX11_goesOn_285 : decode cX11_goesOn 285 = .ok (.iinc 11 1, 3) := by decide +kernel
theorem dX11_goesOn_288 : decode cX11_goesOn 288 = .ok (.goto (-181), 3) := by decide +kernel
theorem dX11_goesOn_291 : decode cX11_goesOn 291 = .ok (.iinc 10 1, 3) := by decide +kernel
theorem dX11_goesOn_294 : decode cX11_goesOn 294 = .ok (.goto (-206), 3) := by decide +kernel
theorem dX11_goesOn_297 : decode cX11_goesOn 297 = .ok (.return_, 1) := by decide +kernel
theorem dX11_groupsAndRuns_0 : decode cX11_groupsAndRuns 0 = .ok (.iconst 0, 1) := by decide +kernel
theorem dX11_groupsAndRuns_1 : decode cX11_groupsAndRuns 1 = .ok (.istore 10, 2) := by decide +kernel
theorem dX11_groupsAndRuns_3 : decode cX11_groupsAndRuns 3 = .ok (.iload 10, 2) := by decide +kernel
theorem dX11_groupsAndRuns_5 : decode cX11_groupsAndRuns 5 = .ok (.aload_n 0, 1) := by decide +kernel
theorem dX11_groupsAndRuns_6 : decode cX11_groupsAndRuns 6 = .ok (.getfield 189, 3) := by decide +kernel
theorem dX11_groupsAndRuns_9 : decode cX11_groupsAndRuns 9 = .ok (.if_icmp .ge 113, 3) := by decide +kernel
theorem dX11_groupsAndRuns_12 : decode cX11_groupsAndRuns 12 = .ok (.iconst 1, 1) := by decide +kernel
theorem dX11_groupsAndRuns_13 : decode cX11_groupsAndRuns 13 = .ok (.istore 11, 2) := by decide +kernel
theorem dX11_groupsAndRuns_15 : decode cX11_groupsAndRuns 15 = .ok (.iconst 0, 1) := by decide +kernel
theorem dX11_groupsAndRuns_16 : decode cX11_groupsAndRuns 16 = .ok (.istore 12, 2) := by decide +kernel
theorem dX11_groupsAndRuns_18 : decode cX11_groupsAndRuns 18 = .ok (.iload 12, 2) := by decide +kernel
theorem dX11_groupsAndRuns_20 : decode cX11_groupsAndRuns 20 = .ok (.iconst 4, 1) := by decide +kernel
theorem dX11_groupsAndRuns_21 : decode cX11_groupsAndRuns 21 = .ok (.if_icmp .ge 71, 3) := by decide +kernel
theorem dX11_groupsAndRuns_24 : decode cX11_groupsAndRuns 24 = .ok (.aload_n 0, 1) := by decide +kernel
theorem dX11_groupsAndRuns_25 : decode cX11_groupsAndRuns 25 = .ok (.getfield 155, 3) := by decide +kernel
theorem dX11_groupsAndRuns_28 : decode cX11_groupsAndRuns 28 = .ok (.iload 12, 2) := by decide +kernel
theorem dX11_groupsAndRuns_30 : decode cX11_groupsAndRuns 30 = .ok (.aload_n 0, 1) := by decide +kernel
theorem dX11_groupsAndRuns_31 : decode cX11_groupsAndRuns 31 = .ok (.getfield 106, 3) := by decide +kernel
theorem dX11_groupsAndRuns_34 : decode cX11_groupsAndRuns 34 = .ok (.bipush 13, 2) := by decide +kernel
theorem dX11_groupsAndRuns_36 : decode cX11_groupsAndRuns 36 = .ok (.iload 12, 2) := by decide +kernel
theorem dX11_groupsAndRuns_38 : decode cX11_groupsAndRuns 38 = .ok (.imul, 1) := by decide +kernel
theorem dX11_groupsAndRuns_39 : decode cX11_groupsAndRuns 39 = .ok (.iload_n 2, 1) := by decide +kernel
theorem dX11_groupsAndRuns_40 : decode cX11_groupsAndRuns 40 = .ok (.iadd, 1) := by decide +kernel
theorem dX11_groupsAndRuns_41 : decode cX11_groupsAndRuns 41 = .ok (.iaload, 1) := by decide +kernel
theorem dX11_groupsAndRuns_42 : decode cX11_groupsAndRuns 42 = .ok (.aload_n 0, 1) := by decide +kernel
theorem dX11_groupsAndRuns_43 : decode cX11_groupsAndRuns 43 = .ok (.getfield 158, 3) := by decide +kernel
theorem dX11_groupsAndRuns_46 : decode cX11_groupsAndRuns 46 = .ok (.iload 12, 2) := by decide +kernel
theorem dX11_groupsAndRuns_48 : decode cX11_groupsAndRuns 48 = .ok (.iaload, 1) := by decide +kernel
theorem dX11_groupsAndRuns_49 : decode cX11_groupsAndRuns 49 = .ok (.iadd, 1) := by decide +kernel
theorem dX11_groupsAndRuns_50 : decode cX11_groupsAndRuns 50 = .ok (.aload_n 0, 1) := by decide +kernel
theorem dX11_groupsAndRuns_51 : decode cX11_groupsAndRuns 51 = .ok (.getfield 112, 3) := by decide +kernel
theorem dX11_groupsAndRuns_54 : decode cX11_groupsAndRuns 54 = .ok (.iconst 4, 1) := by decide +kernel
theorem dX11_groupsAndRuns_55 : decode cX11_groupsAndRuns 55 = .ok (.iload 10, 2) := by decide +kernel
theorem dX11_groupsAndRuns_57 : decode cX11_groupsAndRuns 57 = .ok (.imul, 1) := by decide +kernel
theorem dX11_groupsAndRuns_58 : decode cX11_groupsAndRuns 58 = .ok (.iload 12, 2) := by decide +kernel
theorem dX11_groupsAndRuns_60 : decode cX11_groupsAndRuns 60 = .ok (.iadd, 1) := by decide +kernel
theorem dX11_groupsAndRuns_61 : decode cX11_groupsAndRuns 61 = .ok (.iaload, 1) := by decide +kernel
theorem dX11_groupsAndRuns_62 : decode cX11_groupsAndRuns 62 = .ok (.isub, 1) := by decide +kernel
theorem dX11_groupsAndRuns_63 : decode cX11_groupsAndRuns 63 = .ok (.iastore, 1) := by decide +kernel
theorem dX11_groupsAndRuns_64 : decode cX11_groupsAndRuns 64 = .ok (.iload 11, 2) := by decide +kernel
theorem dX11_groupsAndRuns_66 : decode cX11_groupsAndRuns 66 = .ok (.ifCond .eq 17, 3) := by decide +kernel
theorem dX11_groupsAndRuns_69 : decode cX11_groupsAndRuns 69 = .ok (.aload_n 0, 1) := by decide +kernel
theorem dX11_groupsAndRuns_70 : decode cX11_groupsAndRuns 70 = .ok (.getfield 155, 3) := by decide +kernel
theorem dX11_groupsAndRuns_73 : decode cX11_groupsAndRuns 73 = .ok (.iload 12, 2) := by decide +kernel
theorem dX11_groupsAndRuns_75 : decode cX11_groupsAndRuns 75 = .ok (.iaload, 1) := by decide +kernel
theorem dX11_groupsAndRuns_76 : decode cX11_groupsAndRuns 76 = .ok (.ifCond .lt 7, 3) := by decide +kernel
theorem dX11_groupsAndRuns_79 : decode cX11_groupsAndRuns 79 = .ok (.iconst 1, 1) := by decide +kernel
theorem dX11_groupsAndRuns_80 : decode cX11_groupsAndRuns 80 = .ok (.goto 4, 3) := by decide +kernel
theorem dX11_groupsAndRuns_83 : decode cX11_groupsAndRuns 83 = .ok (.iconst 0, 1) := by decide +kernel
theorem dX11_groupsAndRuns_84 : decode cX11_groupsAndRuns 84 = .ok (.istore 11, 2) := by decide +kernel
theorem dX11_groupsAndRuns_86 : decode cX11_groupsAndRuns 86 = .ok (.iinc 12 1, 3) := by decide +kernel
theorem dX11_groupsAndRuns_89 : decode cX11_groupsAndRuns 89 = .ok (.goto (-71), 3) := by decide +kernel
theorem dX11_groupsAndRuns_92 : decode cX11_groupsAndRuns 92 = .ok (.iload 11, 2) := by decide +kernel
theorem dX11_groupsAndRuns_94 : decode cX11_groupsAndRuns 94 = .ok (.ifCond .eq 22, 3) := by decide +kernel
theorem dX11_groupsAndRuns_97 : decode cX11_groupsAndRuns 97 = .ok (.aload_n 0, 1) := by decide +kernel
theorem dX11_groupsAndRuns_98 : decode cX11_groupsAndRuns 98 = .ok (.iload_n 1, 1) := by decide +kernel
theorem dX11_groupsAndRuns_99 : decode cX11_groupsAndRuns 99 = .ok (.aload_n 0, 1) := by decide +kernel
theorem dX11_groupsAndRuns_100 : decode cX11_groupsAndRuns 100 = .ok (.getfield 115, 3) := by decide +kernel
theorem dX11_groupsAndRuns_103 : decode cX11_groupsAndRuns 103 = .ok (.iload 10, 2) := by decide +kernel
theorem dX11_groupsAndRuns_105 : decode cX11_groupsAndRuns 105 = .ok (.iaload, 1) := by decide +kernel
theorem dX11_groupsAndRuns_106 : decode cX11_groupsAndRuns 106 = .ok (.lload_n 3, 1) := by decide +kernel
theorem dX11_groupsAndRuns_107 : decode cX11_groupsAndRuns 107 = .ok (.lload 5, 2) := by decide +kernel
theorem dX11_groupsAndRuns_109 : decode cX11_groupsAndRuns 109 = .ok (.lload 7, 2) := by decide +kernel
theorem dX11_groupsAndRuns_111 : decode cX11_groupsAndRuns 111 = .ok (.iload 9, 2) := by decide +kernel
theorem dX11_groupsAndRuns_113 : decode cX11_groupsAndRuns 113 = .ok (.invokevirtual 219, 3) := by decide +kernel
theorem dX11_groupsAndRuns_116 : decode cX11_groupsAndRuns 116 = .ok (.iinc 10 1, 3) := by decide +kernel
theorem dX11_groupsAndRuns_119 : decode cX11_groupsAndRuns 119 = .ok (.goto (-116), 3) := by decide +kernel
theorem dX11_groupsAndRuns_122 : decode cX11_groupsAndRuns 122 = .ok (.return_, 1) := by decide +kernel
theorem dX11_power_0 : decode cX11_power 0 = .ok (.lconst 1, 1) := by decide +kernel
theorem dX11_power_1 : decode cX11_power 1 = .ok (.lstore_n 2, 1) := by decide +kernel
theorem dX11_power_2 : decode cX11_power 2 = .ok (.iload_n 1, 1) := by decide +kernel
theorem dX11_power_3 : decode cX11_power 3 = .ok (.bipush 26, 2) := by decide +kernel
theorem dX11_power_5 : decode cX11_power 5 = .ok (.irem, 1) := by decide +kernel
theorem dX11_power_6 : decode cX11_power 6 = .ok (.istore 4, 2) := by decide +kernel
theorem dX11_power_8 : decode cX11_power 8 = .ok (.iload 4, 2) := by decide +kernel
theorem dX11_power_10 : decode cX11_power 10 = .ok (.bipush 25, 2) := by decide +kernel
theorem dX11_power_12 : decode cX11_power 12 = .ok (.if_icmp .ge 15, 3) := by decide +kernel
theorem dX11_power_15 : decode cX11_power 15 = .ok (.lload_n 2, 1) := by decide +kernel
theorem dX11_power_16 : decode cX11_power 16 = .ok (.ldc2_w 223, 3) := by decide +kernel
theorem dX11_power_19 : decode cX11_power 19 = .ok (.lmul, 1) := by decide +kernel
theorem dX11_power_20 : decode cX11_power 20 = .ok (.lstore_n 2, 1) := by decide +kernel
theorem dX11_power_21 : decode cX11_power 21 = .ok (.iinc 4 1, 3) := by decide +kernel
theorem dX11_power_24 : decode cX11_power 24 = .ok (.goto (-16), 3) := by decide +kernel
theorem dX11_power_27 : decode cX11_power 27 = .ok (.lload_n 2, 1) := by decide +kernel
theorem dX11_power_28 : decode cX11_power 28 = .ok (.lreturn, 1) := by decide +kernel
theorem dX11_number_0 : decode cX11_number 0 = .ok (.iload_n 3, 1) := by decide +kernel
theorem dX11_number_1 : decode cX11_number 1 = .ok (.ifCond .eq 8, 3) := by decide +kernel
theorem dX11_number_4 : decode cX11_number 4 = .ok (.bipush 81, 2) := by decide +kernel
theorem dX11_number_6 : decode cX11_number 6 = .ok (.goto 4, 3) := by decide +kernel
theorem dX11_number_9 : decode cX11_number 9 = .ok (.iconst 1, 1) := by decide +kernel
theorem dX11_number_10 : decode cX11_number 10 = .ok (.istore 5, 2) := by decide +kernel
theorem dX11_number_12 : decode cX11_number 12 = .ok (.iconst 0, 1) := by decide +kernel
theorem dX11_number_13 : decode cX11_number 13 = .ok (.istore 6, 2) := by decide +kernel
theorem dX11_number_15 : decode cX11_number 15 = .ok (.iload 6, 2) := by decide +kernel
theorem dX11_number_17 : decode cX11_number 17 = .ok (.iload 5, 2) := by decide +kernel
theorem dX11_number_19 : decode cX11_number 19 = .ok (.if_icmp .ge 246, 3) := by decide +kernel
theorem dX11_number_22 : decode cX11_number 22 = .ok (.iload 6, 2) := by decide +kernel
theorem dX11_number_24 : decode cX11_number 24 = .ok (.istore 7, 2) := by decide +kernel
theorem dX11_number_26 : decode cX11_number 26 = .ok (.iconst 1, 1) := by decide +kernel
theorem dX11_number_27 : decode cX11_number 27 = .ok (.istore 8, 2) := by decide +kernel
theorem dX11_number_29 : decode cX11_number 29 = .ok (.aload_n 0, 1) := by decide +kernel
theorem dX11_number_30 : decode cX11_number 30 = .ok (.getfield 119, 3) := by decide +kernel
theorem dX11_number_33 : decode cX11_number 33 = .ok (.iload_n 1, 1) := by decide +kernel
theorem dX11_number_34 : decode cX11_number 34 = .ok (.laload, 1) := by decide +kernel
theorem dX11_number_35 : decode cX11_number 35 = .ok (.lstore 9, 2) := by decide +kernel
theorem dX11_number_37 : decode cX11_number 37 = .ok (.aload_n 0, 1) := by decide +kernel
theorem dX11_number_38 : decode cX11_number 38 = .ok (.getfield 122, 3) := by decide +kernel
theorem dX11_number_41 : decode cX11_number 41 = .ok (.iload_n 1, 1) := by decide +kernel
theorem dX11_number_42 : decode cX11_number 42 = .ok (.laload, 1) := by decide +kernel
theorem dX11_number_43 : decode cX11_number 43 = .ok (.lstore 11, 2) := by decide +kernel
theorem dX11_number_45 : decode cX11_number 45 = .ok (.aload_n 0, 1) := by decide +kernel
theorem dX11_number_46 : decode cX11_number 46 = .ok (.getfield 125, 3) := by decide +kernel
theorem dX11_number_49 : decode cX11_number 49 = .ok (.iload_n 1, 1) := by decide +kernel
theorem dX11_number_50 : decode cX11_number 50 = .ok (.laload, 1) := by decide +kernel
theorem dX11_number_51 : decode cX11_number 51 = .ok (.lstore 13, 2) := by decide +kernel
theorem dX11_number_53 : decode cX11_number 53 = .ok (.iconst 0, 1) := by decide +kernel
theorem dX11_number_54 : decode cX11_number 54 = .ok (.istore 15, 2) := by decide +kernel
theorem dX11_number_56 : decode cX11_number 56 = .ok (.iload 15, 2) := by decide +kernel
theorem dX11_number_58 : decode cX11_number 58 = .ok (.iconst 4, 1) := by decide +kernel
theorem dX11_number_59 : decode cX11_number 59 = .ok (.if_icmp .ge 182, 3) := by decide +kernel
theorem dX11_number_62 : decode cX11_number 62 = .ok (.bipush 13, 2) := by decide +kernel
theorem dX11_number_64 : decode cX11_number 64 = .ok (.iload 15, 2) := by decide +kernel
theorem dX11_number_66 : decode cX11_number 66 = .ok (.imul, 1) := by decide +kernel
theorem dX11_number_67 : decode cX11_number 67 = .ok (.iload_n 2, 1) := by decide +kernel
theorem dX11_number_68 : decode cX11_number 68 = .ok (.iadd, 1) := by decide +kernel
theorem dX11_number_69 : decode cX11_number 69 = .ok (.istore 16, 2) := by decide +kernel
theorem dX11_number_71 : decode cX11_number 71 = .ok (.aload_n 0, 1) := by decide +kernel
theorem dX11_number_72 : decode cX11_number 72 = .ok (.getfield 158, 3) := by decide +kernel
theorem dX11_number_75 : decode cX11_number 75 = .ok (.iload 15, 2) := by decide +kernel
theorem dX11_number_77 : decode cX11_number 77 = .ok (.iload 7, 2) := by decide +kernel
theorem dX11_number_79 : decode cX11_number 79 = .ok (.iconst 3, 1) := by decide +kernel
theorem dX11_number_80 : decode cX11_number 80 = .ok (.irem, 1) := by decide +kernel
theorem dX11_number_81 : decode cX11_number 81 = .ok (.iastore, 1) := by decide +kernel
theorem dX11_number_82 : decode cX11_number 82 = .ok (.iload 7, 2) := by decide +kernel
theorem dX11_number_84 : decode cX11_number 84 = .ok (.iconst 3, 1) := by decide +kernel
theorem dX11_number_85 : decode cX11_number 85 = .ok (.idiv, 1) := by decide +kernel
theorem dX11_number_86 : decode cX11_number 86 = .ok (.istore 7, 2) := by decide +kernel
theorem dX11_number_88 : decode cX11_number 88 = .ok (.iload 8, 2) := by decide +kernel
theorem dX11_number_90 : decode cX11_number 90 = .ok (.ifCond .eq 24, 3) := by decide +kernel
theorem dX11_number_93 : decode cX11_number 93 = .ok (.aload_n 0, 1) := by decide +kernel
theorem dX11_number_94 : decode cX11_number 94 = .ok (.getfield 158, 3) := by decide +kernel
theorem dX11_number_97 : decode cX11_number 97 = .ok (.iload 15, 2) := by decide +kernel
theorem dX11_number_99 : decode cX11_number 99 = .ok (.iaload, 1) := by decide +kernel
theorem dX11_number_100 : decode cX11_number 100 = .ok (.aload_n 0, 1) := by decide +kernel
theorem dX11_number_101 : decode cX11_number 101 = .ok (.getfield 109, 3) := by decide +kernel
theorem dX11_number_104 : decode cX11_number 104 = .ok (.iload 16, 2) := by decide +kernel
theorem dX11_number_106 : decode cX11_number 106 = .ok (.iaload, 1) := by decide +kernel
theorem dX11_number_107 : decode cX11_number 107 = .ok (.if_icmp .gt 7, 3) := by decide +kernel
theorem dX11_number_110 : decode cX11_number 110 = .ok (.iconst 1, 1) := by decide +kernel
theorem dX11_number_111 : decode cX11_number 111 = .ok (.goto 4, 3) := by decide +kernel
theorem dX11_number_114 : decode cX11_number 114 = .ok (.iconst 0, 1) := by decide +kernel
theorem dX11_number_115 : decode cX11_number 115 = .ok (.istore 8, 2) := by decide +kernel
theorem dX11_number_117 : decode cX11_number 117 = .ok (.lload 9, 2) := by decide +kernel
theorem dX11_number_119 : decode cX11_number 119 = .ok (.iload_n 3, 1) := by decide +kernel
theorem dX11_number_120 : decode cX11_number 120 = .ok (.ifCond .eq 41, 3) := by decide +kernel
theorem dX11_number_123 : decode cX11_number 123 = .ok (.aload_n 0, 1) := by decide +kernel
theorem dX11_number_124 : decode cX11_number 124 = .ok (.getfield 158, 3) := by decide +kernel
theorem dX11_number_127 : decode cX11_number 127 = .ok (.iload 15, 2) := by decide +kernel
theorem dX11_number_129 : decode cX11_number 129 = .ok (.iaload, 1) := by decide +kernel
theorem dX11_number_130 : decode cX11_number 130 = .ok (.i2l, 1) := by decide +kernel
theorem dX11_number_131 : decode cX11_number 131 = .ok (.iload 4, 2) := by decide +kernel
theorem dX11_number_133 : decode cX11_number 133 = .ok (.ifCond .eq 16, 3) := by decide +kernel
theorem dX11_number_136 : decode cX11_number 136 = .ok (.ldc2_w 225, 3) := by decide +kernel
theorem dX11_number_139 : decode cX11_number 139 = .ok (.iload_n 2, 1) := by decide +kernel
theorem dX11_number_140 : decode cX11_number 140 = .ok (.iconst 1, 1) := by decide +kernel
theorem dX11_number_141 : decode cX11_number 141 = .ok (.iadd, 1) := by decide +kernel
theorem dX11_number_142 : decode cX11_number 142 = .ok (.i2l, 1) := by decide +kernel
theorem dX11_number_143 : decode cX11_number 143 = .ok (.lmul, 1) := by decide +kernel
theorem dX11_number_144 : decode cX11_number 144 = .ok (.lconst 1, 1) := by decide +kernel
theorem dX11_number_145 : decode cX11_number 145 = .ok (.ladd, 1) := by decide +kernel
theorem dX11_number_146 : decode cX11_number 146 = .ok (.goto 11, 3) := by decide +kernel
theorem dX11_number_149 : decode cX11_number 149 = .ok (.ldc2_w 227, 3) := by decide +kernel
theorem dX11_number_152 : decode cX11_number 152 = .ok (.iload_n 2, 1) := by decide +kernel
theorem dX11_number_153 : decode cX11_number 153 = .ok (.i2l, 1) := by decide +kernel
theorem dX11_number_154 : decode cX11_number 154 = .ok (.ladd, 1) := by decide +kernel
theorem dX11_number_155 : decode cX11_number 155 = .ok (.lconst 1, 1) := by decide +kernel
theorem dX11_number_156 : decode cX11_number 156 = .ok (.ladd, 1) := by decide +kernel
theorem dX11_number_157 : decode cX11_number 157 = .ok (.lmul, 1) := by decide +kernel
theorem dX11_number_158 : decode cX11_number 158 = .ok (.goto 4, 3) := by decide +kernel
theorem dX11_number_161 : decode cX11_number 161 = .ok (.lconst 0, 1) := by decide +kernel
theorem dX11_number_162 : decode cX11_number 162 = .ok (.ladd, 1) := by decide +kernel
theorem dX11_number_163 : decode cX11_number 163 = .ok (.lstore 9, 2) := by decide +kernel
theorem dX11_number_165 : decode cX11_number 165 = .ok (.lload 11, 2) := by decide +kernel
theorem dX11_number_167 : decode cX11_number 167 = .ok (.iload_n 3, 1) := by decide +kernel
theorem dX11_number_168 : decode cX11_number 168 = .ok (.ifCond .eq 28, 3) := by decide +kernel
theorem dX11_number_171 : decode cX11_number 171 = .ok (.iload 16, 2) := by decide +kernel
theorem dX11_number_173 : decode cX11_number 173 = .ok (.bipush 26, 2) := by decide +kernel
theorem dX11_number_175 : decode cX11_number 175 = .ok (.if_icmp .ge 21, 3) := by decide +kernel
theorem dX11_number_178 : decode cX11_number 178 = .ok (.aload_n 0, 1) := by decide +kernel
theorem dX11_number_179 : decode cX11_number 179 = .ok (.getfield 158, 3) := by decide +kernel
theorem dX11_number_182 : decode cX11_number 182 = .ok (.iload 15, 2) := by decide +kernel
theorem dX11_number_184 : decode cX11_number 184 = .ok (.iaload, 1) := by decide +kernel
theorem dX11_number_185 : decode cX11_number 185 = .ok (.i2l, 1) := by decide +kernel
theorem dX11_number_186 : decode cX11_number 186 = .ok (.aload_n 0, 1) := by decide +kernel
theorem dX11_number_187 : decode cX11_number 187 = .ok (.iload 16, 2) := by decide +kernel
theorem dX11_number_189 : decode cX11_number 189 = .ok (.invokevirtual 229, 3) := by decide +kernel
theorem dX11_number_192 : decode cX11_number 192 = .ok (.lmul, 1) := by decide +kernel
theorem dX11_number_193 : decode cX11_number 193 = .ok (.goto 4, 3) := by decide +kernel
theorem dX11_number_196 : decode cX11_number 196 = .ok (.lconst 0, 1) := by decide +kernel
theorem dX11_number_197 : decode cX11_number 197 = .ok (.ladd, 1) := by decide +kernel
theorem dX11_number_198 : decode cX11_number 198 = .ok (.lstore 11, 2) := by decide +kernel
theorem dX11_number_200 : decode cX11_number 200 = .ok (.lload 13, 2) := by decide +kernel
theorem dX11_number_202 : decode cX11_number 202 = .ok (.iload_n 3, 1) := by decide +kernel
theorem dX11_number_203 : decode cX11_number 203 = .ok (.ifCond .eq 28, 3) := by decide +kernel
theorem dX11_number_206 : decode cX11_number 206 = .ok (.iload 16, 2) := by decide +kernel
theorem dX11_number_208 : decode cX11_number 208 = .ok (.bipush 26, 2) := by decide +kernel
theorem dX11_number_210 : decode cX11_number 210 = .ok (.if_icmp .lt 21, 3) := by decide +kernel
theorem dX11_number_213 : decode cX11_number 213 = .ok (.aload_n 0, 1) := by decide +kernel
theorem dX11_number_214 : decode cX11_number 214 = .ok (.getfield 158, 3) := by decide +kernel
theorem dX11_number_217 : decode cX11_number 217 = .ok (.iload 15, 2) := by decide +kernel
theorem dX11_number_219 : decode cX11_number 219 = .ok (.iaload, 1) := by decide +kernel
theorem dX11_number_220 : decode cX11_number 220 = .ok (.i2l, 1) := by decide +kernel
theorem dX11_number_221 : decode cX11_number 221 = .ok (.aload_n 0, 1) := by decide +kernel
theorem dX11_number_222 : decode cX11_number 222 = .ok (.iload 16, 2) := by decide +kernel
theorem dX11_number_224 : decode cX11_number 224 = .ok (.invokevirtual 229, 3) := by decide +kernel
theorem dX11_number_227 : decode cX11_number 227 = .ok (.lmul, 1) := by decide +kernel
theorem dX11_number_228 : decode cX11_number 228 = .ok (.goto 4, 3) := by decide +kernel
theorem dX11_number_231 : decode cX11_number 231 = .ok (.lconst 0, 1) := by decide +kernel
theorem dX11_number_232 : decode cX11_number 232 = .ok (.ladd, 1) := by decide +kernel
theorem dX11_number_233 : decode cX11_number 233 = .ok (.lstore 13, 2) := by decide +kernel
theorem dX11_number_235 : decode cX11_number 235 = .ok (.iinc 15 1, 3) := by decide +kernel
theorem dX11_number_238 : decode cX11_number 238 = .ok (.goto (-182), 3) := by decide +kernel
theorem dX11_number_241 : decode cX11_number 241 = .ok (.iload 8, 2) := by decide +kernel
theorem dX11_number_243 : decode cX11_number 243 = .ok (.ifCond .eq 16, 3) := by decide +kernel
theorem dX11_number_246 : decode cX11_number 246 = .ok (.aload_n 0, 1) := by decide +kernel
theorem dX11_number_247 : decode cX11_number 247 = .ok (.iload_n 1, 1) := by decide +kernel
theorem dX11_number_248 : decode cX11_number 248 = .ok (.iload_n 2, 1) := by decide +kernel
theorem dX11_number_249 : decode cX11_number 249 = .ok (.lload 9, 2) := by decide +kernel
theorem dX11_number_251 : decode cX11_number 251 = .ok (.lload 11, 2) := by decide +kernel
theorem dX11_number_253 : decode cX11_number 253 = .ok (.lload 13, 2) := by decide +kernel
theorem dX11_number_255 : decode cX11_number 255 = .ok (.iload_n 3, 1) := by decide +kernel
theorem dX11_number_256 : decode cX11_number 256 = .ok (.invokevirtual 233, 3) := by decide +kernel
theorem dX11_number_259 : decode cX11_number 259 = .ok (.iinc 6 1, 3) := by decide +kernel
theorem dX11_number_262 : decode cX11_number 262 = .ok (.goto (-247), 3) := by decide +kernel
theorem dX11_number_265 : decode cX11_number 265 = .ok (.return_, 1) := by decide +kernel
theorem dX11_goesThrough_0 : decode cX11_goesThrough 0 = .ok (.aload_n 0, 1) := by decide +kernel
theorem dX11_goesThrough_1 : decode cX11_goesThrough 1 = .ok (.iconst 1, 1) := by decide +kernel
theorem dX11_goesThrough_2 : decode cX11_goesThrough 2 = .ok (.putfield 236, 3) := by decide +kernel
theorem dX11_goesThrough_5 : decode cX11_goesThrough 5 = .ok (.aload_n 0, 1) := by decide +kernel
theorem dX11_goesThrough_6 : decode cX11_goesThrough 6 = .ok (.getfield 131, 3) := by decide +kernel
theorem dX11_goesThrough_9 : decode cX11_goesThrough 9 = .ok (.iconst 0, 1) := by decide +kernel
theorem dX11_goesThrough_10 : decode cX11_goesThrough 10 = .ok (.iconst 0, 1) := by decide +kernel
theorem dX11_goesThrough_11 : decode cX11_goesThrough 11 = .ok (.iastore, 1) := by decide +kernel
theorem dX11_goesThrough_12 : decode cX11_goesThrough 12 = .ok (.aload_n 0, 1) := by decide +kernel
theorem dX11_goesThrough_13 : decode cX11_goesThrough 13 = .ok (.getfield 119, 3) := by decide +kernel
theorem dX11_goesThrough_16 : decode cX11_goesThrough 16 = .ok (.iconst 0, 1) := by decide +kernel
theorem dX11_goesThrough_17 : decode cX11_goesThrough 17 = .ok (.iload_n 2, 1) := by decide +kernel
theorem dX11_goesThrough_18 : decode cX11_goesThrough 18 = .ok (.ifCond .eq 7, 3) := by decide +kernel
theorem dX11_goesThrough_21 : decode cX11_goesThrough 21 = .ok (.lconst 0, 1) := by decide +kernel
theorem dX11_goesThrough_22 : decode cX11_goesThrough 22 = .ok (.goto 4, 3) := by decide +kernel
theorem dX11_goesThrough_25 : decode cX11_goesThrough 25 = .ok (.lconst 1, 1) := by decide +kernel
theorem dX11_goesThrough_26 : decode cX11_goesThrough 26 = .ok (.lastore, 1) := by decide +kernel
theorem dX11_goesThrough_27 : decode cX11_goesThrough 27 = .ok (.aload_n 0, 1) := by decide +kernel
theorem dX11_goesThrough_28 : decode cX11_goesThrough 28 = .ok (.getfield 122, 3) := by decide +kernel
theorem dX11_goesThrough_31 : decode cX11_goesThrough 31 = .ok (.iconst 0, 1) := by decide +kernel
theorem dX11_goesThrough_32 : decode cX11_goesThrough 32 = .ok (.lconst 0, 1) := by decide +kernel
theorem dX11_goesThrough_33 : decode cX11_goesThrough 33 = .ok (.lastore, 1) := by decide +kernel
theorem dX11_goesThrough_34 : decode cX11_goesThrough 34 = .ok (.aload_n 0, 1) := by decide +kernel
theorem dX11_goesThrough_35 : decode cX11_goesThrough 35 = .ok (.getfield 125, 3) := by decide +kernel
theorem dX11_goesThrough_38 : decode cX11_goesThrough 38 = .ok (.iconst 0, 1) := by decide +kernel
theorem dX11_goesThrough_39 : decode cX11_goesThrough 39 = .ok (.lconst 0, 1) := by decide +kernel
theorem dX11_goesThrough_40 : decode cX11_goesThrough 40 = .ok (.lastore, 1) := by decide +kernel
theorem dX11_goesThrough_41 : decode cX11_goesThrough 41 = .ok (.iconst 0, 1) := by decide +kernel
theorem dX11_goesThrough_42 : decode cX11_goesThrough 42 = .ok (.istore 4, 2) := by decide +kernel
theorem dX11_goesThrough_44 : decode cX11_goesThrough 44 = .ok (.iload 4, 2) := by decide +kernel
theorem dX11_goesThrough_46 : decode cX11_goesThrough 46 = .ok (.iload_n 1, 1) := by decide +kernel
theorem dX11_goesThrough_47 : decode cX11_goesThrough 47 = .ok (.if_icmp .ge 141, 3) := by decide +kernel
theorem dX11_goesThrough_50 : decode cX11_goesThrough 50 = .ok (.aload_n 0, 1) := by decide +kernel
theorem dX11_goesThrough_51 : decode cX11_goesThrough 51 = .ok (.iconst 0, 1) := by decide +kernel
theorem dX11_goesThrough_52 : decode cX11_goesThrough 52 = .ok (.putfield 207, 3) := by decide +kernel
theorem dX11_goesThrough_55 : decode cX11_goesThrough 55 = .ok (.iconst 0, 1) := by decide +kernel
theorem dX11_goesThrough_56 : decode cX11_goesThrough 56 = .ok (.istore 5, 2) := by decide +kernel
theorem dX11_goesThrough_58 : decode cX11_goesThrough 58 = .ok (.iload 5, 2) := by decide +kernel
theorem dX11_goesThrough_60 : decode cX11_goesThrough 60 = .ok (.aload_n 0, 1) := by decide +kernel
theorem dX11_goesThrough_61 : decode cX11_goesThrough 61 = .ok (.getfield 236, 3) := by decide +kernel
theorem dX11_goesThrough_64 : decode cX11_goesThrough 64 = .ok (.if_icmp .ge 24, 3) := by decide +kernel
theorem dX11_goesThrough_67 : decode cX11_goesThrough 67 = .ok (.aload_n 0, 1) := by decide +kernel
theorem dX11_goesThrough_68 : decode cX11_goesThrough 68 = .ok (.aload_n 0, 1) := by decide +kernel
theorem dX11_goesThrough_69 : decode cX11_goesThrough 69 = .ok (.getfield 131, 3) := by decide +kernel
theorem dX11_goesThrough_72 : decode cX11_goesThrough 72 = .ok (.iload 5, 2) := by decide +kernel
theorem dX11_goesThrough_74 : decode cX11_goesThrough 74 = .ok (.iaload, 1) := by decide +kernel
theorem dX11_goesThrough_75 : decode cX11_goesThrough 75 = .ok (.iload 4, 2) := by decide +kernel
theorem dX11_goesThrough_77 : decode cX11_goesThrough 77 = .ok (.iload_n 2, 1) := by decide +kernel
theorem dX11_goesThrough_78 : decode cX11_goesThrough 78 = .ok (.iload_n 3, 1) := by decide +kernel
theorem dX11_goesThrough_79 : decode cX11_goesThrough 79 = .ok (.invokevirtual 239, 3) := by decide +kernel
theorem dX11_goesThrough_82 : decode cX11_goesThrough 82 = .ok (.iinc 5 1, 3) := by decide +kernel
theorem dX11_goesThrough_85 : decode cX11_goesThrough 85 = .ok (.goto (-27), 3) := by decide +kernel
theorem dX11_goesThrough_88 : decode cX11_goesThrough 88 = .ok (.iconst 0, 1) := by decide +kernel
theorem dX11_goesThrough_89 : decode cX11_goesThrough 89 = .ok (.istore 5, 2) := by decide +kernel
theorem dX11_goesThrough_91 : decode cX11_goesThrough 91 = .ok (.iload 5, 2) := by decide +kernel
theorem dX11_goesThrough_93 : decode cX11_goesThrough 93 = .ok (.aload_n 0, 1) := by decide +kernel
theorem dX11_goesThrough_94 : decode cX11_goesThrough 94 = .ok (.getfield 207, 3) := by decide +kernel
theorem dX11_goesThrough_97 : decode cX11_goesThrough 97 = .ok (.if_icmp .ge 77, 3) := by decide +kernel
theorem dX11_goesThrough_100 : decode cX11_goesThrough 100 = .ok (.aload_n 0, 1) := by decide +kernel
theorem dX11_goesThrough_101 : decode cX11_goesThrough 101 = .ok (.getfield 146, 3) := by decide +kernel
theorem dX11_goesThrough_104 : decode cX11_goesThrough 104 = .ok (.iload 5, 2) := by decide +kernel
theorem dX11_goesThrough_106 : decode cX11_goesThrough 106 = .ok (.iaload, 1) := by decide +kernel
theorem dX11_goesThrough_107 : decode cX11_goesThrough 107 = .ok (.istore 6, 2) := by decide +kernel
theorem dX11_goesThrough_109 : decode cX11_goesThrough 109 = .ok (.aload_n 0, 1) := by decide +kernel
theorem dX11_goesThrough_110 : decode cX11_goesThrough 110 = .ok (.getfield 131, 3) := by decide +kernel
theorem dX11_goesThrough_113 : decode cX11_goesThrough 113 = .ok (.iload 5, 2) := by decide +kernel
theorem dX11_goesThrough_115 : decode cX11_goesThrough 115 = .ok (.iload 6, 2) := by decide +kernel
theorem dX11_goesThrough_117 : decode cX11_goesThrough 117 = .ok (.iastore, 1) := by decide +kernel
theorem dX11_goesThrough_118 : decode cX11_goesThrough 118 = .ok (.aload_n 0, 1) := by decide +kernel
theorem dX11_goesThrough_119 : decode cX11_goesThrough 119 = .ok (.getfield 143, 3) := by decide +kernel
theorem dX11_goesThrough_122 : decode cX11_goesThrough 122 = .ok (.iload 6, 2) := by decide +kernel
theorem dX11_goesThrough_124 : decode cX11_goesThrough 124 = .ok (.iconst 0, 1) := by decide +kernel
theorem dX11_goesThrough_125 : decode cX11_goesThrough 125 = .ok (.bastore, 1) := by decide +kernel
theorem dX11_goesThrough_126 : decode cX11_goesThrough 126 = .ok (.aload_n 0, 1) := by decide +kernel
theorem dX11_goesThrough_127 : decode cX11_goesThrough 127 = .ok (.getfield 119, 3) := by decide +kernel
theorem dX11_goesThrough_130 : decode cX11_goesThrough 130 = .ok (.iload 6, 2) := by decide +kernel
theorem dX11_goesThrough_132 : decode cX11_goesThrough 132 = .ok (.aload_n 0, 1) := by decide +kernel
theorem dX11_goesThrough_133 : decode cX11_goesThrough 133 = .ok (.getfield 134, 3) := by decide +kernel
theorem dX11_goesThrough_136 : decode cX11_goesThrough 136 = .ok (.iload 6, 2) := by decide +kernel
theorem dX11_goesThrough_138 : decode cX11_goesThrough 138 = .ok (.laload, 1) := by decide +kernel
theorem dX11_goesThrough_139 : decode cX11_goesThrough 139 = .ok (.lastore, 1) := by decide +kernel
theorem dX11_goesThrough_140 : decode cX11_goesThrough 140 = .ok (.aload_n 0, 1) := by decide +kernel
theorem dX11_goesThrough_141 : decode cX11_goesThrough 141 = .ok (.getfield 122, 3) := by decide +kernel
theorem dX11_goesThrough_144 : decode cX11_goesThrough 144 = .ok (.iload 6, 2) := by decide +kernel
theorem dX11_goesThrough_146 : decode cX11_goesThrough 146 = .ok (.aload_n 0, 1) := by decide +kernel
theorem dX11_goesThrough_147 : decode cX11_goesThrough 147 = .ok (.getfield 137, 3) := by decide +kernel
theorem dX11_goesThrough_150 : decode cX11_goesThrough 150 = .ok (.iload 6, 2) := by decide +kernel
theorem dX11_goesThrough_152 : decode cX11_goesThrough 152 = .ok (.laload, 1) := by decide +kernel
theorem dX11_goesThrough_153 : decode cX11_goesThrough 153 = .ok (.lastore, 1) := by decide +kernel
theorem dX11_goesThrough_154 : decode cX11_goesThrough 154 = .ok (.aload_n 0, 1) := by decide +kernel
theorem dX11_goesThrough_155 : decode cX11_goesThrough 155 = .ok (.getfield 125, 3) := by decide +kernel
theorem dX11_goesThrough_158 : decode cX11_goesThrough 158 = .ok (.iload 6, 2) := by decide +kernel
theorem dX11_goesThrough_160 : decode cX11_goesThrough 160 = .ok (.aload_n 0, 1) := by decide +kernel
theorem dX11_goesThrough_161 : decode cX11_goesThrough 161 = .ok (.getfield 140, 3) := by decide +kernel
theorem dX11_goesThrough_164 : decode cX11_goesThrough 164 = .ok (.iload 6, 2) := by decide +kernel
theorem dX11_goesThrough_166 : decode cX11_goesThrough 166 = .ok (.laload, 1) := by decide +kernel
theorem dX11_goesThrough_167 : decode cX11_goesThrough 167 = .ok (.lastore, 1) := by decide +kernel
theorem dX11_goesThrough_168 : decode cX11_goesThrough 168 = .ok (.iinc 5 1, 3) := by decide +kernel
theorem dX11_goesThrough_171 : decode cX11_goesThrough 171 = .ok (.goto (-80), 3) := by decide +kernel
theorem dX11_goesThrough_174 : decode cX11_goesThrough 174 = .ok (.aload_n 0, 1) := by decide +kernel
theorem dX11_goesThrough_175 : decode cX11_goesThrough 175 = .ok (.aload_n 0, 1) := by decide +kernel
theorem dX11_goesThrough_176 : decode cX11_goesThrough 176 = .ok (.getfield 207, 3) := by decide +kernel
theorem dX11_goesThrough_179 : decode cX11_goesThrough 179 = .ok (.putfield 236, 3) := by decide +kernel
theorem dX11_goesThrough_182 : decode cX11_goesThrough 182 = .ok (.iinc 4 1, 3) := by decide +kernel
theorem dX11_goesThrough_185 : decode cX11_goesThrough 185 = .ok (.goto (-141), 3) := by decide +kernel
theorem dX11_goesThrough_188 : decode cX11_goesThrough 188 = .ok (.return_, 1) := by decide +kernel
theorem dX11_isDone_0 : decode cX11_isDone 0 = .ok (.iconst 1, 1) := by decide +kernel
theorem dX11_isDone_1 : decode cX11_isDone 1 = .ok (.istore_n 2, 1) := by decide +kernel
theorem dX11_isDone_2 : decode cX11_isDone 2 = .ok (.iconst 0, 1) := by decide +kernel
theorem dX11_isDone_3 : decode cX11_isDone 3 = .ok (.istore_n 3, 1) := by decide +kernel
theorem dX11_isDone_4 : decode cX11_isDone 4 = .ok (.iload_n 3, 1) := by decide +kernel
theorem dX11_isDone_5 : decode cX11_isDone 5 = .ok (.iconst 4, 1) := by decide +kernel
theorem dX11_isDone_6 : decode cX11_isDone 6 = .ok (.if_icmp .ge 79, 3) := by decide +kernel
theorem dX11_isDone_9 : decode cX11_isDone 9 = .ok (.iload_n 1, 1) := by decide +kernel
theorem dX11_isDone_10 : decode cX11_isDone 10 = .ok (.iconst 4, 1) := by decide +kernel
theorem dX11_isDone_11 : decode cX11_isDone 11 = .ok (.iload_n 3, 1) := by decide +kernel
theorem dX11_isDone_12 : decode cX11_isDone 12 = .ok (.imul, 1) := by decide +kernel
theorem dX11_isDone_13 : decode cX11_isDone 13 = .ok (.ishr, 1) := by decide +kernel
theorem dX11_isDone_14 : decode cX11_isDone 14 = .ok (.bipush 15, 2) := by decide +kernel
theorem dX11_isDone_16 : decode cX11_isDone 16 = .ok (.iand, 1) := by decide +kernel
theorem dX11_isDone_17 : decode cX11_isDone 17 = .ok (.istore 4, 2) := by decide +kernel
theorem dX11_isDone_19 : decode cX11_isDone 19 = .ok (.iload_n 2, 1) := by decide +kernel
theorem dX11_isDone_20 : decode cX11_isDone 20 = .ok (.ifCond .eq 57, 3) := by decide +kernel
theorem dX11_isDone_23 : decode cX11_isDone 23 = .ok (.iload 4, 2) := by decide +kernel
theorem dX11_isDone_25 : decode cX11_isDone 25 = .ok (.ifCond .eq 48, 3) := by decide +kernel
theorem dX11_isDone_28 : decode cX11_isDone 28 = .ok (.iload 4, 2) := by decide +kernel
theorem dX11_isDone_30 : decode cX11_isDone 30 = .ok (.bipush 15, 2) := by decide +kernel
theorem dX11_isDone_32 : decode cX11_isDone 32 = .ok (.if_icmp .eq 41, 3) := by decide +kernel
theorem dX11_isDone_35 : decode cX11_isDone 35 = .ok (.aload_n 0, 1) := by decide +kernel
theorem dX11_isDone_36 : decode cX11_isDone 36 = .ok (.getfield 103, 3) := by decide +kernel
theorem dX11_isDone_39 : decode cX11_isDone 39 = .ok (.iload 4, 2) := by decide +kernel
theorem dX11_isDone_41 : decode cX11_isDone 41 = .ok (.iaload, 1) := by decide +kernel
theorem dX11_isDone_42 : decode cX11_isDone 42 = .ok (.aload_n 0, 1) := by decide +kernel
theorem dX11_isDone_43 : decode cX11_isDone 43 = .ok (.getfield 15, 3) := by decide +kernel
theorem dX11_isDone_46 : decode cX11_isDone 46 = .ok (.if_icmp .ne 31, 3) := by decide +kernel
theorem dX11_isDone_49 : decode cX11_isDone 49 = .ok (.aload_n 0, 1) := by decide +kernel
theorem dX11_isDone_50 : decode cX11_isDone 50 = .ok (.getfield 100, 3) := by decide +kernel
theorem dX11_isDone_53 : decode cX11_isDone 53 = .ok (.iload 4, 2) := by decide +kernel
theorem dX11_isDone_55 : decode cX11_isDone 55 = .ok (.iaload, 1) := by decide +kernel
theorem dX11_isDone_56 : decode cX11_isDone 56 = .ok (.ifCond .eq 17, 3) := by decide +kernel
theorem dX11_isDone_59 : decode cX11_isDone 59 = .ok (.aload_n 0, 1) := by decide +kernel
theorem dX11_isDone_60 : decode cX11_isDone 60 = .ok (.getfield 100, 3) := by decide +kernel
theorem dX11_isDone_63 : decode cX11_isDone 63 = .ok (.iload 4, 2) := by decide +kernel
theorem dX11_isDone_65 : decode cX11_isDone 65 = .ok (.iaload, 1) := by decide +kernel
theorem dX11_isDone_66 : decode cX11_isDone 66 = .ok (.aload_n 0, 1) := by decide +kernel
theorem dX11_isDone_67 : decode cX11_isDone 67 = .ok (.getfield 15, 3) := by decide +kernel
theorem dX11_isDone_70 : decode cX11_isDone 70 = .ok (.if_icmp .ne 7, 3) := by decide +kernel
theorem dX11_isDone_73 : decode cX11_isDone 73 = .ok (.iconst 1, 1) := by decide +kernel
theorem dX11_isDone_74 : decode cX11_isDone 74 = .ok (.goto 4, 3) := by decide +kernel
theorem dX11_isDone_77 : decode cX11_isDone 77 = .ok (.iconst 0, 1) := by decide +kernel
theorem dX11_isDone_78 : decode cX11_isDone 78 = .ok (.istore_n 2, 1) := by decide +kernel
theorem dX11_isDone_79 : decode cX11_isDone 79 = .ok (.iinc 3 1, 3) := by decide +kernel
theorem dX11_isDone_82 : decode cX11_isDone 82 = .ok (.goto (-78), 3) := by decide +kernel
theorem dX11_isDone_85 : decode cX11_isDone 85 = .ok (.iload_n 2, 1) := by decide +kernel
theorem dX11_isDone_86 : decode cX11_isDone 86 = .ok (.ireturn, 1) := by decide +kernel
theorem dX11_gathers_0 : decode cX11_gathers 0 = .ok (.iconst 0, 1) := by decide +kernel
theorem dX11_gathers_1 : decode cX11_gathers 1 = .ok (.istore_n 2, 1) := by decide +kernel
theorem dX11_gathers_2 : decode cX11_gathers 2 = .ok (.aload_n 0, 1) := by decide +kernel
theorem dX11_gathers_3 : decode cX11_gathers 3 = .ok (.iconst 0, 1) := by decide +kernel
theorem dX11_gathers_4 : decode cX11_gathers 4 = .ok (.putfield 207, 3) := by decide +kernel
theorem dX11_gathers_7 : decode cX11_gathers 7 = .ok (.iconst 0, 1) := by decide +kernel
theorem dX11_gathers_8 : decode cX11_gathers 8 = .ok (.istore_n 3, 1) := by decide +kernel
theorem dX11_gathers_9 : decode cX11_gathers 9 = .ok (.iload_n 3, 1) := by decide +kernel
theorem dX11_gathers_10 : decode cX11_gathers 10 = .ok (.aload_n 0, 1) := by decide +kernel
theorem dX11_gathers_11 : decode cX11_gathers 11 = .ok (.getfield 236, 3) := by decide +kernel
theorem dX11_gathers_14 : decode cX11_gathers 14 = .ok (.if_icmp .ge 55, 3) := by decide +kernel
theorem dX11_gathers_17 : decode cX11_gathers 17 = .ok (.aload_n 0, 1) := by decide +kernel
theorem dX11_gathers_18 : decode cX11_gathers 18 = .ok (.getfield 131, 3) := by decide +kernel
theorem dX11_gathers_21 : decode cX11_gathers 21 = .ok (.iload_n 3, 1) := by decide +kernel
theorem dX11_gathers_22 : decode cX11_gathers 22 = .ok (.iaload, 1) := by decide +kernel
theorem dX11_gathers_23 : decode cX11_gathers 23 = .ok (.istore 4, 2) := by decide +kernel
theorem dX11_gathers_25 : decode cX11_gathers 25 = .ok (.aload_n 0, 1) := by decide +kernel
theorem dX11_gathers_26 : decode cX11_gathers 26 = .ok (.iload 4, 2) := by decide +kernel
theorem dX11_gathers_28 : decode cX11_gathers 28 = .ok (.invokevirtual 243, 3) := by decide +kernel
theorem dX11_gathers_31 : decode cX11_gathers 31 = .ok (.ifCond .eq 32, 3) := by decide +kernel
theorem dX11_gathers_34 : decode cX11_gathers 34 = .ok (.aload_n 0, 1) := by decide +kernel
theorem dX11_gathers_35 : decode cX11_gathers 35 = .ok (.iconst 0, 1) := by decide +kernel
theorem dX11_gathers_36 : decode cX11_gathers 36 = .ok (.aload_n 0, 1) := by decide +kernel
theorem dX11_gathers_37 : decode cX11_gathers 37 = .ok (.getfield 119, 3) := by decide +kernel
theorem dX11_gathers_40 : decode cX11_gathers 40 = .ok (.iload 4, 2) := by decide +kernel
theorem dX11_gathers_42 : decode cX11_gathers 42 = .ok (.laload, 1) := by decide +kernel
theorem dX11_gathers_43 : decode cX11_gathers 43 = .ok (.aload_n 0, 1) := by decide +kernel
theorem dX11_gathers_44 : decode cX11_gathers 44 = .ok (.getfield 122, 3) := by decide +kernel
theorem dX11_gathers_47 : decode cX11_gathers 47 = .ok (.iload 4, 2) := by decide +kernel
theorem dX11_gathers_49 : decode cX11_gathers 49 = .ok (.laload, 1) := by decide +kernel
theorem dX11_gathers_50 : decode cX11_gathers 50 = .ok (.aload_n 0, 1) := by decide +kernel
theorem dX11_gathers_51 : decode cX11_gathers 51 = .ok (.getfield 125, 3) := by decide +kernel
theorem dX11_gathers_54 : decode cX11_gathers 54 = .ok (.iload 4, 2) := by decide +kernel
theorem dX11_gathers_56 : decode cX11_gathers 56 = .ok (.laload, 1) := by decide +kernel
theorem dX11_gathers_57 : decode cX11_gathers 57 = .ok (.iload_n 1, 1) := by decide +kernel
theorem dX11_gathers_58 : decode cX11_gathers 58 = .ok (.invokevirtual 215, 3) := by decide +kernel
theorem dX11_gathers_61 : decode cX11_gathers 61 = .ok (.iconst 1, 1) := by decide +kernel
theorem dX11_gathers_62 : decode cX11_gathers 62 = .ok (.istore_n 2, 1) := by decide +kernel
theorem dX11_gathers_63 : decode cX11_gathers 63 = .ok (.iinc 3 1, 3) := by decide +kernel
theorem dX11_gathers_66 : decode cX11_gathers 66 = .ok (.goto (-57), 3) := by decide +kernel
theorem dX11_gathers_69 : decode cX11_gathers 69 = .ok (.aload_n 0, 1) := by decide +kernel
theorem dX11_gathers_70 : decode cX11_gathers 70 = .ok (.getfield 143, 3) := by decide +kernel
theorem dX11_gathers_73 : decode cX11_gathers 73 = .ok (.iconst 0, 1) := by decide +kernel
theorem dX11_gathers_74 : decode cX11_gathers 74 = .ok (.iconst 0, 1) := by decide +kernel
theorem dX11_gathers_75 : decode cX11_gathers 75 = .ok (.bastore, 1) := by decide +kernel
theorem dX11_gathers_76 : decode cX11_gathers 76 = .ok (.aload_n 0, 1) := by decide +kernel
theorem dX11_gathers_77 : decode cX11_gathers 77 = .ok (.iload_n 2, 1) := by decide +kernel
theorem dX11_gathers_78 : decode cX11_gathers 78 = .ok (.ifCond .eq 12, 3) := by decide +kernel
theorem dX11_gathers_81 : decode cX11_gathers 81 = .ok (.aload_n 0, 1) := by decide +kernel
theorem dX11_gathers_82 : decode cX11_gathers 82 = .ok (.getfield 134, 3) := by decide +kernel
theorem dX11_gathers_85 : decode cX11_gathers 85 = .ok (.iconst 0, 1) := by decide +kernel
theorem dX11_gathers_86 : decode cX11_gathers 86 = .ok (.laload, 1) := by decide +kernel
theorem dX11_gathers_87 : decode cX11_gathers 87 = .ok (.goto 4, 3) := by decide +kernel
theorem dX11_gathers_90 : decode cX11_gathers 90 = .ok (.lconst 0, 1) := by decide +kernel
theorem dX11_gathers_91 : decode cX11_gathers 91 = .ok (.putfield 247, 3) := by decide +kernel
theorem dX11_gathers_94 : decode cX11_gathers 94 = .ok (.aload_n 0, 1) := by decide +kernel
theorem dX11_gathers_95 : decode cX11_gathers 95 = .ok (.iload_n 2, 1) := by decide +kernel
theorem dX11_gathers_96 : decode cX11_gathers 96 = .ok (.ifCond .eq 12, 3) := by decide +kernel
theorem dX11_gathers_99 : decode cX11_gathers 99 = .ok (.aload_n 0, 1) := by decide +kernel
theorem dX11_gathers_100 : decode cX11_gathers 100 = .ok (.getfield 137, 3) := by decide +kernel
theorem dX11_gathers_103 : decode cX11_gathers 103 = .ok (.iconst 0, 1) := by decide +kernel
theorem dX11_gathers_104 : decode cX11_gathers 104 = .ok (.laload, 1) := by decide +kernel
theorem dX11_gathers_105 : decode cX11_gathers 105 = .ok (.goto 4, 3) := by decide +kernel
theorem dX11_gathers_108 : decode cX11_gathers 108 = .ok (.lconst 0, 1) := by decide +kernel
theorem dX11_gathers_109 : decode cX11_gathers 109 = .ok (.putfield 251, 3) := by decide +kernel
theorem dX11_gathers_112 : decode cX11_gathers 112 = .ok (.aload_n 0, 1) := by decide +kernel
theorem dX11_gathers_113 : decode cX11_gathers 113 = .ok (.iload_n 2, 1) := by decide +kernel
theorem dX11_gathers_114 : decode cX11_gathers 114 = .ok (.ifCond .eq 12, 3) := by decide +kernel
theorem dX11_gathers_117 : decode cX11_gathers 117 = .ok (.aload_n 0, 1) := by decide +kernel
theorem dX11_gathers_118 : decode cX11_gathers 118 = .ok (.getfield 140, 3) := by decide +kernel
theorem dX11_gathers_121 : decode cX11_gathers 121 = .ok (.iconst 0, 1) := by decide +kernel
theorem dX11_gathers_122 : decode cX11_gathers 122 = .ok (.laload, 1) := by decide +kernel
theorem dX11_gathers_123 : decode cX11_gathers 123 = .ok (.goto 4, 3) := by decide +kernel
theorem dX11_gathers_126 : decode cX11_gathers 126 = .ok (.lconst 0, 1) := by decide +kernel
theorem dX11_gathers_127 : decode cX11_gathers 127 = .ok (.putfield 254, 3) := by decide +kernel
theorem dX11_gathers_130 : decode cX11_gathers 130 = .ok (.iload_n 2, 1) := by decide +kernel
theorem dX11_gathers_131 : decode cX11_gathers 131 = .ok (.ireturn, 1) := by decide +kernel
theorem dX11_laysTable_0 : decode cX11_laysTable 0 = .ok (.iconst 0, 1) := by decide +kernel
theorem dX11_laysTable_1 : decode cX11_laysTable 1 = .ok (.istore_n 1, 1) := by decide +kernel
theorem dX11_laysTable_2 : decode cX11_laysTable 2 = .ok (.iload_n 1, 1) := by decide +kernel
theorem dX11_laysTable_3 : decode cX11_laysTable 3 = .ok (.bipush 52, 2) := by decide +kernel
theorem dX11_laysTable_5 : decode cX11_laysTable 5 = .ok (.if_icmp .ge 35, 3) := by decide +kernel
theorem dX11_laysTable_8 : decode cX11_laysTable 8 = .ok (.aload_n 0, 1) := by decide +kernel
theorem dX11_laysTable_9 : decode cX11_laysTable 9 = .ok (.getfield 106, 3) := by decide +kernel
theorem dX11_laysTable_12 : decode cX11_laysTable 12 = .ok (.iload_n 1, 1) := by decide +kernel
theorem dX11_laysTable_13 : decode cX11_laysTable 13 = .ok (.aload_n 0, 1) := by decide +kernel
theorem dX11_laysTable_14 : decode cX11_laysTable 14 = .ok (.getfield 66, 3) := by decide +kernel
theorem dX11_laysTable_17 : decode cX11_laysTable 17 = .ok (.iload_n 1, 1) := by decide +kernel
theorem dX11_laysTable_18 : decode cX11_laysTable 18 = .ok (.iaload, 1) := by decide +kernel
theorem dX11_laysTable_19 : decode cX11_laysTable 19 = .ok (.aload_n 0, 1) := by decide +kernel
theorem dX11_laysTable_20 : decode cX11_laysTable 20 = .ok (.getfield 69, 3) := by decide +kernel
theorem dX11_laysTable_23 : decode cX11_laysTable 23 = .ok (.iload_n 1, 1) := by decide +kernel
theorem dX11_laysTable_24 : decode cX11_laysTable 24 = .ok (.iaload, 1) := by decide +kernel
theorem dX11_laysTable_25 : decode cX11_laysTable 25 = .ok (.iadd, 1) := by decide +kernel
theorem dX11_laysTable_26 : decode cX11_laysTable 26 = .ok (.iastore, 1) := by decide +kernel
theorem dX11_laysTable_27 : decode cX11_laysTable 27 = .ok (.aload_n 0, 1) := by decide +kernel
theorem dX11_laysTable_28 : decode cX11_laysTable 28 = .ok (.getfield 109, 3) := by decide +kernel
theorem dX11_laysTable_31 : decode cX11_laysTable 31 = .ok (.iload_n 1, 1) := by decide +kernel
theorem dX11_laysTable_32 : decode cX11_laysTable 32 = .ok (.iconst 0, 1) := by decide +kernel
theorem dX11_laysTable_33 : decode cX11_laysTable 33 = .ok (.iastore, 1) := by decide +kernel
theorem dX11_laysTable_34 : decode cX11_laysTable 34 = .ok (.iinc 1 1, 3) := by decide +kernel
theorem dX11_laysTable_37 : decode cX11_laysTable 37 = .ok (.goto (-35), 3) := by decide +kernel
theorem dX11_laysTable_40 : decode cX11_laysTable 40 = .ok (.return_, 1) := by decide +kernel
theorem dX11_canBeCut_0 : decode cX11_canBeCut 0 = .ok (.iconst 0, 1) := by decide +kernel
theorem dX11_canBeCut_1 : decode cX11_canBeCut 1 = .ok (.istore_n 1, 1) := by decide +kernel
theorem dX11_canBeCut_2 : decode cX11_canBeCut 2 = .ok (.iload_n 1, 1) := by decide +kernel
theorem dX11_canBeCut_3 : decode cX11_canBeCut 3 = .ok (.iconst 4, 1) := by decide +kernel
theorem dX11_canBeCut_4 : decode cX11_canBeCut 4 = .ok (.if_icmp .ge 16, 3) := by decide +kernel
theorem dX11_canBeCut_7 : decode cX11_canBeCut 7 = .ok (.aload_n 0, 1) := by decide +kernel
theorem dX11_canBeCut_8 : decode cX11_canBeCut 8 = .ok (.getfield 158, 3) := by decide +kernel
theorem dX11_canBeCut_11 : decode cX11_canBeCut 11 = .ok (.iload_n 1, 1) := by decide +kernel
theorem dX11_canBeCut_12 : decode cX11_canBeCut 12 = .ok (.iconst 0, 1) := by decide +kernel
theorem dX11_canBeCut_13 : decode cX11_canBeCut 13 = .ok (.iastore, 1) := by decide +kernel
theorem dX11_canBeCut_14 : decode cX11_canBeCut 14 = .ok (.iinc 1 1, 3) := by decide +kernel
theorem dX11_canBeCut_17 : decode cX11_canBeCut 17 = .ok (.goto (-15), 3) := by decide +kernel
theorem dX11_canBeCut_20 : decode cX11_canBeCut 20 = .ok (.aload_n 0, 1) := by decide +kernel
theorem dX11_canBeCut_21 : decode cX11_canBeCut 21 = .ok (.aload_n 0, 1) := by decide +kernel
theorem dX11_canBeCut_22 : decode cX11_canBeCut 22 = .ok (.getfield 9, 3) := by decide +kernel
theorem dX11_canBeCut_25 : decode cX11_canBeCut 25 = .ok (.iconst 0, 1) := by decide +kernel
theorem dX11_canBeCut_26 : decode cX11_canBeCut 26 = .ok (.iconst 0, 1) := by decide +kernel
theorem dX11_canBeCut_27 : decode cX11_canBeCut 27 = .ok (.invokevirtual 257, 3) := by decide +kernel
theorem dX11_canBeCut_30 : decode cX11_canBeCut 30 = .ok (.aload_n 0, 1) := by decide +kernel
theorem dX11_canBeCut_31 : decode cX11_canBeCut 31 = .ok (.iconst 0, 1) := by decide +kernel
theorem dX11_canBeCut_32 : decode cX11_canBeCut 32 = .ok (.invokevirtual 261, 3) := by decide +kernel
theorem dX11_canBeCut_35 : decode cX11_canBeCut 35 = .ok (.ireturn, 1) := by decide +kernel
theorem dX11_isWhole_0 : decode cX11_isWhole 0 = .ok (.aload_n 0, 1) := by decide +kernel
theorem dX11_isWhole_1 : decode cX11_isWhole 1 = .ok (.iconst 0, 1) := by decide +kernel
theorem dX11_isWhole_2 : decode cX11_isWhole 2 = .ok (.invokevirtual 265, 3) := by decide +kernel
theorem dX11_isWhole_5 : decode cX11_isWhole 5 = .ok (.pop, 1) := by decide +kernel
theorem dX11_isWhole_6 : decode cX11_isWhole 6 = .ok (.aload_n 0, 1) := by decide +kernel
theorem dX11_isWhole_7 : decode cX11_isWhole 7 = .ok (.invokevirtual 268, 3) := by decide +kernel
theorem dX11_isWhole_10 : decode cX11_isWhole 10 = .ok (.aload_n 0, 1) := by decide +kernel
theorem dX11_isWhole_11 : decode cX11_isWhole 11 = .ok (.invokevirtual 271, 3) := by decide +kernel
theorem dX11_isWhole_14 : decode cX11_isWhole 14 = .ok (.ireturn, 1) := by decide +kernel
theorem dX11_cuts_0 : decode cX11_cuts 0 = .ok (.aload_n 0, 1) := by decide +kernel
theorem dX11_cuts_1 : decode cX11_cuts 1 = .ok (.aload_n 0, 1) := by decide +kernel
theorem dX11_cuts_2 : decode cX11_cuts 2 = .ok (.iload_n 1, 1) := by decide +kernel
theorem dX11_cuts_3 : decode cX11_cuts 3 = .ok (.iconst 0, 1) := by decide +kernel
theorem dX11_cuts_4 : decode cX11_cuts 4 = .ok (.iconst 2, 1) := by decide +kernel
theorem dX11_cuts_5 : decode cX11_cuts 5 = .ok (.invokevirtual 182, 3) := by decide +kernel
theorem dX11_cuts_8 : decode cX11_cuts 8 = .ok (.ifCond .eq 7, 3) := by decide +kernel
theorem dX11_cuts_11 : decode cX11_cuts 11 = .ok (.iconst 0, 1) := by decide +kernel
theorem dX11_cuts_12 : decode cX11_cuts 12 = .ok (.goto 4, 3) := by decide +kernel
theorem dX11_cuts_15 : decode cX11_cuts 15 = .ok (.iconst 1, 1) := by decide +kernel
theorem dX11_cuts_16 : decode cX11_cuts 16 = .ok (.invokevirtual 265, 3) := by decide +kernel
theorem dX11_cuts_19 : decode cX11_cuts 19 = .ok (.ifCond .eq 5, 3) := by decide +kernel
theorem dX11_cuts_22 : decode cX11_cuts 22 = .ok (.iconst (-1), 1) := by decide +kernel
theorem dX11_cuts_23 : decode cX11_cuts 23 = .ok (.ireturn, 1) := by decide +kernel
theorem dX11_cuts_24 : decode cX11_cuts 24 = .ok (.aload_n 0, 1) := by decide +kernel
theorem dX11_cuts_25 : decode cX11_cuts 25 = .ok (.invokevirtual 268, 3) := by decide +kernel
theorem dX11_cuts_28 : decode cX11_cuts 28 = .ok (.aload_n 0, 1) := by decide +kernel
theorem dX11_cuts_29 : decode cX11_cuts 29 = .ok (.invokevirtual 271, 3) := by decide +kernel
theorem dX11_cuts_32 : decode cX11_cuts 32 = .ok (.istore_n 2, 1) := by decide +kernel
theorem dX11_cuts_33 : decode cX11_cuts 33 = .ok (.iload_n 1, 1) := by decide +kernel
theorem dX11_cuts_34 : decode cX11_cuts 34 = .ok (.ifCond .ne 11, 3) := by decide +kernel
theorem dX11_cuts_37 : decode cX11_cuts 37 = .ok (.aload_n 0, 1) := by decide +kernel
theorem dX11_cuts_38 : decode cX11_cuts 38 = .ok (.getfield 247, 3) := by decide +kernel
theorem dX11_cuts_41 : decode cX11_cuts 41 = .ok (.l2i, 1) := by decide +kernel
theorem dX11_cuts_42 : decode cX11_cuts 42 = .ok (.goto 29, 3) := by decide +kernel
theorem dX11_cuts_45 : decode cX11_cuts 45 = .ok (.iload_n 2, 1) := by decide +kernel
theorem dX11_cuts_46 : decode cX11_cuts 46 = .ok (.ifCond .ne 7, 3) := by decide +kernel
theorem dX11_cuts_49 : decode cX11_cuts 49 = .ok (.iconst (-1), 1) := by decide +kernel
theorem dX11_cuts_50 : decode cX11_cuts 50 = .ok (.goto 21, 3) := by decide +kernel
theorem dX11_cuts_53 : decode cX11_cuts 53 = .ok (.iload_n 1, 1) := by decide +kernel
theorem dX11_cuts_54 : decode cX11_cuts 54 = .ok (.iconst 1, 1) := by decide +kernel
theorem dX11_cuts_55 : decode cX11_cuts 55 = .ok (.if_icmp .ne 11, 3) := by decide +kernel
theorem dX11_cuts_58 : decode cX11_cuts 58 = .ok (.aload_n 0, 1) := by decide +kernel
theorem dX11_cuts_59 : decode cX11_cuts 59 = .ok (.getfield 251, 3) := by decide +kernel
theorem dX11_cuts_62 : decode cX11_cuts 62 = .ok (.l2i, 1) := by decide +kernel
theorem dX11_cuts_63 : decode cX11_cuts 63 = .ok (.goto 8, 3) := by decide +kernel
theorem dX11_cuts_66 : decode cX11_cuts 66 = .ok (.aload_n 0, 1) := by decide +kernel
theorem dX11_cuts_67 : decode cX11_cuts 67 = .ok (.getfield 254, 3) := by decide +kernel
theorem dX11_cuts_70 : decode cX11_cuts 70 = .ok (.l2i, 1) := by decide +kernel
theorem dX11_cuts_71 : decode cX11_cuts 71 = .ok (.ireturn, 1) := by decide +kernel
theorem dX11_onTable_0 : decode cX11_onTable 0 = .ok (.iconst 0, 1) := by decide +kernel
theorem dX11_onTable_1 : decode cX11_onTable 1 = .ok (.istore_n 1, 1) := by decide +kernel
theorem dX11_onTable_2 : decode cX11_onTable 2 = .ok (.iconst 0, 1) := by decide +kernel
theorem dX11_onTable_3 : decode cX11_onTable 3 = .ok (.istore_n 2, 1) := by decide +kernel
theorem dX11_onTable_4 : decode cX11_onTable 4 = .ok (.iload_n 2, 1) := by decide +kernel
theorem dX11_onTable_5 : decode cX11_onTable 5 = .ok (.bipush 52, 2) := by decide +kernel
theorem dX11_onTable_7 : decode cX11_onTable 7 = .ok (.if_icmp .ge 25, 3) := by decide +kernel
theorem dX11_onTable_10 : decode cX11_onTable 10 = .ok (.iload_n 1, 1) := by decide +kernel
theorem dX11_onTable_11 : decode cX11_onTable 11 = .ok (.aload_n 0, 1) := by decide +kernel
theorem dX11_onTable_12 : decode cX11_onTable 12 = .ok (.getfield 66, 3) := by decide +kernel
theorem dX11_onTable_15 : decode cX11_onTable 15 = .ok (.iload_n 2, 1) := by decide +kernel
theorem dX11_onTable_16 : decode cX11_onTable 16 = .ok (.iaload, 1) := by decide +kernel
theorem dX11_onTable_17 : decode cX11_onTable 17 = .ok (.aload_n 0, 1) := by decide +kernel
theorem dX11_onTable_18 : decode cX11_onTable 18 = .ok (.getfield 69, 3) := by decide +kernel
theorem dX11_onTable_21 : decode cX11_onTable 21 = .ok (.iload_n 2, 1) := by decide +kernel
theorem dX11_onTable_22 : decode cX11_onTable 22 = .ok (.iaload, 1) := by decide +kernel
theorem dX11_onTable_23 : decode cX11_onTable 23 = .ok (.iadd, 1) := by decide +kernel
theorem dX11_onTable_24 : decode cX11_onTable 24 = .ok (.iadd, 1) := by decide +kernel
theorem dX11_onTable_25 : decode cX11_onTable 25 = .ok (.istore_n 1, 1) := by decide +kernel
theorem dX11_onTable_26 : decode cX11_onTable 26 = .ok (.iinc 2 1, 3) := by decide +kernel
theorem dX11_onTable_29 : decode cX11_onTable 29 = .ok (.goto (-25), 3) := by decide +kernel
theorem dX11_onTable_32 : decode cX11_onTable 32 = .ok (.iload_n 1, 1) := by decide +kernel
theorem dX11_onTable_33 : decode cX11_onTable 33 = .ok (.ireturn, 1) := by decide +kernel
theorem dX11_cutsAnew_0 : decode cX11_cutsAnew 0 = .ok (.aload_n 0, 1) := by decide +kernel
theorem dX11_cutsAnew_1 : decode cX11_cutsAnew 1 = .ok (.aload_n 0, 1) := by decide +kernel
theorem dX11_cutsAnew_2 : decode cX11_cutsAnew 2 = .ok (.invokevirtual 275, 3) := by decide +kernel
theorem dX11_cutsAnew_5 : decode cX11_cutsAnew 5 = .ok (.bipush 14, 2) := by decide +kernel
theorem dX11_cutsAnew_7 : decode cX11_cutsAnew 7 = .ok (.if_icmp .le 7, 3) := by decide +kernel
theorem dX11_cutsAnew_10 : decode cX11_cutsAnew 10 = .ok (.iconst 1, 1) := by decide +kernel
theorem dX11_cutsAnew_11 : decode cX11_cutsAnew 11 = .ok (.goto 4, 3) := by decide +kernel
theorem dX11_cutsAnew_14 : decode cX11_cutsAnew 14 = .ok (.iconst 0, 1) := by decide +kernel
theorem dX11_cutsAnew_15 : decode cX11_cutsAnew 15 = .ok (.invokevirtual 265, 3) := by decide +kernel
theorem dX11_cutsAnew_18 : decode cX11_cutsAnew 18 = .ok (.ifCond .eq 5, 3) := by decide +kernel
theorem dX11_cutsAnew_21 : decode cX11_cutsAnew 21 = .ok (.iconst (-1), 1) := by decide +kernel
theorem dX11_cutsAnew_22 : decode cX11_cutsAnew 22 = .ok (.ireturn, 1) := by decide +kernel
theorem dX11_cutsAnew_23 : decode cX11_cutsAnew 23 = .ok (.aload_n 0, 1) := by decide +kernel
theorem dX11_cutsAnew_24 : decode cX11_cutsAnew 24 = .ok (.iconst 0, 1) := by decide +kernel
theorem dX11_cutsAnew_25 : decode cX11_cutsAnew 25 = .ok (.invokevirtual 279, 3) := by decide +kernel
theorem dX11_cutsAnew_28 : decode cX11_cutsAnew 28 = .ok (.ireturn, 1) := by decide +kernel
theorem dX11_states_0 : decode cX11_states 0 = .ok (.aload_n 0, 1) := by decide +kernel
theorem dX11_states_1 : decode cX11_states 1 = .ok (.aload_n 0, 1) := by decide +kernel
theorem dX11_states_2 : decode cX11_states 2 = .ok (.iload_n 1, 1) := by decide +kernel
theorem dX11_states_3 : decode cX11_states 3 = .ok (.iconst 1, 1) := by decide +kernel
theorem dX11_states_4 : decode cX11_states 4 = .ok (.aload_n 0, 1) := by decide +kernel
theorem dX11_states_5 : decode cX11_states 5 = .ok (.getfield 9, 3) := by decide +kernel
theorem dX11_states_8 : decode cX11_states 8 = .ok (.invokevirtual 182, 3) := by decide +kernel
theorem dX11_states_11 : decode cX11_states 11 = .ok (.ifCond .eq 7, 3) := by decide +kernel
theorem dX11_states_14 : decode cX11_states 14 = .ok (.iconst 0, 1) := by decide +kernel
theorem dX11_states_15 : decode cX11_states 15 = .ok (.goto 4, 3) := by decide +kernel
theorem dX11_states_18 : decode cX11_states 18 = .ok (.iconst 1, 1) := by decide +kernel
theorem dX11_states_19 : decode cX11_states 19 = .ok (.invokevirtual 265, 3) := by decide +kernel
theorem dX11_states_22 : decode cX11_states 22 = .ok (.ifCond .eq 5, 3) := by decide +kernel
theorem dX11_states_25 : decode cX11_states 25 = .ok (.iconst (-1), 1) := by decide +kernel
theorem dX11_states_26 : decode cX11_states 26 = .ok (.ireturn, 1) := by decide +kernel
theorem dX11_states_27 : decode cX11_states 27 = .ok (.aload_n 0, 1) := by decide +kernel
theorem dX11_states_28 : decode cX11_states 28 = .ok (.invokevirtual 268, 3) := by decide +kernel
theorem dX11_states_31 : decode cX11_states 31 = .ok (.iconst 0, 1) := by decide +kernel
theorem dX11_states_32 : decode cX11_states 32 = .ok (.istore_n 2, 1) := by decide +kernel
theorem dX11_states_33 : decode cX11_states 33 = .ok (.iload_n 2, 1) := by decide +kernel
theorem dX11_states_34 : decode cX11_states 34 = .ok (.iconst 4, 1) := by decide +kernel
theorem dX11_states_35 : decode cX11_states 35 = .ok (.if_icmp .ge 16, 3) := by decide +kernel
theorem dX11_states_38 : decode cX11_states 38 = .ok (.aload_n 0, 1) := by decide +kernel
theorem dX11_states_39 : decode cX11_states 39 = .ok (.getfield 158, 3) := by decide +kernel
theorem dX11_states_42 : decode cX11_states 42 = .ok (.iload_n 2, 1) := by decide +kernel
theorem dX11_states_43 : decode cX11_states 43 = .ok (.iconst 0, 1) := by decide +kernel
theorem dX11_states_44 : decode cX11_states 44 = .ok (.iastore, 1) := by decide +kernel
theorem dX11_states_45 : decode cX11_states 45 = .ok (.iinc 2 1, 3) := by decide +kernel
theorem dX11_states_48 : decode cX11_states 48 = .ok (.goto (-15), 3) := by decide +kernel
theorem dX11_states_51 : decode cX11_states 51 = .ok (.aload_n 0, 1) := by decide +kernel
theorem dX11_states_52 : decode cX11_states 52 = .ok (.iload_n 1, 1) := by decide +kernel
theorem dX11_states_53 : decode cX11_states 53 = .ok (.iconst 0, 1) := by decide +kernel
theorem dX11_states_54 : decode cX11_states 54 = .ok (.iconst 0, 1) := by decide +kernel
theorem dX11_states_55 : decode cX11_states 55 = .ok (.invokevirtual 257, 3) := by decide +kernel
theorem dX11_states_58 : decode cX11_states 58 = .ok (.iconst 0, 1) := by decide +kernel
theorem dX11_states_59 : decode cX11_states 59 = .ok (.istore_n 2, 1) := by decide +kernel
theorem dX11_states_60 : decode cX11_states 60 = .ok (.iconst 0, 1) := by decide +kernel
theorem dX11_states_61 : decode cX11_states 61 = .ok (.istore_n 3, 1) := by decide +kernel
theorem dX11_states_62 : decode cX11_states 62 = .ok (.iload_n 3, 1) := by decide +kernel
theorem dX11_states_63 : decode cX11_states 63 = .ok (.aload_n 0, 1) := by decide +kernel
theorem dX11_states_64 : decode cX11_states 64 = .ok (.getfield 236, 3) := by decide +kernel
theorem dX11_states_67 : decode cX11_states 67 = .ok (.if_icmp .ge 104, 3) := by decide +kernel
theorem dX11_states_70 : decode cX11_states 70 = .ok (.iconst 0, 1) := by decide +kernel
theorem dX11_states_71 : decode cX11_states 71 = .ok (.istore 4, 2) := by decide +kernel
theorem dX11_states_73 : decode cX11_states 73 = .ok (.iconst 0, 1) := by decide +kernel
theorem dX11_states_74 : decode cX11_states 74 = .ok (.istore 5, 2) := by decide +kernel
theorem dX11_states_76 : decode cX11_states 76 = .ok (.iload 5, 2) := by decide +kernel
theorem dX11_states_78 : decode cX11_states 78 = .ok (.iconst 4, 1) := by decide +kernel
theorem dX11_states_79 : decode cX11_states 79 = .ok (.if_icmp .ge 60, 3) := by decide +kernel
theorem dX11_states_82 : decode cX11_states 82 = .ok (.aload_n 0, 1) := by decide +kernel
theorem dX11_states_83 : decode cX11_states 83 = .ok (.getfield 131, 3) := by decide +kernel
theorem dX11_states_86 : decode cX11_states 86 = .ok (.iload_n 3, 1) := by decide +kernel
theorem dX11_states_87 : decode cX11_states 87 = .ok (.iaload, 1) := by decide +kernel
theorem dX11_states_88 : decode cX11_states 88 = .ok (.iconst 4, 1) := by decide +kernel
theorem dX11_states_89 : decode cX11_states 89 = .ok (.iload 5, 2) := by decide +kernel
theorem dX11_states_91 : decode cX11_states 91 = .ok (.imul, 1) := by decide +kernel
theorem dX11_states_92 : decode cX11_states 92 = .ok (.ishr, 1) := by decide +kernel
theorem dX11_states_93 : decode cX11_states 93 = .ok (.bipush 15, 2) := by decide +kernel
theorem dX11_states_95 : decode cX11_states 95 = .ok (.iand, 1) := by decide +kernel
theorem dX11_states_96 : decode cX11_states 96 = .ok (.istore 6, 2) := by decide +kernel
theorem dX11_states_98 : decode cX11_states 98 = .ok (.iload 4, 2) := by decide +kernel
theorem dX11_states_100 : decode cX11_states 100 = .ok (.iload 6, 2) := by decide +kernel
theorem dX11_states_102 : decode cX11_states 102 = .ok (.bipush 15, 2) := by decide +kernel
theorem dX11_states_104 : decode cX11_states 104 = .ok (.if_icmp .ne 19, 3) := by decide +kernel
theorem dX11_states_107 : decode cX11_states 107 = .ok (.aload_n 0, 1) := by decide +kernel
theorem dX11_states_108 : decode cX11_states 108 = .ok (.aload_n 0, 1) := by decide +kernel
theorem dX11_states_109 : decode cX11_states 109 = .ok (.getfield 15, 3) := by decide +kernel
theorem dX11_states_112 : decode cX11_states 112 = .ok (.aload_n 0, 1) := by decide +kernel
theorem dX11_states_113 : decode cX11_states 113 = .ok (.getfield 15, 3) := by decide +kernel
theorem dX11_states_116 : decode cX11_states 116 = .ok (.iconst 0, 1) := by decide +kernel
theorem dX11_states_117 : decode cX11_states 117 = .ok (.invokevirtual 195, 3) := by decide +kernel
theorem dX11_states_120 : decode cX11_states 120 = .ok (.goto 5, 3) := by decide +kernel
theorem dX11_states_123 : decode cX11_states 123 = .ok (.iload 6, 2) := by decide +kernel
theorem dX11_states_125 : decode cX11_states 125 = .ok (.iconst 4, 1) := by decide +kernel
theorem dX11_states_126 : decode cX11_states 126 = .ok (.iload 5, 2) := by decide +kernel
theorem dX11_states_128 : decode cX11_states 128 = .ok (.imul, 1) := by decide +kernel
theorem dX11_states_129 : decode cX11_states 129 = .ok (.ishl, 1) := by decide +kernel
theorem dX11_states_130 : decode cX11_states 130 = .ok (.ior, 1) := by decide +kernel
theorem dX11_states_131 : decode cX11_states 131 = .ok (.istore 4, 2) := by decide +kernel
theorem dX11_states_133 : decode cX11_states 133 = .ok (.iinc 5 1, 3) := by decide +kernel
theorem dX11_states_136 : decode cX11_states 136 = .ok (.goto (-60), 3) := by decide +kernel
theorem dX11_states_139 : decode cX11_states 139 = .ok (.iload_n 2, 1) := by decide +kernel
theorem dX11_states_140 : decode cX11_states 140 = .ok (.aload_n 0, 1) := by decide +kernel
theorem dX11_states_141 : decode cX11_states 141 = .ok (.getfield 128, 3) := by decide +kernel
theorem dX11_states_144 : decode cX11_states 144 = .ok (.iload 4, 2) := by decide +kernel
theorem dX11_states_146 : decode cX11_states 146 = .ok (.baload, 1) := by decide +kernel
theorem dX11_states_147 : decode cX11_states 147 = .ok (.ifCond .eq 7, 3) := by decide +kernel
theorem dX11_states_150 : decode cX11_states 150 = .ok (.iconst 0, 1) := by decide +kernel
theorem dX11_states_151 : decode cX11_states 151 = .ok (.goto 4, 3) := by decide +kernel
theorem dX11_states_154 : decode cX11_states 154 = .ok (.iconst 1, 1) := by decide +kernel
theorem dX11_states_155 : decode cX11_states 155 = .ok (.iadd, 1) := by decide +kernel
theorem dX11_states_156 : decode cX11_states 156 = .ok (.istore_n 2, 1) := by decide +kernel
theorem dX11_states_157 : decode cX11_states 157 = .ok (.aload_n 0, 1) := by decide +kernel
theorem dX11_states_158 : decode cX11_states 158 = .ok (.getfield 128, 3) := by decide +kernel
theorem dX11_states_161 : decode cX11_states 161 = .ok (.iload 4, 2) := by decide +kernel
theorem dX11_states_163 : decode cX11_states 163 = .ok (.iconst 1, 1) := by decide +kernel
theorem dX11_states_164 : decode cX11_states 164 = .ok (.bastore, 1) := by decide +kernel
theorem dX11_states_165 : decode cX11_states 165 = .ok (.iinc 3 1, 3) := by decide +kernel
theorem dX11_states_168 : decode cX11_states 168 = .ok (.goto (-106), 3) := by decide +kernel
theorem dX11_states_171 : decode cX11_states 171 = .ok (.iconst 0, 1) := by decide +kernel
theorem dX11_states_172 : decode cX11_states 172 = .ok (.istore_n 3, 1) := by decide +kernel
theorem dX11_states_173 : decode cX11_states 173 = .ok (.iload_n 3, 1) := by decide +kernel
theorem dX11_states_174 : decode cX11_states 174 = .ok (.ldc 118, 2) := by decide +kernel
theorem dX11_states_176 : decode cX11_states 176 = .ok (.if_icmp .ge 16, 3) := by decide +kernel
theorem dX11_states_179 : decode cX11_states 179 = .ok (.aload_n 0, 1) := by decide +kernel
theorem dX11_states_180 : decode cX11_states 180 = .ok (.getfield 128, 3) := by decide +kernel
theorem dX11_states_183 : decode cX11_states 183 = .ok (.iload_n 3, 1) := by decide +kernel
theorem dX11_states_184 : decode cX11_states 184 = .ok (.iconst 0, 1) := by decide +kernel
theorem dX11_states_185 : decode cX11_states 185 = .ok (.bastore, 1) := by decide +kernel
theorem dX11_states_186 : decode cX11_states 186 = .ok (.iinc 3 1, 3) := by decide +kernel
theorem dX11_states_189 : decode cX11_states 189 = .ok (.goto (-16), 3) := by decide +kernel
theorem dX11_states_192 : decode cX11_states 192 = .ok (.iload_n 2, 1) := by decide +kernel
theorem dX11_states_193 : decode cX11_states 193 = .ok (.ireturn, 1) := by decide +kernel
theorem dX11_laysPlan_0 : decode cX11_laysPlan 0 = .ok (.iconst 0, 1) := by decide +kernel
theorem dX11_laysPlan_1 : decode cX11_laysPlan 1 = .ok (.istore_n 2, 1) := by decide +kernel
theorem dX11_laysPlan_2 : decode cX11_laysPlan 2 = .ok (.iload_n 2, 1) := by decide +kernel
theorem dX11_laysPlan_3 : decode cX11_laysPlan 3 = .ok (.bipush 52, 2) := by decide +kernel
theorem dX11_laysPlan_5 : decode cX11_laysPlan 5 = .ok (.if_icmp .ge 78, 3) := by decide +kernel
theorem dX11_laysPlan_8 : decode cX11_laysPlan 8 = .ok (.aload_n 0, 1) := by decide +kernel
theorem dX11_laysPlan_9 : decode cX11_laysPlan 9 = .ok (.getfield 66, 3) := by decide +kernel
theorem dX11_laysPlan_12 : decode cX11_laysPlan 12 = .ok (.iload_n 2, 1) := by decide +kernel
theorem dX11_laysPlan_13 : decode cX11_laysPlan 13 = .ok (.iaload, 1) := by decide +kernel
theorem dX11_laysPlan_14 : decode cX11_laysPlan 14 = .ok (.aload_n 0, 1) := by decide +kernel
theorem dX11_laysPlan_15 : decode cX11_laysPlan 15 = .ok (.getfield 69, 3) := by decide +kernel
theorem dX11_laysPlan_18 : decode cX11_laysPlan 18 = .ok (.iload_n 2, 1) := by decide +kernel
theorem dX11_laysPlan_19 : decode cX11_laysPlan 19 = .ok (.iaload, 1) := by decide +kernel
theorem dX11_laysPlan_20 : decode cX11_laysPlan 20 = .ok (.iadd, 1) := by decide +kernel
theorem dX11_laysPlan_21 : decode cX11_laysPlan 21 = .ok (.istore_n 3, 1) := by decide +kernel
theorem dX11_laysPlan_22 : decode cX11_laysPlan 22 = .ok (.aload_n 0, 1) := by decide +kernel
theorem dX11_laysPlan_23 : decode cX11_laysPlan 23 = .ok (.getfield 63, 3) := by decide +kernel
theorem dX11_laysPlan_26 : decode cX11_laysPlan 26 = .ok (.bipush 53, 2) := by decide +kernel
theorem dX11_laysPlan_28 : decode cX11_laysPlan 28 = .ok (.iload_n 1, 1) := by decide +kernel
theorem dX11_laysPlan_29 : decode cX11_laysPlan 29 = .ok (.imul, 1) := by decide +kernel
theorem dX11_laysPlan_30 : decode cX11_laysPlan 30 = .ok (.iload_n 2, 1) := by decide +kernel
theorem dX11_laysPlan_31 : decode cX11_laysPlan 31 = .ok (.iadd, 1) := by decide +kernel
theorem dX11_laysPlan_32 : decode cX11_laysPlan 32 = .ok (.iaload, 1) := by decide +kernel
theorem dX11_laysPlan_33 : decode cX11_laysPlan 33 = .ok (.istore 4, 2) := by decide +kernel
theorem dX11_laysPlan_35 : decode cX11_laysPlan 35 = .ok (.aload_n 0, 1) := by decide +kernel
theorem dX11_laysPlan_36 : decode cX11_laysPlan 36 = .ok (.getfield 106, 3) := by decide +kernel
theorem dX11_laysPlan_39 : decode cX11_laysPlan 39 = .ok (.iload_n 2, 1) := by decide +kernel
theorem dX11_laysPlan_40 : decode cX11_laysPlan 40 = .ok (.aload_n 0, 1) := by decide +kernel
theorem dX11_laysPlan_41 : decode cX11_laysPlan 41 = .ok (.getfield 40, 3) := by decide +kernel
theorem dX11_laysPlan_44 : decode cX11_laysPlan 44 = .ok (.iload_n 1, 1) := by decide +kernel
theorem dX11_laysPlan_45 : decode cX11_laysPlan 45 = .ok (.baload, 1) := by decide +kernel
theorem dX11_laysPlan_46 : decode cX11_laysPlan 46 = .ok (.ifCond .eq 7, 3) := by decide +kernel
theorem dX11_laysPlan_49 : decode cX11_laysPlan 49 = .ok (.iload_n 3, 1) := by decide +kernel
theorem dX11_laysPlan_50 : decode cX11_laysPlan 50 = .ok (.goto 4, 3) := by decide +kernel
theorem dX11_laysPlan_53 : decode cX11_laysPlan 53 = .ok (.iconst 0, 1) := by decide +kernel
theorem dX11_laysPlan_54 : decode cX11_laysPlan 54 = .ok (.iastore, 1) := by decide +kernel
theorem dX11_laysPlan_55 : decode cX11_laysPlan 55 = .ok (.aload_n 0, 1) := by decide +kernel
theorem dX11_laysPlan_56 : decode cX11_laysPlan 56 = .ok (.getfield 109, 3) := by decide +kernel
theorem dX11_laysPlan_59 : decode cX11_laysPlan 59 = .ok (.iload_n 2, 1) := by decide +kernel
theorem dX11_laysPlan_60 : decode cX11_laysPlan 60 = .ok (.iload 4, 2) := by decide +kernel
theorem dX11_laysPlan_62 : decode cX11_laysPlan 62 = .ok (.iconst 2, 1) := by decide +kernel
theorem dX11_laysPlan_63 : decode cX11_laysPlan 63 = .ok (.iload_n 3, 1) := by decide +kernel
theorem dX11_laysPlan_64 : decode cX11_laysPlan 64 = .ok (.isub, 1) := by decide +kernel
theorem dX11_laysPlan_65 : decode cX11_laysPlan 65 = .ok (.if_icmp .ge 8, 3) := by decide +kernel
theorem dX11_laysPlan_68 : decode cX11_laysPlan 68 = .ok (.iload 4, 2) := by decide +kernel
theorem dX11_laysPlan_70 : decode cX11_laysPlan 70 = .ok (.goto 6, 3) := by decide +kernel
theorem dX11_laysPlan_73 : decode cX11_laysPlan 73 = .ok (.iconst 2, 1) := by decide +kernel
theorem dX11_laysPlan_74 : decode cX11_laysPlan 74 = .ok (.iload_n 3, 1) := by decide +kernel
theorem dX11_laysPlan_75 : decode cX11_laysPlan 75 = .ok (.isub, 1) := by decide +kernel
theorem dX11_laysPlan_76 : decode cX11_laysPlan 76 = .ok (.iastore, 1) := by decide +kernel
theorem dX11_laysPlan_77 : decode cX11_laysPlan 77 = .ok (.iinc 2 1, 3) := by decide +kernel
theorem dX11_laysPlan_80 : decode cX11_laysPlan 80 = .ok (.goto (-78), 3) := by decide +kernel
theorem dX11_laysPlan_83 : decode cX11_laysPlan 83 = .ok (.aload_n 0, 1) := by decide +kernel
theorem dX11_laysPlan_84 : decode cX11_laysPlan 84 = .ok (.aload_n 0, 1) := by decide +kernel
theorem dX11_laysPlan_85 : decode cX11_laysPlan 85 = .ok (.getfield 9, 3) := by decide +kernel
theorem dX11_laysPlan_88 : decode cX11_laysPlan 88 = .ok (.iconst 1, 1) := by decide +kernel
theorem dX11_laysPlan_89 : decode cX11_laysPlan 89 = .ok (.aload_n 0, 1) := by decide +kernel
theorem dX11_laysPlan_90 : decode cX11_laysPlan 90 = .ok (.getfield 40, 3) := by decide +kernel
theorem dX11_laysPlan_93 : decode cX11_laysPlan 93 = .ok (.iload_n 1, 1) := by decide +kernel
theorem dX11_laysPlan_94 : decode cX11_laysPlan 94 = .ok (.baload, 1) := by decide +kernel
theorem dX11_laysPlan_95 : decode cX11_laysPlan 95 = .ok (.ifCond .ne 7, 3) := by decide +kernel
theorem dX11_laysPlan_98 : decode cX11_laysPlan 98 = .ok (.iconst 1, 1) := by decide +kernel
theorem dX11_laysPlan_99 : decode cX11_laysPlan 99 = .ok (.goto 4, 3) := by decide +kernel
theorem dX11_laysPlan_102 : decode cX11_laysPlan 102 = .ok (.iconst 0, 1) := by decide +kernel
theorem dX11_laysPlan_103 : decode cX11_laysPlan 103 = .ok (.invokevirtual 257, 3) := by decide +kernel
theorem dX11_laysPlan_106 : decode cX11_laysPlan 106 = .ok (.aload_n 0, 1) := by decide +kernel
theorem dX11_laysPlan_107 : decode cX11_laysPlan 107 = .ok (.iconst 1, 1) := by decide +kernel
theorem dX11_laysPlan_108 : decode cX11_laysPlan 108 = .ok (.invokevirtual 261, 3) := by decide +kernel
theorem dX11_laysPlan_111 : decode cX11_laysPlan 111 = .ok (.istore_n 2, 1) := by decide +kernel
theorem dX11_laysPlan_112 : decode cX11_laysPlan 112 = .ok (.aload_n 0, 1) := by decide +kernel
theorem dX11_laysPlan_113 : decode cX11_laysPlan 113 = .ok (.getfield 251, 3) := by decide +kernel
theorem dX11_laysPlan_116 : decode cX11_laysPlan 116 = .ok (.lstore_n 3, 1) := by decide +kernel
theorem dX11_laysPlan_117 : decode cX11_laysPlan 117 = .ok (.iconst 0, 1) := by decide +kernel
theorem dX11_laysPlan_118 : decode cX11_laysPlan 118 = .ok (.istore 5, 2) := by decide +kernel
theorem dX11_laysPlan_120 : decode cX11_laysPlan 120 = .ok (.iload 5, 2) := by decide +kernel
theorem dX11_laysPlan_122 : decode cX11_laysPlan 122 = .ok (.bipush 52, 2) := by decide +kernel
theorem dX11_laysPlan_124 : decode cX11_laysPlan 124 = .ok (.if_icmp .ge 58, 3) := by decide +kernel
theorem dX11_laysPlan_127 : decode cX11_laysPlan 127 = .ok (.iload 5, 2) := by decide +kernel
theorem dX11_laysPlan_129 : decode cX11_laysPlan 129 = .ok (.bipush 26, 2) := by decide +kernel
theorem dX11_laysPlan_131 : decode cX11_laysPlan 131 = .ok (.if_icmp .ne 10, 3) := by decide +kernel
theorem dX11_laysPlan_134 : decode cX11_laysPlan 134 = .ok (.aload_n 0, 1) := by decide +kernel
theorem dX11_laysPlan_135 : decode cX11_laysPlan 135 = .ok (.getfield 254, 3) := by decide +kernel
theorem dX11_laysPlan_138 : decode cX11_laysPlan 138 = .ok (.goto 4, 3) := by decide +kernel
theorem dX11_laysPlan_141 : decode cX11_laysPlan 141 = .ok (.lload_n 3, 1) := by decide +kernel
theorem dX11_laysPlan_142 : decode cX11_laysPlan 142 = .ok (.lstore_n 3, 1) := by decide +kernel
theorem dX11_laysPlan_143 : decode cX11_laysPlan 143 = .ok (.aload_n 0, 1) := by decide +kernel
theorem dX11_laysPlan_144 : decode cX11_laysPlan 144 = .ok (.getfield 161, 3) := by decide +kernel
theorem dX11_laysPlan_147 : decode cX11_laysPlan 147 = .ok (.iload 5, 2) := by decide +kernel
theorem dX11_laysPlan_149 : decode cX11_laysPlan 149 = .ok (.iload_n 2, 1) := by decide +kernel
theorem dX11_laysPlan_150 : decode cX11_laysPlan 150 = .ok (.ifCond .eq 15, 3) := by decide +kernel
theorem dX11_laysPlan_153 : decode cX11_laysPlan 153 = .ok (.lload_n 3, 1) := by decide +kernel
theorem dX11_laysPlan_154 : decode cX11_laysPlan 154 = .ok (.aload_n 0, 1) := by decide +kernel
theorem dX11_laysPlan_155 : decode cX11_laysPlan 155 = .ok (.iload 5, 2) := by decide +kernel
theorem dX11_laysPlan_157 : decode cX11_laysPlan 157 = .ok (.invokevirtual 229, 3) := by decide +kernel
theorem dX11_laysPlan_160 : decode cX11_laysPlan 160 = .ok (.ldiv, 1) := by decide +kernel
theorem dX11_laysPlan_161 : decode cX11_laysPlan 161 = .ok (.l2i, 1) := by decide +kernel
theorem dX11_laysPlan_162 : decode cX11_laysPlan 162 = .ok (.goto 4, 3) := by decide +kernel
theorem dX11_laysPlan_165 : decode cX11_laysPlan 165 = .ok (.iconst 0, 1) := by decide +kernel
theorem dX11_laysPlan_166 : decode cX11_laysPlan 166 = .ok (.iastore, 1) := by decide +kernel
theorem dX11_laysPlan_167 : decode cX11_laysPlan 167 = .ok (.lload_n 3, 1) := by decide +kernel
theorem dX11_laysPlan_168 : decode cX11_laysPlan 168 = .ok (.aload_n 0, 1) := by decide +kernel
theorem dX11_laysPlan_169 : decode cX11_laysPlan 169 = .ok (.iload 5, 2) := by decide +kernel
theorem dX11_laysPlan_171 : decode cX11_laysPlan 171 = .ok (.invokevirtual 229, 3) := by decide +kernel
theorem dX11_laysPlan_174 : decode cX11_laysPlan 174 = .ok (.lrem, 1) := by decide +kernel
theorem dX11_laysPlan_175 : decode cX11_laysPlan 175 = .ok (.lstore_n 3, 1) := by decide +kernel
theorem dX11_laysPlan_176 : decode cX11_laysPlan 176 = .ok (.iinc 5 1, 3) := by decide +kernel
theorem dX11_laysPlan_179 : decode cX11_laysPlan 179 = .ok (.goto (-59), 3) := by decide +kernel
theorem dX11_laysPlan_182 : decode cX11_laysPlan 182 = .ok (.iload_n 2, 1) := by decide +kernel
theorem dX11_laysPlan_183 : decode cX11_laysPlan 183 = .ok (.ireturn, 1) := by decide +kernel
theorem dX11_planned_0 : decode cX11_planned 0 = .ok (.iconst 0, 1) := by decide +kernel
theorem dX11_planned_1 : decode cX11_planned 1 = .ok (.istore_n 1, 1) := by decide +kernel
theorem dX11_planned_2 : decode cX11_planned 2 = .ok (.iconst 0, 1) := by decide +kernel
theorem dX11_planned_3 : decode cX11_planned 3 = .ok (.istore_n 2, 1) := by decide +kernel
theorem dX11_planned_4 : decode cX11_planned 4 = .ok (.iload_n 2, 1) := by decide +kernel
theorem dX11_planned_5 : decode cX11_planned 5 = .ok (.bipush 52, 2) := by decide +kernel
theorem dX11_planned_7 : decode cX11_planned 7 = .ok (.if_icmp .ge 18, 3) := by decide +kernel
theorem dX11_planned_10 : decode cX11_planned 10 = .ok (.iload_n 1, 1) := by decide +kernel
theorem dX11_planned_11 : decode cX11_planned 11 = .ok (.aload_n 0, 1) := by decide +kernel
theorem dX11_planned_12 : decode cX11_planned 12 = .ok (.getfield 161, 3) := by decide +kernel
theorem dX11_planned_15 : decode cX11_planned 15 = .ok (.iload_n 2, 1) := by decide +kernel
theorem dX11_planned_16 : decode cX11_planned 16 = .ok (.iaload, 1) := by decide +kernel
theorem dX11_planned_17 : decode cX11_planned 17 = .ok (.iadd, 1) := by decide +kernel
theorem dX11_planned_18 : decode cX11_planned 18 = .ok (.istore_n 1, 1) := by decide +kernel
theorem dX11_planned_19 : decode cX11_planned 19 = .ok (.iinc 2 1, 3) := by decide +kernel
theorem dX11_planned_22 : decode cX11_planned 22 = .ok (.goto (-18), 3) := by decide +kernel
theorem dX11_planned_25 : decode cX11_planned 25 = .ok (.iload_n 1, 1) := by decide +kernel
theorem dX11_planned_26 : decode cX11_planned 26 = .ok (.ireturn, 1) := by decide +kernel
theorem dX11_plannedWorth_0 : decode cX11_plannedWorth 0 = .ok (.iconst 0, 1) := by decide +kernel
theorem dX11_plannedWorth_1 : decode cX11_plannedWorth 1 = .ok (.istore_n 1, 1) := by decide +kernel
theorem dX11_plannedWorth_2 : decode cX11_plannedWorth 2 = .ok (.iconst 0, 1) := by decide +kernel
theorem dX11_plannedWorth_3 : decode cX11_plannedWorth 3 = .ok (.istore_n 2, 1) := by decide +kernel
theorem dX11_plannedWorth_4 : decode cX11_plannedWorth 4 = .ok (.iload_n 2, 1) := by decide +kernel
theorem dX11_plannedWorth_5 : decode cX11_plannedWorth 5 = .ok (.bipush 52, 2) := by decide +kernel
theorem dX11_plannedWorth_7 : decode cX11_plannedWorth 7 = .ok (.if_icmp .ge 25, 3) := by decide +kernel
theorem dX11_plannedWorth_10 : decode cX11_plannedWorth 10 = .ok (.iload_n 1, 1) := by decide +kernel
theorem dX11_plannedWorth_11 : decode cX11_plannedWorth 11 = .ok (.aload_n 0, 1) := by decide +kernel
theorem dX11_plannedWorth_12 : decode cX11_plannedWorth 12 = .ok (.getfield 161, 3) := by decide +kernel
theorem dX11_plannedWorth_15 : decode cX11_plannedWorth 15 = .ok (.iload_n 2, 1) := by decide +kernel
theorem dX11_plannedWorth_16 : decode cX11_plannedWorth 16 = .ok (.iaload, 1) := by decide +kernel
theorem dX11_plannedWorth_17 : decode cX11_plannedWorth 17 = .ok (.iload_n 2, 1) := by decide +kernel
theorem dX11_plannedWorth_18 : decode cX11_plannedWorth 18 = .ok (.bipush 13, 2) := by decide +kernel
theorem dX11_plannedWorth_20 : decode cX11_plannedWorth 20 = .ok (.irem, 1) := by decide +kernel
theorem dX11_plannedWorth_21 : decode cX11_plannedWorth 21 = .ok (.iconst 1, 1) := by decide +kernel
theorem dX11_plannedWorth_22 : decode cX11_plannedWorth 22 = .ok (.iadd, 1) := by decide +kernel
theorem dX11_plannedWorth_23 : decode cX11_plannedWorth 23 = .ok (.imul, 1) := by decide +kernel
theorem dX11_plannedWorth_24 : decode cX11_plannedWorth 24 = .ok (.iadd, 1) := by decide +kernel
theorem dX11_plannedWorth_25 : decode cX11_plannedWorth 25 = .ok (.istore_n 1, 1) := by decide +kernel
theorem dX11_plannedWorth_26 : decode cX11_plannedWorth 26 = .ok (.iinc 2 1, 3) := by decide +kernel
theorem dX11_plannedWorth_29 : decode cX11_plannedWorth 29 = .ok (.goto (-25), 3) := by decide +kernel
theorem dX11_plannedWorth_32 : decode cX11_plannedWorth 32 = .ok (.iload_n 1, 1) := by decide +kernel
theorem dX11_plannedWorth_33 : decode cX11_plannedWorth 33 = .ok (.ireturn, 1) := by decide +kernel
theorem dX11_best_0 : decode cX11_best 0 = .ok (.aload_n 0, 1) := by decide +kernel
theorem dX11_best_1 : decode cX11_best 1 = .ok (.aload_n 0, 1) := by decide +kernel
theorem dX11_best_2 : decode cX11_best 2 = .ok (.iload_n 1, 1) := by decide +kernel
theorem dX11_best_3 : decode cX11_best 3 = .ok (.invokevirtual 282, 3) := by decide +kernel
theorem dX11_best_6 : decode cX11_best 6 = .ok (.ifCond .ne 7, 3) := by decide +kernel
theorem dX11_best_9 : decode cX11_best 9 = .ok (.iconst 1, 1) := by decide +kernel
theorem dX11_best_10 : decode cX11_best 10 = .ok (.goto 18, 3) := by decide +kernel
theorem dX11_best_13 : decode cX11_best 13 = .ok (.aload_n 0, 1) := by decide +kernel
theorem dX11_best_14 : decode cX11_best 14 = .ok (.iload_n 2, 1) := by decide +kernel
theorem dX11_best_15 : decode cX11_best 15 = .ok (.iconst 0, 1) := by decide +kernel
theorem dX11_best_16 : decode cX11_best 16 = .ok (.iconst 1, 1) := by decide +kernel
theorem dX11_best_17 : decode cX11_best 17 = .ok (.invokevirtual 182, 3) := by decide +kernel
theorem dX11_best_20 : decode cX11_best 20 = .ok (.ifCond .eq 7, 3) := by decide +kernel
theorem dX11_best_23 : decode cX11_best 23 = .ok (.iconst 0, 1) := by decide +kernel
theorem dX11_best_24 : decode cX11_best 24 = .ok (.goto 4, 3) := by decide +kernel
theorem dX11_best_27 : decode cX11_best 27 = .ok (.iconst 2, 1) := by decide +kernel
theorem dX11_best_28 : decode cX11_best 28 = .ok (.invokevirtual 265, 3) := by decide +kernel
theorem dX11_best_31 : decode cX11_best 31 = .ok (.ifCond .eq 5, 3) := by decide +kernel
theorem dX11_best_34 : decode cX11_best 34 = .ok (.iconst (-1), 1) := by decide +kernel
theorem dX11_best_35 : decode cX11_best 35 = .ok (.ireturn, 1) := by decide +kernel
theorem dX11_best_36 : decode cX11_best 36 = .ok (.aload_n 0, 1) := by decide +kernel
theorem dX11_best_37 : decode cX11_best 37 = .ok (.iload_n 1, 1) := by decide +kernel
theorem dX11_best_38 : decode cX11_best 38 = .ok (.invokevirtual 285, 3) := by decide +kernel
theorem dX11_best_41 : decode cX11_best 41 = .ok (.ifCond .ne 7, 3) := by decide +kernel
theorem dX11_best_44 : decode cX11_best 44 = .ok (.iconst (-1), 1) := by decide +kernel
theorem dX11_best_45 : decode cX11_best 45 = .ok (.goto 18, 3) := by decide +kernel
theorem dX11_best_48 : decode cX11_best 48 = .ok (.iload_n 2, 1) := by decide +kernel
theorem dX11_best_49 : decode cX11_best 49 = .ok (.ifCond .ne 10, 3) := by decide +kernel
theorem dX11_best_52 : decode cX11_best 52 = .ok (.aload_n 0, 1) := by decide +kernel
theorem dX11_best_53 : decode cX11_best 53 = .ok (.invokevirtual 288, 3) := by decide +kernel
theorem dX11_best_56 : decode cX11_best 56 = .ok (.goto 7, 3) := by decide +kernel
theorem dX11_best_59 : decode cX11_best 59 = .ok (.aload_n 0, 1) := by decide +kernel
theorem dX11_best_60 : decode cX11_best 60 = .ok (.invokevirtual 291, 3) := by decide +kernel
theorem dX11_best_63 : decode cX11_best 63 = .ok (.ireturn, 1) := by decide +kernel
theorem dX11_plan_0 : decode cX11_plan 0 = .ok (.aload_n 0, 1) := by decide +kernel
theorem dX11_plan_1 : decode cX11_plan 1 = .ok (.aload_n 0, 1) := by decide +kernel
theorem dX11_plan_2 : decode cX11_plan 2 = .ok (.iload_n 1, 1) := by decide +kernel
theorem dX11_plan_3 : decode cX11_plan 3 = .ok (.invokevirtual 282, 3) := by decide +kernel
theorem dX11_plan_6 : decode cX11_plan 6 = .ok (.ifCond .ne 7, 3) := by decide +kernel
theorem dX11_plan_9 : decode cX11_plan 9 = .ok (.iconst 1, 1) := by decide +kernel
theorem dX11_plan_10 : decode cX11_plan 10 = .ok (.goto 12, 3) := by decide +kernel
theorem dX11_plan_13 : decode cX11_plan 13 = .ok (.iload_n 2, 1) := by decide +kernel
theorem dX11_plan_14 : decode cX11_plan 14 = .ok (.ifCond .ge 7, 3) := by decide +kernel
theorem dX11_plan_17 : decode cX11_plan 17 = .ok (.iconst 2, 1) := by decide +kernel
theorem dX11_plan_18 : decode cX11_plan 18 = .ok (.goto 4, 3) := by decide +kernel
theorem dX11_plan_21 : decode cX11_plan 21 = .ok (.iconst 0, 1) := by decide +kernel
theorem dX11_plan_22 : decode cX11_plan 22 = .ok (.invokevirtual 265, 3) := by decide +kernel
theorem dX11_plan_25 : decode cX11_plan 25 = .ok (.ifCond .eq 5, 3) := by decide +kernel
theorem dX11_plan_28 : decode cX11_plan 28 = .ok (.iconst (-1), 1) := by decide +kernel
theorem dX11_plan_29 : decode cX11_plan 29 = .ok (.ireturn, 1) := by decide +kernel
theorem dX11_plan_30 : decode cX11_plan 30 = .ok (.aload_n 0, 1) := by decide +kernel
theorem dX11_plan_31 : decode cX11_plan 31 = .ok (.iload_n 1, 1) := by decide +kernel
theorem dX11_plan_32 : decode cX11_plan 32 = .ok (.invokevirtual 285, 3) := by decide +kernel
theorem dX11_plan_35 : decode cX11_plan 35 = .ok (.ifCond .eq 7, 3) := by decide +kernel
theorem dX11_plan_38 : decode cX11_plan 38 = .ok (.iload_n 2, 1) := by decide +kernel
theorem dX11_plan_39 : decode cX11_plan 39 = .ok (.goto 5, 3) := by decide +kernel
theorem dX11_plan_42 : decode cX11_plan 42 = .ok (.bipush 99, 2) := by decide +kernel
theorem dX11_plan_44 : decode cX11_plan 44 = .ok (.istore_n 3, 1) := by decide +kernel
theorem dX11_plan_45 : decode cX11_plan 45 = .ok (.iconst 0, 1) := by decide +kernel
theorem dX11_plan_46 : decode cX11_plan 46 = .ok (.istore 4, 2) := by decide +kernel
theorem dX11_plan_48 : decode cX11_plan 48 = .ok (.iload 4, 2) := by decide +kernel
theorem dX11_plan_50 : decode cX11_plan 50 = .ok (.bipush 52, 2) := by decide +kernel
theorem dX11_plan_52 : decode cX11_plan 52 = .ok (.if_icmp .ge 33, 3) := by decide +kernel
theorem dX11_plan_55 : decode cX11_plan 55 = .ok (.iload_n 3, 1) := by decide +kernel
theorem dX11_plan_56 : decode cX11_plan 56 = .ok (.aload_n 0, 1) := by decide +kernel
theorem dX11_plan_57 : decode cX11_plan 57 = .ok (.getfield 161, 3) := by decide +kernel
theorem dX11_plan_60 : decode cX11_plan 60 = .ok (.iload 4, 2) := by decide +kernel
theorem dX11_plan_62 : decode cX11_plan 62 = .ok (.iaload, 1) := by decide +kernel
theorem dX11_plan_63 : decode cX11_plan 63 = .ok (.if_icmp .ge 6, 3) := by decide +kernel
theorem dX11_plan_66 : decode cX11_plan 66 = .ok (.iload 4, 2) := by decide +kernel
theorem dX11_plan_68 : decode cX11_plan 68 = .ok (.ireturn, 1) := by decide +kernel
theorem dX11_plan_69 : decode cX11_plan 69 = .ok (.iload_n 3, 1) := by decide +kernel
theorem dX11_plan_70 : decode cX11_plan 70 = .ok (.aload_n 0, 1) := by decide +kernel
theorem dX11_plan_71 : decode cX11_plan 71 = .ok (.getfield 161, 3) := by decide +kernel
theorem dX11_plan_74 : decode cX11_plan 74 = .ok (.iload 4, 2) := by decide +kernel
theorem dX11_plan_76 : decode cX11_plan 76 = .ok (.iaload, 1) := by decide +kernel
theorem dX11_plan_77 : decode cX11_plan 77 = .ok (.isub, 1) := by decide +kernel
theorem dX11_plan_78 : decode cX11_plan 78 = .ok (.istore_n 3, 1) := by decide +kernel
theorem dX11_plan_79 : decode cX11_plan 79 = .ok (.iinc 4 1, 3) := by decide +kernel
theorem dX11_plan_82 : decode cX11_plan 82 = .ok (.goto (-34), 3) := by decide +kernel
theorem dX11_plan_85 : decode cX11_plan 85 = .ok (.iconst (-1), 1) := by decide +kernel
theorem dX11_plan_86 : decode cX11_plan 86 = .ok (.ireturn, 1) := by decide +kernel
theorem dX11_isAlone_0 : decode cX11_isAlone 0 = .ok (.aload_n 0, 1) := by decide +kernel
theorem dX11_isAlone_1 : decode cX11_isAlone 1 = .ok (.invokevirtual 268, 3) := by decide +kernel
theorem dX11_isAlone_4 : decode cX11_isAlone 4 = .ok (.aload_n 0, 1) := by decide +kernel
theorem dX11_isAlone_5 : decode cX11_isAlone 5 = .ok (.getfield 106, 3) := by decide +kernel
theorem dX11_isAlone_8 : decode cX11_isAlone 8 = .ok (.iload_n 1, 1) := by decide +kernel
theorem dX11_isAlone_9 : decode cX11_isAlone 9 = .ok (.iaload, 1) := by decide +kernel
theorem dX11_isAlone_10 : decode cX11_isAlone 10 = .ok (.iconst 1, 1) := by decide +kernel
theorem dX11_isAlone_11 : decode cX11_isAlone 11 = .ok (.if_icmp .le 5, 3) := by decide +kernel
theorem dX11_isAlone_14 : decode cX11_isAlone 14 = .ok (.iconst 0, 1) := by decide +kernel
theorem dX11_isAlone_15 : decode cX11_isAlone 15 = .ok (.ireturn, 1) := by decide +kernel
theorem dX11_isAlone_16 : decode cX11_isAlone 16 = .ok (.aload_n 0, 1) := by decide +kernel
theorem dX11_isAlone_17 : decode cX11_isAlone 17 = .ok (.getfield 106, 3) := by decide +kernel
theorem dX11_isAlone_20 : decode cX11_isAlone 20 = .ok (.iload_n 1, 1) := by decide +kernel
theorem dX11_isAlone_21 : decode cX11_isAlone 21 = .ok (.dup2, 1) := by decide +kernel
theorem dX11_isAlone_22 : decode cX11_isAlone 22 = .ok (.iaload, 1) := by decide +kernel
theorem dX11_isAlone_23 : decode cX11_isAlone 23 = .ok (.iconst 1, 1) := by decide +kernel
theorem dX11_isAlone_24 : decode cX11_isAlone 24 = .ok (.iadd, 1) := by decide +kernel
theorem dX11_isAlone_25 : decode cX11_isAlone 25 = .ok (.iastore, 1) := by decide +kernel
theorem dX11_isAlone_26 : decode cX11_isAlone 26 = .ok (.aload_n 0, 1) := by decide +kernel
theorem dX11_isAlone_27 : decode cX11_isAlone 27 = .ok (.invokevirtual 271, 3) := by decide +kernel
theorem dX11_isAlone_30 : decode cX11_isAlone 30 = .ok (.ireturn, 1) := by decide +kernel
theorem dX11_alone_0 : decode cX11_alone 0 = .ok (.aload_n 0, 1) := by decide +kernel
theorem dX11_alone_1 : decode cX11_alone 1 = .ok (.aload_n 0, 1) := by decide +kernel
theorem dX11_alone_2 : decode cX11_alone 2 = .ok (.iload_n 1, 1) := by decide +kernel
theorem dX11_alone_3 : decode cX11_alone 3 = .ok (.invokevirtual 294, 3) := by decide +kernel
theorem dX11_alone_6 : decode cX11_alone 6 = .ok (.ifCond .eq 7, 3) := by decide +kernel
theorem dX11_alone_9 : decode cX11_alone 9 = .ok (.iconst 0, 1) := by decide +kernel
theorem dX11_alone_10 : decode cX11_alone 10 = .ok (.goto 4, 3) := by decide +kernel
theorem dX11_alone_13 : decode cX11_alone 13 = .ok (.iconst 1, 1) := by decide +kernel
theorem dX11_alone_14 : decode cX11_alone 14 = .ok (.invokevirtual 265, 3) := by decide +kernel
theorem dX11_alone_17 : decode cX11_alone 17 = .ok (.ifCond .eq 5, 3) := by decide +kernel
theorem dX11_alone_20 : decode cX11_alone 20 = .ok (.iconst 0, 1) := by decide +kernel
theorem dX11_alone_21 : decode cX11_alone 21 = .ok (.ireturn, 1) := by decide +kernel
theorem dX11_alone_22 : decode cX11_alone 22 = .ok (.aload_n 0, 1) := by decide +kernel
theorem dX11_alone_23 : decode cX11_alone 23 = .ok (.iload_n 1, 1) := by decide +kernel
theorem dX11_alone_24 : decode cX11_alone 24 = .ok (.invokevirtual 297, 3) := by decide +kernel
theorem dX11_alone_27 : decode cX11_alone 27 = .ok (.ireturn, 1) := by decide +kernel
theorem dX11_empties_0 : decode cX11_empties 0 = .ok (.iconst 0, 1) := by decide +kernel
theorem dX11_empties_1 : decode cX11_empties 1 = .ok (.istore_n 1, 1) := by decide +kernel
theorem dX11_empties_2 : decode cX11_empties 2 = .ok (.iload_n 1, 1) := by decide +kernel
theorem dX11_empties_3 : decode cX11_empties 3 = .ok (.sipush 212, 3) := by decide +kernel
theorem dX11_empties_6 : decode cX11_empties 6 = .ok (.if_icmp .ge 16, 3) := by decide +kernel
theorem dX11_empties_9 : decode cX11_empties 9 = .ok (.aload_n 0, 1) := by decide +kernel
theorem dX11_empties_10 : decode cX11_empties 10 = .ok (.getfield 63, 3) := by decide +kernel
theorem dX11_empties_13 : decode cX11_empties 13 = .ok (.iload_n 1, 1) := by decide +kernel
theorem dX11_empties_14 : decode cX11_empties 14 = .ok (.iconst 0, 1) := by decide +kernel
theorem dX11_empties_15 : decode cX11_empties 15 = .ok (.iastore, 1) := by decide +kernel
theorem dX11_empties_16 : decode cX11_empties 16 = .ok (.iinc 1 1, 3) := by decide +kernel
theorem dX11_empties_19 : decode cX11_empties 19 = .ok (.goto (-17), 3) := by decide +kernel
theorem dX11_empties_22 : decode cX11_empties 22 = .ok (.iconst 0, 1) := by decide +kernel
theorem dX11_empties_23 : decode cX11_empties 23 = .ok (.istore_n 1, 1) := by decide +kernel
theorem dX11_empties_24 : decode cX11_empties 24 = .ok (.iload_n 1, 1) := by decide +kernel
theorem dX11_empties_25 : decode cX11_empties 25 = .ok (.bipush 52, 2) := by decide +kernel
theorem dX11_empties_27 : decode cX11_empties 27 = .ok (.if_icmp .ge 30, 3) := by decide +kernel
theorem dX11_empties_30 : decode cX11_empties 30 = .ok (.aload_n 0, 1) := by decide +kernel
theorem dX11_empties_31 : decode cX11_empties 31 = .ok (.getfield 66, 3) := by decide +kernel
theorem dX11_empties_34 : decode cX11_empties 34 = .ok (.iload_n 1, 1) := by decide +kernel
theorem dX11_empties_35 : decode cX11_empties 35 = .ok (.iconst 0, 1) := by decide +kernel
theorem dX11_empties_36 : decode cX11_empties 36 = .ok (.iastore, 1) := by decide +kernel
theorem dX11_empties_37 : decode cX11_empties 37 = .ok (.aload_n 0, 1) := by decide +kernel
theorem dX11_empties_38 : decode cX11_empties 38 = .ok (.getfield 69, 3) := by decide +kernel
theorem dX11_empties_41 : decode cX11_empties 41 = .ok (.iload_n 1, 1) := by decide +kernel
theorem dX11_empties_42 : decode cX11_empties 42 = .ok (.iconst 0, 1) := by decide +kernel
theorem dX11_empties_43 : decode cX11_empties 43 = .ok (.iastore, 1) := by decide +kernel
theorem dX11_empties_44 : decode cX11_empties 44 = .ok (.aload_n 0, 1) := by decide +kernel
theorem dX11_empties_45 : decode cX11_empties 45 = .ok (.getfield 72, 3) := by decide +kernel
theorem dX11_empties_48 : decode cX11_empties 48 = .ok (.iload_n 1, 1) := by decide +kernel
theorem dX11_empties_49 : decode cX11_empties 49 = .ok (.iconst 0, 1) := by decide +kernel
theorem dX11_empties_50 : decode cX11_empties 50 = .ok (.iastore, 1) := by decide +kernel
theorem dX11_empties_51 : decode cX11_empties 51 = .ok (.iinc 1 1, 3) := by decide +kernel
theorem dX11_empties_54 : decode cX11_empties 54 = .ok (.goto (-30), 3) := by decide +kernel
theorem dX11_empties_57 : decode cX11_empties 57 = .ok (.aload_n 0, 1) := by decide +kernel
theorem dX11_empties_58 : decode cX11_empties 58 = .ok (.getfield 72, 3) := by decide +kernel
theorem dX11_empties_61 : decode cX11_empties 61 = .ok (.bipush 52, 2) := by decide +kernel
theorem dX11_empties_63 : decode cX11_empties 63 = .ok (.iconst 0, 1) := by decide +kernel
theorem dX11_empties_64 : decode cX11_empties 64 = .ok (.iastore, 1) := by decide +kernel
theorem dX11_empties_65 : decode cX11_empties 65 = .ok (.aload_n 0, 1) := by decide +kernel
theorem dX11_empties_66 : decode cX11_empties 66 = .ok (.iconst 0, 1) := by decide +kernel
theorem dX11_empties_67 : decode cX11_empties 67 = .ok (.putfield 300, 3) := by decide +kernel
theorem dX11_empties_70 : decode cX11_empties 70 = .ok (.aload_n 0, 1) := by decide +kernel
theorem dX11_empties_71 : decode cX11_empties 71 = .ok (.iconst 0, 1) := by decide +kernel
theorem dX11_empties_72 : decode cX11_empties 72 = .ok (.putfield 303, 3) := by decide +kernel
theorem dX11_empties_75 : decode cX11_empties 75 = .ok (.aload_n 0, 1) := by decide +kernel
theorem dX11_empties_76 : decode cX11_empties 76 = .ok (.iconst 0, 1) := by decide +kernel
theorem dX11_empties_77 : decode cX11_empties 77 = .ok (.putfield 306, 3) := by decide +kernel
theorem dX11_empties_80 : decode cX11_empties 80 = .ok (.return_, 1) := by decide +kernel
theorem dX11_rules_0 : decode cX11_rules 0 = .ok (.aload_n 0, 1) := by decide +kernel
theorem dX11_rules_1 : decode cX11_rules 1 = .ok (.iload_n 1, 1) := by decide +kernel
theorem dX11_rules_2 : decode cX11_rules 2 = .ok (.iconst 5, 1) := by decide +kernel
theorem dX11_rules_3 : decode cX11_rules 3 = .ok (.bipush 13, 2) := by decide +kernel
theorem dX11_rules_5 : decode cX11_rules 5 = .ok (.invokevirtual 182, 3) := by decide +kernel
theorem dX11_rules_8 : decode cX11_rules 8 = .ok (.ifCond .eq 51, 3) := by decide +kernel
theorem dX11_rules_11 : decode cX11_rules 11 = .ok (.aload_n 0, 1) := by decide +kernel
theorem dX11_rules_12 : decode cX11_rules 12 = .ok (.iload_n 2, 1) := by decide +kernel
theorem dX11_rules_13 : decode cX11_rules 13 = .ok (.iconst 3, 1) := by decide +kernel
theorem dX11_rules_14 : decode cX11_rules 14 = .ok (.iconst 4, 1) := by decide +kernel
theorem dX11_rules_15 : decode cX11_rules 15 = .ok (.invokevirtual 182, 3) := by decide +kernel
theorem dX11_rules_18 : decode cX11_rules 18 = .ok (.ifCond .eq 41, 3) := by decide +kernel
theorem dX11_rules_21 : decode cX11_rules 21 = .ok (.aload_n 0, 1) := by decide +kernel
theorem dX11_rules_22 : decode cX11_rules 22 = .ok (.iload_n 3, 1) := by decide +kernel
theorem dX11_rules_23 : decode cX11_rules 23 = .ok (.iconst 0, 1) := by decide +kernel
theorem dX11_rules_24 : decode cX11_rules 24 = .ok (.iconst 3, 1) := by decide +kernel
theorem dX11_rules_25 : decode cX11_rules 25 = .ok (.invokevirtual 182, 3) := by decide +kernel
theorem dX11_rules_28 : decode cX11_rules 28 = .ok (.ifCond .eq 31, 3) := by decide +kernel
theorem dX11_rules_31 : decode cX11_rules 31 = .ok (.aload_n 0, 1) := by decide +kernel
theorem dX11_rules_32 : decode cX11_rules 32 = .ok (.iload 4, 2) := by decide +kernel
theorem dX11_rules_34 : decode cX11_rules 34 = .ok (.iconst 0, 1) := by decide +kernel
theorem dX11_rules_35 : decode cX11_rules 35 = .ok (.bipush 99, 2) := by decide +kernel
theorem dX11_rules_37 : decode cX11_rules 37 = .ok (.invokevirtual 182, 3) := by decide +kernel
theorem dX11_rules_40 : decode cX11_rules 40 = .ok (.ifCond .eq 19, 3) := by decide +kernel
theorem dX11_rules_43 : decode cX11_rules 43 = .ok (.aload_n 0, 1) := by decide +kernel
theorem dX11_rules_44 : decode cX11_rules 44 = .ok (.iload 5, 2) := by decide +kernel
theorem dX11_rules_46 : decode cX11_rules 46 = .ok (.iconst 1, 1) := by decide +kernel
theorem dX11_rules_47 : decode cX11_rules 47 = .ok (.bipush 9, 2) := by decide +kernel
theorem dX11_rules_49 : decode cX11_rules 49 = .ok (.invokevirtual 182, 3) := by decide +kernel
theorem dX11_rules_52 : decode cX11_rules 52 = .ok (.ifCond .eq 7, 3) := by decide +kernel
theorem dX11_rules_55 : decode cX11_rules 55 = .ok (.iconst 1, 1) := by decide +kernel
theorem dX11_rules_56 : decode cX11_rules 56 = .ok (.goto 4, 3) := by decide +kernel
theorem dX11_rules_59 : decode cX11_rules 59 = .ok (.iconst 0, 1) := by decide +kernel
theorem dX11_rules_60 : decode cX11_rules 60 = .ok (.istore 6, 2) := by decide +kernel
theorem dX11_rules_62 : decode cX11_rules 62 = .ok (.aload_n 0, 1) := by decide +kernel
theorem dX11_rules_63 : decode cX11_rules 63 = .ok (.iload 6, 2) := by decide +kernel
theorem dX11_rules_65 : decode cX11_rules 65 = .ok (.ifCond .ne 7, 3) := by decide +kernel
theorem dX11_rules_68 : decode cX11_rules 68 = .ok (.iconst 1, 1) := by decide +kernel
theorem dX11_rules_69 : decode cX11_rules 69 = .ok (.goto 16, 3) := by decide +kernel
theorem dX11_rules_72 : decode cX11_rules 72 = .ok (.aload_n 0, 1) := by decide +kernel
theorem dX11_rules_73 : decode cX11_rules 73 = .ok (.getfield 75, 3) := by decide +kernel
theorem dX11_rules_76 : decode cX11_rules 76 = .ok (.iconst (-1), 1) := by decide +kernel
theorem dX11_rules_77 : decode cX11_rules 77 = .ok (.if_icmp .eq 7, 3) := by decide +kernel
theorem dX11_rules_80 : decode cX11_rules 80 = .ok (.iconst 2, 1) := by decide +kernel
theorem dX11_rules_81 : decode cX11_rules 81 = .ok (.goto 4, 3) := by decide +kernel
theorem dX11_rules_84 : decode cX11_rules 84 = .ok (.iconst 0, 1) := by decide +kernel
theorem dX11_rules_85 : decode cX11_rules 85 = .ok (.invokevirtual 265, 3) := by decide +kernel
theorem dX11_rules_88 : decode cX11_rules 88 = .ok (.ifCond .eq 5, 3) := by decide +kernel
theorem dX11_rules_91 : decode cX11_rules 91 = .ok (.iconst (-1), 1) := by decide +kernel
theorem dX11_rules_92 : decode cX11_rules 92 = .ok (.ireturn, 1) := by decide +kernel
theorem dX11_rules_93 : decode cX11_rules 93 = .ok (.aload_n 0, 1) := by decide +kernel
theorem dX11_rules_94 : decode cX11_rules 94 = .ok (.iload_n 1, 1) := by decide +kernel
theorem dX11_rules_95 : decode cX11_rules 95 = .ok (.putfield 9, 3) := by decide +kernel
theorem dX11_rules_98 : decode cX11_rules 98 = .ok (.aload_n 0, 1) := by decide +kernel
theorem dX11_rules_99 : decode cX11_rules 99 = .ok (.iload_n 2, 1) := by decide +kernel
theorem dX11_rules_100 : decode cX11_rules 100 = .ok (.putfield 15, 3) := by decide +kernel
theorem dX11_rules_103 : decode cX11_rules 103 = .ok (.aload_n 0, 1) := by decide +kernel
theorem dX11_rules_104 : decode cX11_rules 104 = .ok (.iload_n 3, 1) := by decide +kernel
theorem dX11_rules_105 : decode cX11_rules 105 = .ok (.putfield 18, 3) := by decide +kernel
theorem dX11_rules_108 : decode cX11_rules 108 = .ok (.aload_n 0, 1) := by decide +kernel
theorem dX11_rules_109 : decode cX11_rules 109 = .ok (.iload 4, 2) := by decide +kernel
theorem dX11_rules_111 : decode cX11_rules 111 = .ok (.putfield 21, 3) := by decide +kernel
theorem dX11_rules_114 : decode cX11_rules 114 = .ok (.aload_n 0, 1) := by decide +kernel
theorem dX11_rules_115 : decode cX11_rules 115 = .ok (.iload 5, 2) := by decide +kernel
theorem dX11_rules_117 : decode cX11_rules 117 = .ok (.putfield 24, 3) := by decide +kernel
theorem dX11_rules_120 : decode cX11_rules 120 = .ok (.aload_n 0, 1) := by decide +kernel
theorem dX11_rules_121 : decode cX11_rules 121 = .ok (.invokevirtual 309, 3) := by decide +kernel
theorem dX11_rules_124 : decode cX11_rules 124 = .ok (.bipush 8, 2) := by decide +kernel
theorem dX11_rules_126 : decode cX11_rules 126 = .ok (.aload_n 0, 1) := by decide +kernel
theorem dX11_rules_127 : decode cX11_rules 127 = .ok (.getfield 9, 3) := by decide +kernel
theorem dX11_rules_130 : decode cX11_rules 130 = .ok (.imul, 1) := by decide +kernel
theorem dX11_rules_131 : decode cX11_rules 131 = .ok (.aload_n 0, 1) := by decide +kernel
theorem dX11_rules_132 : decode cX11_rules 132 = .ok (.getfield 18, 3) := by decide +kernel
theorem dX11_rules_135 : decode cX11_rules 135 = .ok (.iadd, 1) := by decide +kernel
theorem dX11_rules_136 : decode cX11_rules 136 = .ok (.ireturn, 1) := by decide +kernel
theorem dX11_player_0 : decode cX11_player 0 = .ok (.aload_n 0, 1) := by decide +kernel
theorem dX11_player_1 : decode cX11_player 1 = .ok (.aload_n 0, 1) := by decide +kernel
theorem dX11_player_2 : decode cX11_player 2 = .ok (.iload_n 1, 1) := by decide +kernel
theorem dX11_player_3 : decode cX11_player 3 = .ok (.iconst 0, 1) := by decide +kernel
theorem dX11_player_4 : decode cX11_player 4 = .ok (.iconst 1, 1) := by decide +kernel
theorem dX11_player_5 : decode cX11_player 5 = .ok (.invokevirtual 182, 3) := by decide +kernel
theorem dX11_player_8 : decode cX11_player 8 = .ok (.ifCond .eq 13, 3) := by decide +kernel
theorem dX11_player_11 : decode cX11_player 11 = .ok (.aload_n 0, 1) := by decide +kernel
theorem dX11_player_12 : decode cX11_player 12 = .ok (.iload_n 2, 1) := by decide +kernel
theorem dX11_player_13 : decode cX11_player 13 = .ok (.iconst 0, 1) := by decide +kernel
theorem dX11_player_14 : decode cX11_player 14 = .ok (.iconst 3, 1) := by decide +kernel
theorem dX11_player_15 : decode cX11_player 15 = .ok (.invokevirtual 182, 3) := by decide +kernel
theorem dX11_player_18 : decode cX11_player 18 = .ok (.ifCond .ne 7, 3) := by decide +kernel
theorem dX11_player_21 : decode cX11_player 21 = .ok (.iconst 1, 1) := by decide +kernel
theorem dX11_player_22 : decode cX11_player 22 = .ok (.goto 24, 3) := by decide +kernel
theorem dX11_player_25 : decode cX11_player 25 = .ok (.aload_n 0, 1) := by decide +kernel
theorem dX11_player_26 : decode cX11_player 26 = .ok (.getfield 186, 3) := by decide +kernel
theorem dX11_player_29 : decode cX11_player 29 = .ok (.iconst 4, 1) := by decide +kernel
theorem dX11_player_30 : decode cX11_player 30 = .ok (.if_icmp .eq 11, 3) := by decide +kernel
theorem dX11_player_33 : decode cX11_player 33 = .ok (.aload_n 0, 1) := by decide +kernel
theorem dX11_player_34 : decode cX11_player 34 = .ok (.getfield 75, 3) := by decide +kernel
theorem dX11_player_37 : decode cX11_player 37 = .ok (.iconst (-1), 1) := by decide +kernel
theorem dX11_player_38 : decode cX11_player 38 = .ok (.if_icmp .eq 7, 3) := by decide +kernel
theorem dX11_player_41 : decode cX11_player 41 = .ok (.iconst 2, 1) := by decide +kernel
theorem dX11_player_42 : decode cX11_player 42 = .ok (.goto 4, 3) := by decide +kernel
theorem dX11_player_45 : decode cX11_player 45 = .ok (.iconst 0, 1) := by decide +kernel
theorem dX11_player_46 : decode cX11_player 46 = .ok (.invokevirtual 265, 3) := by decide +kernel
theorem dX11_player_49 : decode cX11_player 49 = .ok (.ifCond .eq 5, 3) := by decide +kernel
theorem dX11_player_52 : decode cX11_player 52 = .ok (.iconst (-1), 1) := by decide +kernel
theorem dX11_player_53 : decode cX11_player 53 = .ok (.ireturn, 1) := by decide +kernel
theorem dX11_player_54 : decode cX11_player 54 = .ok (.aload_n 0, 1) := by decide +kernel
theorem dX11_player_55 : decode cX11_player 55 = .ok (.getfield 27, 3) := by decide +kernel
theorem dX11_player_58 : decode cX11_player 58 = .ok (.aload_n 0, 1) := by decide +kernel
theorem dX11_player_59 : decode cX11_player 59 = .ok (.getfield 186, 3) := by decide +kernel
theorem dX11_player_62 : decode cX11_player 62 = .ok (.iload_n 1, 1) := by decide +kernel
theorem dX11_player_63 : decode cX11_player 63 = .ok (.iastore, 1) := by decide +kernel
theorem dX11_player_64 : decode cX11_player 64 = .ok (.aload_n 0, 1) := by decide +kernel
theorem dX11_player_65 : decode cX11_player 65 = .ok (.getfield 31, 3) := by decide +kernel
theorem dX11_player_68 : decode cX11_player 68 = .ok (.aload_n 0, 1) := by decide +kernel
theorem dX11_player_69 : decode cX11_player 69 = .ok (.getfield 186, 3) := by decide +kernel
theorem dX11_player_72 : decode cX11_player 72 = .ok (.iload_n 2, 1) := by decide +kernel
theorem dX11_player_73 : decode cX11_player 73 = .ok (.iastore, 1) := by decide +kernel
theorem dX11_player_74 : decode cX11_player 74 = .ok (.aload_n 0, 1) := by decide +kernel
theorem dX11_player_75 : decode cX11_player 75 = .ok (.getfield 47, 3) := by decide +kernel
theorem dX11_player_78 : decode cX11_player 78 = .ok (.aload_n 0, 1) := by decide +kernel
theorem dX11_player_79 : decode cX11_player 79 = .ok (.getfield 186, 3) := by decide +kernel
theorem dX11_player_82 : decode cX11_player 82 = .ok (.aload_n 0, 1) := by decide +kernel
theorem dX11_player_83 : decode cX11_player 83 = .ok (.getfield 186, 3) := by decide +kernel
theorem dX11_player_86 : decode cX11_player 86 = .ok (.iastore, 1) := by decide +kernel
theorem dX11_player_87 : decode cX11_player 87 = .ok (.aload_n 0, 1) := by decide +kernel
theorem dX11_player_88 : decode cX11_player 88 = .ok (.dup, 1) := by decide +kernel
theorem dX11_player_89 : decode cX11_player 89 = .ok (.getfield 186, 3) := by decide +kernel
theorem dX11_player_92 : decode cX11_player 92 = .ok (.iconst 1, 1) := by decide +kernel
theorem dX11_player_93 : decode cX11_player 93 = .ok (.iadd, 1) := by decide +kernel
theorem dX11_player_94 : decode cX11_player 94 = .ok (.putfield 186, 3) := by decide +kernel
theorem dX11_player_97 : decode cX11_player 97 = .ok (.aload_n 0, 1) := by decide +kernel
theorem dX11_player_98 : decode cX11_player 98 = .ok (.getfield 186, 3) := by decide +kernel
theorem dX11_player_101 : decode cX11_player 101 = .ok (.iconst 1, 1) := by decide +kernel
theorem dX11_player_102 : decode cX11_player 102 = .ok (.isub, 1) := by decide +kernel
theorem dX11_player_103 : decode cX11_player 103 = .ok (.ireturn, 1) := by decide +kernel
theorem dX11_inPool_0 : decode cX11_inPool 0 = .ok (.iconst 0, 1) := by decide +kernel
theorem dX11_inPool_1 : decode cX11_inPool 1 = .ok (.istore_n 1, 1) := by decide +kernel
theorem dX11_inPool_2 : decode cX11_inPool 2 = .ok (.iconst 0, 1) := by decide +kernel
theorem dX11_inPool_3 : decode cX11_inPool 3 = .ok (.istore_n 2, 1) := by decide +kernel
theorem dX11_inPool_4 : decode cX11_inPool 4 = .ok (.iload_n 2, 1) := by decide +kernel
theorem dX11_inPool_5 : decode cX11_inPool 5 = .ok (.bipush 53, 2) := by decide +kernel
theorem dX11_inPool_7 : decode cX11_inPool 7 = .ok (.if_icmp .ge 18, 3) := by decide +kernel
theorem dX11_inPool_10 : decode cX11_inPool 10 = .ok (.iload_n 1, 1) := by decide +kernel
theorem dX11_inPool_11 : decode cX11_inPool 11 = .ok (.aload_n 0, 1) := by decide +kernel
theorem dX11_inPool_12 : decode cX11_inPool 12 = .ok (.getfield 72, 3) := by decide +kernel
theorem dX11_inPool_15 : decode cX11_inPool 15 = .ok (.iload_n 2, 1) := by decide +kernel
theorem dX11_inPool_16 : decode cX11_inPool 16 = .ok (.iaload, 1) := by decide +kernel
theorem dX11_inPool_17 : decode cX11_inPool 17 = .ok (.iadd, 1) := by decide +kernel
theorem dX11_inPool_18 : decode cX11_inPool 18 = .ok (.istore_n 1, 1) := by decide +kernel
theorem dX11_inPool_19 : decode cX11_inPool 19 = .ok (.iinc 2 1, 3) := by decide +kernel
theorem dX11_inPool_22 : decode cX11_inPool 22 = .ok (.goto (-18), 3) := by decide +kernel
theorem dX11_inPool_25 : decode cX11_inPool 25 = .ok (.iload_n 1, 1) := by decide +kernel
theorem dX11_inPool_26 : decode cX11_inPool 26 = .ok (.ireturn, 1) := by decide +kernel
theorem dX11_inRack_0 : decode cX11_inRack 0 = .ok (.iconst 0, 1) := by decide +kernel
theorem dX11_inRack_1 : decode cX11_inRack 1 = .ok (.istore_n 2, 1) := by decide +kernel
theorem dX11_inRack_2 : decode cX11_inRack 2 = .ok (.iconst 0, 1) := by decide +kernel
theorem dX11_inRack_3 : decode cX11_inRack 3 = .ok (.istore_n 3, 1) := by decide +kernel
theorem dX11_inRack_4 : decode cX11_inRack 4 = .ok (.iload_n 3, 1) := by decide +kernel
theorem dX11_inRack_5 : decode cX11_inRack 5 = .ok (.bipush 53, 2) := by decide +kernel
theorem dX11_inRack_7 : decode cX11_inRack 7 = .ok (.if_icmp .ge 23, 3) := by decide +kernel
theorem dX11_inRack_10 : decode cX11_inRack 10 = .ok (.iload_n 2, 1) := by decide +kernel
theorem dX11_inRack_11 : decode cX11_inRack 11 = .ok (.aload_n 0, 1) := by decide +kernel
theorem dX11_inRack_12 : decode cX11_inRack 12 = .ok (.getfield 63, 3) := by decide +kernel
theorem dX11_inRack_15 : decode cX11_inRack 15 = .ok (.bipush 53, 2) := by decide +kernel
theorem dX11_inRack_17 : decode cX11_inRack 17 = .ok (.iload_n 1, 1) := by decide +kernel
theorem dX11_inRack_18 : decode cX11_inRack 18 = .ok (.imul, 1) := by decide +kernel
theorem dX11_inRack_19 : decode cX11_inRack 19 = .ok (.iload_n 3, 1) := by decide +kernel
theorem dX11_inRack_20 : decode cX11_inRack 20 = .ok (.iadd, 1) := by decide +kernel
theorem dX11_inRack_21 : decode cX11_inRack 21 = .ok (.iaload, 1) := by decide +kernel
theorem dX11_inRack_22 : decode cX11_inRack 22 = .ok (.iadd, 1) := by decide +kernel
theorem dX11_inRack_23 : decode cX11_inRack 23 = .ok (.istore_n 2, 1) := by decide +kernel
theorem dX11_inRack_24 : decode cX11_inRack 24 = .ok (.iinc 3 1, 3) := by decide +kernel
theorem dX11_inRack_27 : decode cX11_inRack 27 = .ok (.goto (-23), 3) := by decide +kernel
theorem dX11_inRack_30 : decode cX11_inRack 30 = .ok (.iload_n 2, 1) := by decide +kernel
theorem dX11_inRack_31 : decode cX11_inRack 31 = .ok (.ireturn, 1) := by decide +kernel
theorem dX11_worthOf_0 : decode cX11_worthOf 0 = .ok (.bipush 30, 2) := by decide +kernel
theorem dX11_worthOf_2 : decode cX11_worthOf 2 = .ok (.aload_n 0, 1) := by decide +kernel
theorem dX11_worthOf_3 : decode cX11_worthOf 3 = .ok (.getfield 63, 3) := by decide +kernel
theorem dX11_worthOf_6 : decode cX11_worthOf 6 = .ok (.bipush 53, 2) := by decide +kernel
theorem dX11_worthOf_8 : decode cX11_worthOf 8 = .ok (.iload_n 1, 1) := by decide +kernel
theorem dX11_worthOf_9 : decode cX11_worthOf 9 = .ok (.imul, 1) := by decide +kernel
theorem dX11_worthOf_10 : decode cX11_worthOf 10 = .ok (.bipush 52, 2) := by decide +kernel
theorem dX11_worthOf_12 : decode cX11_worthOf 12 = .ok (.iadd, 1) := by decide +kernel
theorem dX11_worthOf_13 : decode cX11_worthOf 13 = .ok (.iaload, 1) := by decide +kernel
theorem dX11_worthOf_14 : decode cX11_worthOf 14 = .ok (.imul, 1) := by decide +kernel
theorem dX11_worthOf_15 : decode cX11_worthOf 15 = .ok (.istore_n 2, 1) := by decide +kernel
theorem dX11_worthOf_16 : decode cX11_worthOf 16 = .ok (.iconst 0, 1) := by decide +kernel
theorem dX11_worthOf_17 : decode cX11_worthOf 17 = .ok (.istore_n 3, 1) := by decide +kernel
theorem dX11_worthOf_18 : decode cX11_worthOf 18 = .ok (.iload_n 3, 1) := by decide +kernel
theorem dX11_worthOf_19 : decode cX11_worthOf 19 = .ok (.bipush 52, 2) := by decide +kernel
theorem dX11_worthOf_21 : decode cX11_worthOf 21 = .ok (.if_icmp .ge 30, 3) := by decide +kernel
theorem dX11_worthOf_24 : decode cX11_worthOf 24 = .ok (.iload_n 2, 1) := by decide +kernel
theorem dX11_worthOf_25 : decode cX11_worthOf 25 = .ok (.aload_n 0, 1) := by decide +kernel
theorem dX11_worthOf_26 : decode cX11_worthOf 26 = .ok (.getfield 63, 3) := by decide +kernel
theorem dX11_worthOf_29 : decode cX11_worthOf 29 = .ok (.bipush 53, 2) := by decide +kernel
theorem dX11_worthOf_31 : decode cX11_worthOf 31 = .ok (.iload_n 1, 1) := by decide +kernel
theorem dX11_worthOf_32 : decode cX11_worthOf 32 = .ok (.imul, 1) := by decide +kernel
theorem dX11_worthOf_33 : decode cX11_worthOf 33 = .ok (.iload_n 3, 1) := by decide +kernel
theorem dX11_worthOf_34 : decode cX11_worthOf 34 = .ok (.iadd, 1) := by decide +kernel
theorem dX11_worthOf_35 : decode cX11_worthOf 35 = .ok (.iaload, 1) := by decide +kernel
theorem dX11_worthOf_36 : decode cX11_worthOf 36 = .ok (.iload_n 3, 1) := by decide +kernel
theorem dX11_worthOf_37 : decode cX11_worthOf 37 = .ok (.bipush 13, 2) := by decide +kernel
theorem dX11_worthOf_39 : decode cX11_worthOf 39 = .ok (.irem, 1) := by decide +kernel
theorem dX11_worthOf_40 : decode cX11_worthOf 40 = .ok (.iconst 1, 1) := by decide +kernel
theorem dX11_worthOf_41 : decode cX11_worthOf 41 = .ok (.iadd, 1) := by decide +kernel
theorem dX11_worthOf_42 : decode cX11_worthOf 42 = .ok (.imul, 1) := by decide +kernel
theorem dX11_worthOf_43 : decode cX11_worthOf 43 = .ok (.iadd, 1) := by decide +kernel
theorem dX11_worthOf_44 : decode cX11_worthOf 44 = .ok (.istore_n 2, 1) := by decide +kernel
theorem dX11_worthOf_45 : decode cX11_worthOf 45 = .ok (.iinc 3 1, 3) := by decide +kernel
theorem dX11_worthOf_48 : decode cX11_worthOf 48 = .ok (.goto (-30), 3) := by decide +kernel
theorem dX11_worthOf_51 : decode cX11_worthOf 51 = .ok (.iload_n 2, 1) := by decide +kernel
theorem dX11_worthOf_52 : decode cX11_worthOf 52 = .ok (.ireturn, 1) := by decide +kernel
theorem dX11_draws_0 : decode cX11_draws 0 = .ok (.aload_n 0, 1) := by decide +kernel
theorem dX11_draws_1 : decode cX11_draws 1 = .ok (.invokevirtual 312, 3) := by decide +kernel
theorem dX11_draws_4 : decode cX11_draws 4 = .ok (.istore_n 2, 1) := by decide +kernel
theorem dX11_draws_5 : decode cX11_draws 5 = .ok (.iload_n 2, 1) := by decide +kernel
theorem dX11_draws_6 : decode cX11_draws 6 = .ok (.ifCond .eq 13, 3) := by decide +kernel
theorem dX11_draws_9 : decode cX11_draws 9 = .ok (.aload_n 0, 1) := by decide +kernel
theorem dX11_draws_10 : decode cX11_draws 10 = .ok (.iload_n 1, 1) := by decide +kernel
theorem dX11_draws_11 : decode cX11_draws 11 = .ok (.invokevirtual 315, 3) := by decide +kernel
theorem dX11_draws_14 : decode cX11_draws 14 = .ok (.bipush 24, 2) := by decide +kernel
theorem dX11_draws_16 : decode cX11_draws 16 = .ok (.if_icmp .ne 5, 3) := by decide +kernel
theorem dX11_draws_19 : decode cX11_draws 19 = .ok (.iconst 0, 1) := by decide +kernel
theorem dX11_draws_20 : decode cX11_draws 20 = .ok (.ireturn, 1) := by decide +kernel
theorem dX11_draws_21 : decode cX11_draws 21 = .ok (.aload_n 0, 1) := by decide +kernel
theorem dX11_draws_22 : decode cX11_draws 22 = .ok (.sipush 25173, 3) := by decide +kernel
theorem dX11_draws_25 : decode cX11_draws 25 = .ok (.aload_n 0, 1) := by decide +kernel
theorem dX11_draws_26 : decode cX11_draws 26 = .ok (.getfield 318, 3) := by decide +kernel
theorem dX11_draws_29 : decode cX11_draws 29 = .ok (.imul, 1) := by decide +kernel
theorem dX11_draws_30 : decode cX11_draws 30 = .ok (.sipush 13849, 3) := by decide +kernel
theorem dX11_draws_33 : decode cX11_draws 33 = .ok (.iadd, 1) := by decide +kernel
theorem dX11_draws_34 : decode cX11_draws 34 = .ok (.ldc 118, 2) := by decide +kernel
theorem dX11_draws_36 : decode cX11_draws 36 = .ok (.irem, 1) := by decide +kernel
theorem dX11_draws_37 : decode cX11_draws 37 = .ok (.putfield 318, 3) := by decide +kernel
theorem dX11_draws_40 : decode cX11_draws 40 = .ok (.aload_n 0, 1) := by decide +kernel
theorem dX11_draws_41 : decode cX11_draws 41 = .ok (.getfield 318, 3) := by decide +kernel
theorem dX11_draws_44 : decode cX11_draws 44 = .ok (.iload_n 2, 1) := by decide +kernel
theorem dX11_draws_45 : decode cX11_draws 45 = .ok (.irem, 1) := by decide +kernel
theorem dX11_draws_46 : decode cX11_draws 46 = .ok (.istore_n 3, 1) := by decide +kernel
theorem dX11_draws_47 : decode cX11_draws 47 = .ok (.iconst 0, 1) := by decide +kernel
theorem dX11_draws_48 : decode cX11_draws 48 = .ok (.istore 4, 2) := by decide +kernel
theorem dX11_draws_50 : decode cX11_draws 50 = .ok (.iload_n 3, 1) := by decide +kernel
theorem dX11_draws_51 : decode cX11_draws 51 = .ok (.aload_n 0, 1) := by decide +kernel
theorem dX11_draws_52 : decode cX11_draws 52 = .ok (.getfield 72, 3) := by decide +kernel
theorem dX11_draws_55 : decode cX11_draws 55 = .ok (.iload 4, 2) := by decide +kernel
theorem dX11_draws_57 : decode cX11_draws 57 = .ok (.iaload, 1) := by decide +kernel
theorem dX11_draws_58 : decode cX11_draws 58 = .ok (.if_icmp .lt 19, 3) := by decide +kernel
theorem dX11_draws_61 : decode cX11_draws 61 = .ok (.iload_n 3, 1) := by decide +kernel
theorem dX11_draws_62 : decode cX11_draws 62 = .ok (.aload_n 0, 1) := by decide +kernel
theorem dX11_draws_63 : decode cX11_draws 63 = .ok (.getfield 72, 3) := by decide +kernel
theorem dX11_draws_66 : decode cX11_draws 66 = .ok (.iload 4, 2) := by decide +kernel
theorem dX11_draws_68 : decode cX11_draws 68 = .ok (.iaload, 1) := by decide +kernel
theorem dX11_draws_69 : decode cX11_draws 69 = .ok (.isub, 1) := by decide +kernel
theorem dX11_draws_70 : decode cX11_draws 70 = .ok (.istore_n 3, 1) := by decide +kernel
theorem dX11_draws_71 : decode cX11_draws 71 = .ok (.iinc 4 1, 3) := by decide +kernel
theorem dX11_draws_74 : decode cX11_draws 74 = .ok (.goto (-24), 3) := by decide +kernel
theorem dX11_draws_77 : decode cX11_draws 77 = .ok (.aload_n 0, 1) := by decide +kernel
theorem dX11_draws_78 : decode cX11_draws 78 = .ok (.getfield 72, 3) := by decide +kernel
theorem dX11_draws_81 : decode cX11_draws 81 = .ok (.iload 4, 2) := by decide +kernel
theorem dX11_draws_83 : decode cX11_draws 83 = .ok (.dup2, 1) := by decide +kernel
theorem dX11_draws_84 : decode cX11_draws 84 = .ok (.iaload, 1) := by decide +kernel
theorem dX11_draws_85 : decode cX11_draws 85 = .ok (.iconst 1, 1) := by decide +kernel
theorem dX11_draws_86 : decode cX11_draws 86 = .ok (.isub, 1) := by decide +kernel
theorem dX11_draws_87 : decode cX11_draws 87 = .ok (.iastore, 1) := by decide +kernel
theorem dX11_draws_88 : decode cX11_draws 88 = .ok (.aload_n 0, 1) := by decide +kernel
theorem dX11_draws_89 : decode cX11_draws 89 = .ok (.getfield 63, 3) := by decide +kernel
theorem dX11_draws_92 : decode cX11_draws 92 = .ok (.bipush 53, 2) := by decide +kernel
theorem dX11_draws_94 : decode cX11_draws 94 = .ok (.iload_n 1, 1) := by decide +kernel
theorem dX11_draws_95 : decode cX11_draws 95 = .ok (.imul, 1) := by decide +kernel
theorem dX11_draws_96 : decode cX11_draws 96 = .ok (.iload 4, 2) := by decide +kernel
theorem dX11_draws_98 : decode cX11_draws 98 = .ok (.iadd, 1) := by decide +kernel
theorem dX11_draws_99 : decode cX11_draws 99 = .ok (.dup2, 1) := by decide +kernel
theorem dX11_draws_100 : decode cX11_draws 100 = .ok (.iaload, 1) := by decide +kernel
theorem dX11_draws_101 : decode cX11_draws 101 = .ok (.iconst 1, 1) := by decide +kernel
theorem dX11_draws_102 : decode cX11_draws 102 = .ok (.iadd, 1) := by decide +kernel
theorem dX11_draws_103 : decode cX11_draws 103 = .ok (.iastore, 1) := by decide +kernel
theorem dX11_draws_104 : decode cX11_draws 104 = .ok (.iconst 1, 1) := by decide +kernel
theorem dX11_draws_105 : decode cX11_draws 105 = .ok (.ireturn, 1) := by decide +kernel
theorem dX11_deal_0 : decode cX11_deal 0 = .ok (.aload_n 0, 1) := by decide +kernel
theorem dX11_deal_1 : decode cX11_deal 1 = .ok (.iload_n 1, 1) := by decide +kernel
theorem dX11_deal_2 : decode cX11_deal 2 = .ok (.iconst 0, 1) := by decide +kernel
theorem dX11_deal_3 : decode cX11_deal 3 = .ok (.ldc_w 321, 3) := by decide +kernel
theorem dX11_deal_6 : decode cX11_deal 6 = .ok (.invokevirtual 182, 3) := by decide +kernel
theorem dX11_deal_9 : decode cX11_deal 9 = .ok (.ifCond .eq 26, 3) := by decide +kernel
theorem dX11_deal_12 : decode cX11_deal 12 = .ok (.aload_n 0, 1) := by decide +kernel
theorem dX11_deal_13 : decode cX11_deal 13 = .ok (.iload_n 2, 1) := by decide +kernel
theorem dX11_deal_14 : decode cX11_deal 14 = .ok (.iconst 1, 1) := by decide +kernel
theorem dX11_deal_15 : decode cX11_deal 15 = .ok (.bipush 14, 2) := by decide +kernel
theorem dX11_deal_17 : decode cX11_deal 17 = .ok (.invokevirtual 182, 3) := by decide +kernel
theorem dX11_deal_20 : decode cX11_deal 20 = .ok (.ifCond .eq 15, 3) := by decide +kernel
theorem dX11_deal_23 : decode cX11_deal 23 = .ok (.aload_n 0, 1) := by decide +kernel
theorem dX11_deal_24 : decode cX11_deal 24 = .ok (.iload_n 3, 1) := by decide +kernel
theorem dX11_deal_25 : decode cX11_deal 25 = .ok (.iconst 1, 1) := by decide +kernel
theorem dX11_deal_26 : decode cX11_deal 26 = .ok (.sipush 9999, 3) := by decide +kernel
theorem dX11_deal_29 : decode cX11_deal 29 = .ok (.invokevirtual 182, 3) := by decide +kernel
theorem dX11_deal_32 : decode cX11_deal 32 = .ok (.ifCond .ne 11, 3) := by decide +kernel
theorem dX11_deal_35 : decode cX11_deal 35 = .ok (.aload_n 0, 1) := by decide +kernel
theorem dX11_deal_36 : decode cX11_deal 36 = .ok (.iconst 1, 1) := by decide +kernel
theorem dX11_deal_37 : decode cX11_deal 37 = .ok (.invokevirtual 265, 3) := by decide +kernel
theorem dX11_deal_40 : decode cX11_deal 40 = .ok (.pop, 1) := by decide +kernel
theorem dX11_deal_41 : decode cX11_deal 41 = .ok (.iconst (-1), 1) := by decide +kernel
theorem dX11_deal_42 : decode cX11_deal 42 = .ok (.ireturn, 1) := by decide +kernel
theorem dX11_deal_43 : decode cX11_deal 43 = .ok (.aload_n 0, 1) := by decide +kernel
theorem dX11_deal_44 : decode cX11_deal 44 = .ok (.aload_n 0, 1) := by decide +kernel
theorem dX11_deal_45 : decode cX11_deal 45 = .ok (.getfield 75, 3) := by decide +kernel
theorem dX11_deal_48 : decode cX11_deal 48 = .ok (.iconst (-1), 1) := by decide +kernel
theorem dX11_deal_49 : decode cX11_deal 49 = .ok (.if_icmp .ne 32, 3) := by decide +kernel
theorem dX11_deal_52 : decode cX11_deal 52 = .ok (.aload_n 0, 1) := by decide +kernel
theorem dX11_deal_53 : decode cX11_deal 53 = .ok (.getfield 186, 3) := by decide +kernel
theorem dX11_deal_56 : decode cX11_deal 56 = .ok (.iconst 2, 1) := by decide +kernel
theorem dX11_deal_57 : decode cX11_deal 57 = .ok (.if_icmp .lt 24, 3) := by decide +kernel
theorem dX11_deal_60 : decode cX11_deal 60 = .ok (.aload_n 0, 1) := by decide +kernel
theorem dX11_deal_61 : decode cX11_deal 61 = .ok (.getfield 186, 3) := by decide +kernel
theorem dX11_deal_64 : decode cX11_deal 64 = .ok (.iload_n 2, 1) := by decide +kernel
theorem dX11_deal_65 : decode cX11_deal 65 = .ok (.imul, 1) := by decide +kernel
theorem dX11_deal_66 : decode cX11_deal 66 = .ok (.bipush 8, 2) := by decide +kernel
theorem dX11_deal_68 : decode cX11_deal 68 = .ok (.aload_n 0, 1) := by decide +kernel
theorem dX11_deal_69 : decode cX11_deal 69 = .ok (.getfield 9, 3) := by decide +kernel
theorem dX11_deal_72 : decode cX11_deal 72 = .ok (.imul, 1) := by decide +kernel
theorem dX11_deal_73 : decode cX11_deal 73 = .ok (.aload_n 0, 1) := by decide +kernel
theorem dX11_deal_74 : decode cX11_deal 74 = .ok (.getfield 18, 3) := by decide +kernel
theorem dX11_deal_77 : decode cX11_deal 77 = .ok (.iadd, 1) := by decide +kernel
theorem dX11_deal_78 : decode cX11_deal 78 = .ok (.if_icmp .le 7, 3) := by decide +kernel
theorem dX11_deal_81 : decode cX11_deal 81 = .ok (.iconst 2, 1) := by decide +kernel
theorem dX11_deal_82 : decode cX11_deal 82 = .ok (.goto 4, 3) := by decide +kernel
theorem dX11_deal_85 : decode cX11_deal 85 = .ok (.iconst 0, 1) := by decide +kernel
theorem dX11_deal_86 : decode cX11_deal 86 = .ok (.invokevirtual 265, 3) := by decide +kernel
theorem dX11_deal_89 : decode cX11_deal 89 = .ok (.ifCond .eq 5, 3) := by decide +kernel
theorem dX11_deal_92 : decode cX11_deal 92 = .ok (.iconst (-1), 1) := by decide +kernel
theorem dX11_deal_93 : decode cX11_deal 93 = .ok (.ireturn, 1) := by decide +kernel
theorem dX11_deal_94 : decode cX11_deal 94 = .ok (.aload_n 0, 1) := by decide +kernel
theorem dX11_deal_95 : decode cX11_deal 95 = .ok (.invokevirtual 309, 3) := by decide +kernel
theorem dX11_deal_98 : decode cX11_deal 98 = .ok (.iconst 0, 1) := by decide +kernel
theorem dX11_deal_99 : decode cX11_deal 99 = .ok (.istore 4, 2) := by decide +kernel
theorem dX11_deal_101 : decode cX11_deal 101 = .ok (.iload 4, 2) := by decide +kernel
theorem dX11_deal_103 : decode cX11_deal 103 = .ok (.bipush 52, 2) := by decide +kernel
theorem dX11_deal_105 : decode cX11_deal 105 = .ok (.if_icmp .ge 33, 3) := by decide +kernel
theorem dX11_deal_108 : decode cX11_deal 108 = .ok (.aload_n 0, 1) := by decide +kernel
theorem dX11_deal_109 : decode cX11_deal 109 = .ok (.getfield 72, 3) := by decide +kernel
theorem dX11_deal_112 : decode cX11_deal 112 = .ok (.iload 4, 2) := by decide +kernel
theorem dX11_deal_114 : decode cX11_deal 114 = .ok (.iload 4, 2) := by decide +kernel
theorem dX11_deal_116 : decode cX11_deal 116 = .ok (.bipush 13, 2) := by decide +kernel
theorem dX11_deal_118 : decode cX11_deal 118 = .ok (.irem, 1) := by decide +kernel
theorem dX11_deal_119 : decode cX11_deal 119 = .ok (.aload_n 0, 1) := by decide +kernel
theorem dX11_deal_120 : decode cX11_deal 120 = .ok (.getfield 9, 3) := by decide +kernel
theorem dX11_deal_123 : decode cX11_deal 123 = .ok (.if_icmp .ge 7, 3) := by decide +kernel
theorem dX11_deal_126 : decode cX11_deal 126 = .ok (.iconst 2, 1) := by decide +kernel
theorem dX11_deal_127 : decode cX11_deal 127 = .ok (.goto 4, 3) := by decide +kernel
theorem dX11_deal_130 : decode cX11_deal 130 = .ok (.iconst 0, 1) := by decide +kernel
theorem dX11_deal_131 : decode cX11_deal 131 = .ok (.iastore, 1) := by decide +kernel
theorem dX11_deal_132 : decode cX11_deal 132 = .ok (.iinc 4 1, 3) := by decide +kernel
theorem dX11_deal_135 : decode cX11_deal 135 = .ok (.goto (-34), 3) := by decide +kernel
theorem dX11_deal_138 : decode cX11_deal 138 = .ok (.aload_n 0, 1) := by decide +kernel
theorem dX11_deal_139 : decode cX11_deal 139 = .ok (.getfield 72, 3) := by decide +kernel
theorem dX11_deal_142 : decode cX11_deal 142 = .ok (.bipush 52, 2) := by decide +kernel
theorem dX11_deal_144 : decode cX11_deal 144 = .ok (.aload_n 0, 1) := by decide +kernel
theorem dX11_deal_145 : decode cX11_deal 145 = .ok (.getfield 18, 3) := by decide +kernel
theorem dX11_deal_148 : decode cX11_deal 148 = .ok (.iastore, 1) := by decide +kernel
theorem dX11_deal_149 : decode cX11_deal 149 = .ok (.aload_n 0, 1) := by decide +kernel
theorem dX11_deal_150 : decode cX11_deal 150 = .ok (.iload_n 1, 1) := by decide +kernel
theorem dX11_deal_151 : decode cX11_deal 151 = .ok (.putfield 318, 3) := by decide +kernel
theorem dX11_deal_154 : decode cX11_deal 154 = .ok (.aload_n 0, 1) := by decide +kernel
theorem dX11_deal_155 : decode cX11_deal 155 = .ok (.iconst 0, 1) := by decide +kernel
theorem dX11_deal_156 : decode cX11_deal 156 = .ok (.putfield 322, 3) := by decide +kernel
theorem dX11_deal_159 : decode cX11_deal 159 = .ok (.iconst 0, 1) := by decide +kernel
theorem dX11_deal_160 : decode cX11_deal 160 = .ok (.istore 4, 2) := by decide +kernel
theorem dX11_deal_162 : decode cX11_deal 162 = .ok (.iload 4, 2) := by decide +kernel
theorem dX11_deal_164 : decode cX11_deal 164 = .ok (.sipush 208, 3) := by decide +kernel
theorem dX11_deal_167 : decode cX11_deal 167 = .ok (.if_icmp .ge 17, 3) := by decide +kernel
theorem dX11_deal_170 : decode cX11_deal 170 = .ok (.aload_n 0, 1) := by decide +kernel
theorem dX11_deal_171 : decode cX11_deal 171 = .ok (.getfield 60, 3) := by decide +kernel
theorem dX11_deal_174 : decode cX11_deal 174 = .ok (.iload 4, 2) := by decide +kernel
theorem dX11_deal_176 : decode cX11_deal 176 = .ok (.iconst 0, 1) := by decide +kernel
theorem dX11_deal_177 : decode cX11_deal 177 = .ok (.iastore, 1) := by decide +kernel
theorem dX11_deal_178 : decode cX11_deal 178 = .ok (.iinc 4 1, 3) := by decide +kernel
theorem dX11_deal_181 : decode cX11_deal 181 = .ok (.goto (-19), 3) := by decide +kernel
theorem dX11_deal_184 : decode cX11_deal 184 = .ok (.iconst 0, 1) := by decide +kernel
theorem dX11_deal_185 : decode cX11_deal 185 = .ok (.istore 4, 2) := by decide +kernel
theorem dX11_deal_187 : decode cX11_deal 187 = .ok (.iload 4, 2) := by decide +kernel
theorem dX11_deal_189 : decode cX11_deal 189 = .ok (.iconst 4, 1) := by decide +kernel
theorem dX11_deal_190 : decode cX11_deal 190 = .ok (.if_icmp .ge 41, 3) := by decide +kernel
theorem dX11_deal_193 : decode cX11_deal 193 = .ok (.aload_n 0, 1) := by decide +kernel
theorem dX11_deal_194 : decode cX11_deal 194 = .ok (.getfield 40, 3) := by decide +kernel
theorem dX11_deal_197 : decode cX11_deal 197 = .ok (.iload 4, 2) := by decide +kernel
theorem dX11_deal_199 : decode cX11_deal 199 = .ok (.iconst 0, 1) := by decide +kernel
theorem dX11_deal_200 : decode cX11_deal 200 = .ok (.bastore, 1) := by decide +kernel
theorem dX11_deal_201 : decode cX11_deal 201 = .ok (.aload_n 0, 1) := by decide +kernel
theorem dX11_deal_202 : decode cX11_deal 202 = .ok (.getfield 50, 3) := by decide +kernel
theorem dX11_deal_205 : decode cX11_deal 205 = .ok (.iload 4, 2) := by decide +kernel
theorem dX11_deal_207 : decode cX11_deal 207 = .ok (.lconst 0, 1) := by decide +kernel
theorem dX11_deal_208 : decode cX11_deal 208 = .ok (.lastore, 1) := by decide +kernel
theorem dX11_deal_209 : decode cX11_deal 209 = .ok (.aload_n 0, 1) := by decide +kernel
theorem dX11_deal_210 : decode cX11_deal 210 = .ok (.getfield 54, 3) := by decide +kernel
theorem dX11_deal_213 : decode cX11_deal 213 = .ok (.iload 4, 2) := by decide +kernel
theorem dX11_deal_215 : decode cX11_deal 215 = .ok (.iconst 0, 1) := by decide +kernel
theorem dX11_deal_216 : decode cX11_deal 216 = .ok (.bastore, 1) := by decide +kernel
theorem dX11_deal_217 : decode cX11_deal 217 = .ok (.aload_n 0, 1) := by decide +kernel
theorem dX11_deal_218 : decode cX11_deal 218 = .ok (.getfield 57, 3) := by decide +kernel
theorem dX11_deal_221 : decode cX11_deal 221 = .ok (.iload 4, 2) := by decide +kernel
theorem dX11_deal_223 : decode cX11_deal 223 = .ok (.iconst 0, 1) := by decide +kernel
theorem dX11_deal_224 : decode cX11_deal 224 = .ok (.iastore, 1) := by decide +kernel
theorem dX11_deal_225 : decode cX11_deal 225 = .ok (.iinc 4 1, 3) := by decide +kernel
theorem dX11_deal_228 : decode cX11_deal 228 = .ok (.goto (-41), 3) := by decide +kernel
theorem dX11_deal_231 : decode cX11_deal 231 = .ok (.iconst 0, 1) := by decide +kernel
theorem dX11_deal_232 : decode cX11_deal 232 = .ok (.istore 4, 2) := by decide +kernel
theorem dX11_deal_234 : decode cX11_deal 234 = .ok (.iload 4, 2) := by decide +kernel
theorem dX11_deal_236 : decode cX11_deal 236 = .ok (.aload_n 0, 1) := by decide +kernel
theorem dX11_deal_237 : decode cX11_deal 237 = .ok (.getfield 186, 3) := by decide +kernel
theorem dX11_deal_240 : decode cX11_deal 240 = .ok (.if_icmp .ge 39, 3) := by decide +kernel
theorem dX11_deal_243 : decode cX11_deal 243 = .ok (.aload_n 0, 1) := by decide +kernel
theorem dX11_deal_244 : decode cX11_deal 244 = .ok (.getfield 37, 3) := by decide +kernel
theorem dX11_deal_247 : decode cX11_deal 247 = .ok (.iload 4, 2) := by decide +kernel
theorem dX11_deal_249 : decode cX11_deal 249 = .ok (.iload_n 3, 1) := by decide +kernel
theorem dX11_deal_250 : decode cX11_deal 250 = .ok (.iastore, 1) := by decide +kernel
theorem dX11_deal_251 : decode cX11_deal 251 = .ok (.iconst 0, 1) := by decide +kernel
theorem dX11_deal_252 : decode cX11_deal 252 = .ok (.istore 5, 2) := by decide +kernel
theorem dX11_deal_254 : decode cX11_deal 254 = .ok (.iload 5, 2) := by decide +kernel
theorem dX11_deal_256 : decode cX11_deal 256 = .ok (.iload_n 2, 1) := by decide +kernel
theorem dX11_deal_257 : decode cX11_deal 257 = .ok (.if_icmp .ge 16, 3) := by decide +kernel
theorem dX11_deal_260 : decode cX11_deal 260 = .ok (.aload_n 0, 1) := by decide +kernel
theorem dX11_deal_261 : decode cX11_deal 261 = .ok (.iload 4, 2) := by decide +kernel
theorem dX11_deal_263 : decode cX11_deal 263 = .ok (.invokevirtual 325, 3) := by decide +kernel
theorem dX11_deal_266 : decode cX11_deal 266 = .ok (.pop, 1) := by decide +kernel
theorem dX11_deal_267 : decode cX11_deal 267 = .ok (.iinc 5 1, 3) := by decide +kernel
theorem dX11_deal_270 : decode cX11_deal 270 = .ok (.goto (-16), 3) := by decide +kernel
theorem dX11_deal_273 : decode cX11_deal 273 = .ok (.iinc 4 1, 3) := by decide +kernel
theorem dX11_deal_276 : decode cX11_deal 276 = .ok (.goto (-42), 3) := by decide +kernel
theorem dX11_deal_279 : decode cX11_deal 279 = .ok (.aload_n 0, 1) := by decide +kernel
theorem dX11_deal_280 : decode cX11_deal 280 = .ok (.iconst 0, 1) := by decide +kernel
theorem dX11_deal_281 : decode cX11_deal 281 = .ok (.putfield 75, 3) := by decide +kernel
theorem dX11_deal_284 : decode cX11_deal 284 = .ok (.aload_n 0, 1) := by decide +kernel
theorem dX11_deal_285 : decode cX11_deal 285 = .ok (.invokevirtual 312, 3) := by decide +kernel
theorem dX11_deal_288 : decode cX11_deal 288 = .ok (.ireturn, 1) := by decide +kernel
theorem dX11_enter_0 : decode cX11_enter 0 = .ok (.aload_n 0, 1) := by decide +kernel
theorem dX11_enter_1 : decode cX11_enter 1 = .ok (.getfield 88, 3) := by decide +kernel
theorem dX11_enter_4 : decode cX11_enter 4 = .ok (.iconst 4, 1) := by decide +kernel
theorem dX11_enter_5 : decode cX11_enter 5 = .ok (.aload_n 0, 1) := by decide +kernel
theorem dX11_enter_6 : decode cX11_enter 6 = .ok (.getfield 306, 3) := by decide +kernel
theorem dX11_enter_9 : decode cX11_enter 9 = .ok (.imul, 1) := by decide +kernel
theorem dX11_enter_10 : decode cX11_enter 10 = .ok (.iload_n 1, 1) := by decide +kernel
theorem dX11_enter_11 : decode cX11_enter 11 = .ok (.iastore, 1) := by decide +kernel
theorem dX11_enter_12 : decode cX11_enter 12 = .ok (.aload_n 0, 1) := by decide +kernel
theorem dX11_enter_13 : decode cX11_enter 13 = .ok (.getfield 88, 3) := by decide +kernel
theorem dX11_enter_16 : decode cX11_enter 16 = .ok (.iconst 4, 1) := by decide +kernel
theorem dX11_enter_17 : decode cX11_enter 17 = .ok (.aload_n 0, 1) := by decide +kernel
theorem dX11_enter_18 : decode cX11_enter 18 = .ok (.getfield 306, 3) := by decide +kernel
theorem dX11_enter_21 : decode cX11_enter 21 = .ok (.imul, 1) := by decide +kernel
theorem dX11_enter_22 : decode cX11_enter 22 = .ok (.iconst 1, 1) := by decide +kernel
theorem dX11_enter_23 : decode cX11_enter 23 = .ok (.iadd, 1) := by decide +kernel
theorem dX11_enter_24 : decode cX11_enter 24 = .ok (.iload_n 2, 1) := by decide +kernel
theorem dX11_enter_25 : decode cX11_enter 25 = .ok (.iastore, 1) := by decide +kernel
theorem dX11_enter_26 : decode cX11_enter 26 = .ok (.aload_n 0, 1) := by decide +kernel
theorem dX11_enter_27 : decode cX11_enter 27 = .ok (.getfield 88, 3) := by decide +kernel
theorem dX11_enter_30 : decode cX11_enter 30 = .ok (.iconst 4, 1) := by decide +kernel
theorem dX11_enter_31 : decode cX11_enter 31 = .ok (.aload_n 0, 1) := by decide +kernel
theorem dX11_enter_32 : decode cX11_enter 32 = .ok (.getfield 306, 3) := by decide +kernel
theorem dX11_enter_35 : decode cX11_enter 35 = .ok (.imul, 1) := by decide +kernel
theorem dX11_enter_36 : decode cX11_enter 36 = .ok (.iconst 2, 1) := by decide +kernel
theorem dX11_enter_37 : decode cX11_enter 37 = .ok (.iadd, 1) := by decide +kernel
theorem dX11_enter_38 : decode cX11_enter 38 = .ok (.iload_n 3, 1) := by decide +kernel
theorem dX11_enter_39 : decode cX11_enter 39 = .ok (.iastore, 1) := by decide +kernel
theorem dX11_enter_40 : decode cX11_enter 40 = .ok (.aload_n 0, 1) := by decide +kernel
theorem dX11_enter_41 : decode cX11_enter 41 = .ok (.getfield 88, 3) := by decide +kernel
theorem dX11_enter_44 : decode cX11_enter 44 = .ok (.iconst 4, 1) := by decide +kernel
theorem dX11_enter_45 : decode cX11_enter 45 = .ok (.aload_n 0, 1) := by decide +kernel
theorem dX11_enter_46 : decode cX11_enter 46 = .ok (.getfield 306, 3) := by decide +kernel
theorem dX11_enter_49 : decode cX11_enter 49 = .ok (.imul, 1) := by decide +kernel
theorem dX11_enter_50 : decode cX11_enter 50 = .ok (.iconst 3, 1) := by decide +kernel
theorem dX11_enter_51 : decode cX11_enter 51 = .ok (.iadd, 1) := by decide +kernel
theorem dX11_enter_52 : decode cX11_enter 52 = .ok (.iload 4, 2) := by decide +kernel
theorem dX11_enter_54 : decode cX11_enter 54 = .ok (.iastore, 1) := by decide +kernel
theorem dX11_enter_55 : decode cX11_enter 55 = .ok (.aload_n 0, 1) := by decide +kernel
theorem dX11_enter_56 : decode cX11_enter 56 = .ok (.dup, 1) := by decide +kernel
theorem dX11_enter_57 : decode cX11_enter 57 = .ok (.getfield 306, 3) := by decide +kernel
theorem dX11_enter_60 : decode cX11_enter 60 = .ok (.iconst 1, 1) := by decide +kernel
theorem dX11_enter_61 : decode cX11_enter 61 = .ok (.iadd, 1) := by decide +kernel
theorem dX11_enter_62 : decode cX11_enter 62 = .ok (.putfield 306, 3) := by decide +kernel
theorem dX11_enter_65 : decode cX11_enter 65 = .ok (.return_, 1) := by decide +kernel
theorem dX11_thing_0 : decode cX11_thing 0 = .ok (.aload_n 0, 1) := by decide +kernel
theorem dX11_thing_1 : decode cX11_thing 1 = .ok (.getfield 81, 3) := by decide +kernel
theorem dX11_thing_4 : decode cX11_thing 4 = .ok (.aload_n 0, 1) := by decide +kernel
theorem dX11_thing_5 : decode cX11_thing 5 = .ok (.getfield 303, 3) := by decide +kernel
theorem dX11_thing_8 : decode cX11_thing 8 = .ok (.iload_n 1, 1) := by decide +kernel
theorem dX11_thing_9 : decode cX11_thing 9 = .ok (.iastore, 1) := by decide +kernel
theorem dX11_thing_10 : decode cX11_thing 10 = .ok (.aload_n 0, 1) := by decide +kernel
theorem dX11_thing_11 : decode cX11_thing 11 = .ok (.getfield 84, 3) := by decide +kernel
theorem dX11_thing_14 : decode cX11_thing 14 = .ok (.aload_n 0, 1) := by decide +kernel
theorem dX11_thing_15 : decode cX11_thing 15 = .ok (.getfield 303, 3) := by decide +kernel
theorem dX11_thing_18 : decode cX11_thing 18 = .ok (.iload_n 2, 1) := by decide +kernel
theorem dX11_thing_19 : decode cX11_thing 19 = .ok (.iastore, 1) := by decide +kernel
theorem dX11_thing_20 : decode cX11_thing 20 = .ok (.aload_n 0, 1) := by decide +kernel
theorem dX11_thing_21 : decode cX11_thing 21 = .ok (.dup, 1) := by decide +kernel
theorem dX11_thing_22 : decode cX11_thing 22 = .ok (.getfield 303, 3) := by decide +kernel
theorem dX11_thing_25 : decode cX11_thing 25 = .ok (.iconst 1, 1) := by decide +kernel
theorem dX11_thing_26 : decode cX11_thing 26 = .ok (.iadd, 1) := by decide +kernel
theorem dX11_thing_27 : decode cX11_thing 27 = .ok (.putfield 303, 3) := by decide +kernel
theorem dX11_thing_30 : decode cX11_thing 30 = .ok (.aload_n 0, 1) := by decide +kernel
theorem dX11_thing_31 : decode cX11_thing 31 = .ok (.iload_n 1, 1) := by decide +kernel
theorem dX11_thing_32 : decode cX11_thing 32 = .ok (.iconst 4, 1) := by decide +kernel
theorem dX11_thing_33 : decode cX11_thing 33 = .ok (.if_icmp .ne 7, 3) := by decide +kernel
theorem dX11_thing_36 : decode cX11_thing 36 = .ok (.iconst 2, 1) := by decide +kernel
theorem dX11_thing_37 : decode cX11_thing 37 = .ok (.goto 4, 3) := by decide +kernel
theorem dX11_thing_40 : decode cX11_thing 40 = .ok (.iload_n 1, 1) := by decide +kernel
theorem dX11_thing_41 : decode cX11_thing 41 = .ok (.aload_n 0, 1) := by decide +kernel
theorem dX11_thing_42 : decode cX11_thing 42 = .ok (.getfield 75, 3) := by decide +kernel
theorem dX11_thing_45 : decode cX11_thing 45 = .ok (.iload_n 2, 1) := by decide +kernel
theorem dX11_thing_46 : decode cX11_thing 46 = .ok (.iconst 0, 1) := by decide +kernel
theorem dX11_thing_47 : decode cX11_thing 47 = .ok (.invokevirtual 328, 3) := by decide +kernel
theorem dX11_thing_50 : decode cX11_thing 50 = .ok (.return_, 1) := by decide +kernel
theorem dX11_isFull_0 : decode cX11_isFull 0 = .ok (.aload_n 0, 1) := by decide +kernel
theorem dX11_isFull_1 : decode cX11_isFull 1 = .ok (.getfield 66, 3) := by decide +kernel
theorem dX11_isFull_4 : decode cX11_isFull 4 = .ok (.iload_n 1, 1) := by decide +kernel
theorem dX11_isFull_5 : decode cX11_isFull 5 = .ok (.iaload, 1) := by decide +kernel
theorem dX11_isFull_6 : decode cX11_isFull 6 = .ok (.aload_n 0, 1) := by decide +kernel
theorem dX11_isFull_7 : decode cX11_isFull 7 = .ok (.getfield 69, 3) := by decide +kernel
theorem dX11_isFull_10 : decode cX11_isFull 10 = .ok (.iload_n 1, 1) := by decide +kernel
theorem dX11_isFull_11 : decode cX11_isFull 11 = .ok (.iaload, 1) := by decide +kernel
theorem dX11_isFull_12 : decode cX11_isFull 12 = .ok (.iadd, 1) := by decide +kernel
theorem dX11_isFull_13 : decode cX11_isFull 13 = .ok (.iconst 2, 1) := by decide +kernel
theorem dX11_isFull_14 : decode cX11_isFull 14 = .ok (.if_icmp .lt 7, 3) := by decide +kernel
theorem dX11_isFull_17 : decode cX11_isFull 17 = .ok (.iconst 1, 1) := by decide +kernel
theorem dX11_isFull_18 : decode cX11_isFull 18 = .ok (.goto 4, 3) := by decide +kernel
theorem dX11_isFull_21 : decode cX11_isFull 21 = .ok (.iconst 0, 1) := by decide +kernel
theorem dX11_isFull_22 : decode cX11_isFull 22 = .ok (.ireturn, 1) := by decide +kernel
theorem dX11_lays_0 : decode cX11_lays 0 = .ok (.aload_n 0, 1) := by decide +kernel
theorem dX11_lays_1 : decode cX11_lays 1 = .ok (.getfield 75, 3) := by decide +kernel
theorem dX11_lays_4 : decode cX11_lays 4 = .ok (.iconst (-1), 1) := by decide +kernel
theorem dX11_lays_5 : decode cX11_lays 5 = .ok (.if_icmp .eq 28, 3) := by decide +kernel
theorem dX11_lays_8 : decode cX11_lays 8 = .ok (.aload_n 0, 1) := by decide +kernel
theorem dX11_lays_9 : decode cX11_lays 9 = .ok (.getfield 63, 3) := by decide +kernel
theorem dX11_lays_12 : decode cX11_lays 12 = .ok (.bipush 53, 2) := by decide +kernel
theorem dX11_lays_14 : decode cX11_lays 14 = .ok (.aload_n 0, 1) := by decide +kernel
theorem dX11_lays_15 : decode cX11_lays 15 = .ok (.getfield 75, 3) := by decide +kernel
theorem dX11_lays_18 : decode cX11_lays 18 = .ok (.imul, 1) := by decide +kernel
theorem dX11_lays_19 : decode cX11_lays 19 = .ok (.iload_n 1, 1) := by decide +kernel
theorem dX11_lays_20 : decode cX11_lays 20 = .ok (.iadd, 1) := by decide +kernel
theorem dX11_lays_21 : decode cX11_lays 21 = .ok (.iaload, 1) := by decide +kernel
theorem dX11_lays_22 : decode cX11_lays 22 = .ok (.ifCond .eq 11, 3) := by decide +kernel
theorem dX11_lays_25 : decode cX11_lays 25 = .ok (.aload_n 0, 1) := by decide +kernel
theorem dX11_lays_26 : decode cX11_lays 26 = .ok (.iload_n 1, 1) := by decide +kernel
theorem dX11_lays_27 : decode cX11_lays 27 = .ok (.invokevirtual 332, 3) := by decide +kernel
theorem dX11_lays_30 : decode cX11_lays 30 = .ok (.ifCond .eq 5, 3) := by decide +kernel
theorem dX11_lays_33 : decode cX11_lays 33 = .ok (.iconst 0, 1) := by decide +kernel
theorem dX11_lays_34 : decode cX11_lays 34 = .ok (.ireturn, 1) := by decide +kernel
theorem dX11_lays_35 : decode cX11_lays 35 = .ok (.aload_n 0, 1) := by decide +kernel
theorem dX11_lays_36 : decode cX11_lays 36 = .ok (.getfield 63, 3) := by decide +kernel
theorem dX11_lays_39 : decode cX11_lays 39 = .ok (.bipush 53, 2) := by decide +kernel
theorem dX11_lays_41 : decode cX11_lays 41 = .ok (.aload_n 0, 1) := by decide +kernel
theorem dX11_lays_42 : decode cX11_lays 42 = .ok (.getfield 75, 3) := by decide +kernel
theorem dX11_lays_45 : decode cX11_lays 45 = .ok (.imul, 1) := by decide +kernel
theorem dX11_lays_46 : decode cX11_lays 46 = .ok (.iload_n 1, 1) := by decide +kernel
theorem dX11_lays_47 : decode cX11_lays 47 = .ok (.iadd, 1) := by decide +kernel
theorem dX11_lays_48 : decode cX11_lays 48 = .ok (.dup2, 1) := by decide +kernel
theorem dX11_lays_49 : decode cX11_lays 49 = .ok (.iaload, 1) := by decide +kernel
theorem dX11_lays_50 : decode cX11_lays 50 = .ok (.iconst 1, 1) := by decide +kernel
theorem dX11_lays_51 : decode cX11_lays 51 = .ok (.isub, 1) := by decide +kernel
theorem dX11_lays_52 : decode cX11_lays 52 = .ok (.iastore, 1) := by decide +kernel
theorem dX11_lays_53 : decode cX11_lays 53 = .ok (.aload_n 0, 1) := by decide +kernel
theorem dX11_lays_54 : decode cX11_lays 54 = .ok (.getfield 66, 3) := by decide +kernel
theorem dX11_lays_57 : decode cX11_lays 57 = .ok (.iload_n 1, 1) := by decide +kernel
theorem dX11_lays_58 : decode cX11_lays 58 = .ok (.dup2, 1) := by decide +kernel
theorem dX11_lays_59 : decode cX11_lays 59 = .ok (.iaload, 1) := by decide +kernel
theorem dX11_lays_60 : decode cX11_lays 60 = .ok (.iconst 1, 1) := by decide +kernel
theorem dX11_lays_61 : decode cX11_lays 61 = .ok (.iadd, 1) := by decide +kernel
theorem dX11_lays_62 : decode cX11_lays 62 = .ok (.iastore, 1) := by decide +kernel
theorem dX11_lays_63 : decode cX11_lays 63 = .ok (.aload_n 0, 1) := by decide +kernel
theorem dX11_lays_64 : decode cX11_lays 64 = .ok (.iconst 1, 1) := by decide +kernel
theorem dX11_lays_65 : decode cX11_lays 65 = .ok (.iload_n 1, 1) := by decide +kernel
theorem dX11_lays_66 : decode cX11_lays 66 = .ok (.invokevirtual 335, 3) := by decide +kernel
theorem dX11_lays_69 : decode cX11_lays 69 = .ok (.iconst 1, 1) := by decide +kernel
theorem dX11_lays_70 : decode cX11_lays 70 = .ok (.ireturn, 1) := by decide +kernel
theorem dX11_lay_0 : decode cX11_lay 0 = .ok (.aload_n 0, 1) := by decide +kernel
theorem dX11_lay_1 : decode cX11_lay 1 = .ok (.aload_n 0, 1) := by decide +kernel
theorem dX11_lay_2 : decode cX11_lay 2 = .ok (.iload_n 1, 1) := by decide +kernel
theorem dX11_lay_3 : decode cX11_lay 3 = .ok (.invokevirtual 294, 3) := by decide +kernel
theorem dX11_lay_6 : decode cX11_lay 6 = .ok (.ifCond .ne 7, 3) := by decide +kernel
theorem dX11_lay_9 : decode cX11_lay 9 = .ok (.iconst 1, 1) := by decide +kernel
theorem dX11_lay_10 : decode cX11_lay 10 = .ok (.goto 16, 3) := by decide +kernel
theorem dX11_lay_13 : decode cX11_lay 13 = .ok (.aload_n 0, 1) := by decide +kernel
theorem dX11_lay_14 : decode cX11_lay 14 = .ok (.iload_n 1, 1) := by decide +kernel
theorem dX11_lay_15 : decode cX11_lay 15 = .ok (.invokevirtual 338, 3) := by decide +kernel
theorem dX11_lay_18 : decode cX11_lay 18 = .ok (.ifCond .eq 7, 3) := by decide +kernel
theorem dX11_lay_21 : decode cX11_lay 21 = .ok (.iconst 0, 1) := by decide +kernel
theorem dX11_lay_22 : decode cX11_lay 22 = .ok (.goto 4, 3) := by decide +kernel
theorem dX11_lay_25 : decode cX11_lay 25 = .ok (.iconst 2, 1) := by decide +kernel
theorem dX11_lay_26 : decode cX11_lay 26 = .ok (.invokevirtual 265, 3) := by decide +kernel
theorem dX11_lay_29 : decode cX11_lay 29 = .ok (.ifCond .eq 5, 3) := by decide +kernel
theorem dX11_lay_32 : decode cX11_lay 32 = .ok (.iconst (-1), 1) := by decide +kernel
theorem dX11_lay_33 : decode cX11_lay 33 = .ok (.ireturn, 1) := by decide +kernel
theorem dX11_lay_34 : decode cX11_lay 34 = .ok (.aload_n 0, 1) := by decide +kernel
theorem dX11_lay_35 : decode cX11_lay 35 = .ok (.getfield 66, 3) := by decide +kernel
theorem dX11_lay_38 : decode cX11_lay 38 = .ok (.iload_n 1, 1) := by decide +kernel
theorem dX11_lay_39 : decode cX11_lay 39 = .ok (.iaload, 1) := by decide +kernel
theorem dX11_lay_40 : decode cX11_lay 40 = .ok (.aload_n 0, 1) := by decide +kernel
theorem dX11_lay_41 : decode cX11_lay 41 = .ok (.getfield 69, 3) := by decide +kernel
theorem dX11_lay_44 : decode cX11_lay 44 = .ok (.iload_n 1, 1) := by decide +kernel
theorem dX11_lay_45 : decode cX11_lay 45 = .ok (.iaload, 1) := by decide +kernel
theorem dX11_lay_46 : decode cX11_lay 46 = .ok (.iadd, 1) := by decide +kernel
theorem dX11_lay_47 : decode cX11_lay 47 = .ok (.ireturn, 1) := by decide +kernel
theorem dX11_laysJoker_0 : decode cX11_laysJoker 0 = .ok (.aload_n 0, 1) := by decide +kernel
theorem dX11_laysJoker_1 : decode cX11_laysJoker 1 = .ok (.getfield 75, 3) := by decide +kernel
theorem dX11_laysJoker_4 : decode cX11_laysJoker 4 = .ok (.iconst (-1), 1) := by decide +kernel
theorem dX11_laysJoker_5 : decode cX11_laysJoker 5 = .ok (.if_icmp .eq 36, 3) := by decide +kernel
theorem dX11_laysJoker_8 : decode cX11_laysJoker 8 = .ok (.aload_n 0, 1) := by decide +kernel
theorem dX11_laysJoker_9 : decode cX11_laysJoker 9 = .ok (.getfield 300, 3) := by decide +kernel
theorem dX11_laysJoker_12 : decode cX11_laysJoker 12 = .ok (.ifCond .ne 21, 3) := by decide +kernel
theorem dX11_laysJoker_15 : decode cX11_laysJoker 15 = .ok (.aload_n 0, 1) := by decide +kernel
theorem dX11_laysJoker_16 : decode cX11_laysJoker 16 = .ok (.getfield 63, 3) := by decide +kernel
theorem dX11_laysJoker_19 : decode cX11_laysJoker 19 = .ok (.bipush 53, 2) := by decide +kernel
theorem dX11_laysJoker_21 : decode cX11_laysJoker 21 = .ok (.aload_n 0, 1) := by decide +kernel
theorem dX11_laysJoker_22 : decode cX11_laysJoker 22 = .ok (.getfield 75, 3) := by decide +kernel
theorem dX11_laysJoker_25 : decode cX11_laysJoker 25 = .ok (.imul, 1) := by decide +kernel
theorem dX11_laysJoker_26 : decode cX11_laysJoker 26 = .ok (.bipush 52, 2) := by decide +kernel
theorem dX11_laysJoker_28 : decode cX11_laysJoker 28 = .ok (.iadd, 1) := by decide +kernel
theorem dX11_laysJoker_29 : decode cX11_laysJoker 29 = .ok (.iaload, 1) := by decide +kernel
theorem dX11_laysJoker_30 : decode cX11_laysJoker 30 = .ok (.ifCond .eq 11, 3) := by decide +kernel
theorem dX11_laysJoker_33 : decode cX11_laysJoker 33 = .ok (.aload_n 0, 1) := by decide +kernel
theorem dX11_laysJoker_34 : decode cX11_laysJoker 34 = .ok (.iload_n 1, 1) := by decide +kernel
theorem dX11_laysJoker_35 : decode cX11_laysJoker 35 = .ok (.invokevirtual 332, 3) := by decide +kernel
theorem dX11_laysJoker_38 : decode cX11_laysJoker 38 = .ok (.ifCond .eq 5, 3) := by decide +kernel
theorem dX11_laysJoker_41 : decode cX11_laysJoker 41 = .ok (.iconst 0, 1) := by decide +kernel
theorem dX11_laysJoker_42 : decode cX11_laysJoker 42 = .ok (.ireturn, 1) := by decide +kernel
theorem dX11_laysJoker_43 : decode cX11_laysJoker 43 = .ok (.aload_n 0, 1) := by decide +kernel
theorem dX11_laysJoker_44 : decode cX11_laysJoker 44 = .ok (.getfield 300, 3) := by decide +kernel
theorem dX11_laysJoker_47 : decode cX11_laysJoker 47 = .ok (.ifCond .le 7, 3) := by decide +kernel
theorem dX11_laysJoker_50 : decode cX11_laysJoker 50 = .ok (.iconst 1, 1) := by decide +kernel
theorem dX11_laysJoker_51 : decode cX11_laysJoker 51 = .ok (.goto 4, 3) := by decide +kernel
theorem dX11_laysJoker_54 : decode cX11_laysJoker 54 = .ok (.iconst 0, 1) := by decide +kernel
theorem dX11_laysJoker_55 : decode cX11_laysJoker 55 = .ok (.istore_n 2, 1) := by decide +kernel
theorem dX11_laysJoker_56 : decode cX11_laysJoker 56 = .ok (.iload_n 2, 1) := by decide +kernel
theorem dX11_laysJoker_57 : decode cX11_laysJoker 57 = .ok (.ifCond .eq 16, 3) := by decide +kernel
theorem dX11_laysJoker_60 : decode cX11_laysJoker 60 = .ok (.aload_n 0, 1) := by decide +kernel
theorem dX11_laysJoker_61 : decode cX11_laysJoker 61 = .ok (.dup, 1) := by decide +kernel
theorem dX11_laysJoker_62 : decode cX11_laysJoker 62 = .ok (.getfield 300, 3) := by decide +kernel
theorem dX11_laysJoker_65 : decode cX11_laysJoker 65 = .ok (.iconst 1, 1) := by decide +kernel
theorem dX11_laysJoker_66 : decode cX11_laysJoker 66 = .ok (.isub, 1) := by decide +kernel
theorem dX11_laysJoker_67 : decode cX11_laysJoker 67 = .ok (.putfield 300, 3) := by decide +kernel
theorem dX11_laysJoker_70 : decode cX11_laysJoker 70 = .ok (.goto 22, 3) := by decide +kernel
theorem dX11_laysJoker_73 : decode cX11_laysJoker 73 = .ok (.aload_n 0, 1) := by decide +kernel
theorem dX11_laysJoker_74 : decode cX11_laysJoker 74 = .ok (.getfield 63, 3) := by decide +kernel
theorem dX11_laysJoker_77 : decode cX11_laysJoker 77 = .ok (.bipush 53, 2) := by decide +kernel
theorem dX11_laysJoker_79 : decode cX11_laysJoker 79 = .ok (.aload_n 0, 1) := by decide +kernel
theorem dX11_laysJoker_80 : decode cX11_laysJoker 80 = .ok (.getfield 75, 3) := by decide +kernel
theorem dX11_laysJoker_83 : decode cX11_laysJoker 83 = .ok (.imul, 1) := by decide +kernel
theorem dX11_laysJoker_84 : decode cX11_laysJoker 84 = .ok (.bipush 52, 2) := by decide +kernel
theorem dX11_laysJoker_86 : decode cX11_laysJoker 86 = .ok (.iadd, 1) := by decide +kernel
theorem dX11_laysJoker_87 : decode cX11_laysJoker 87 = .ok (.dup2, 1) := by decide +kernel
theorem dX11_laysJoker_88 : decode cX11_laysJoker 88 = .ok (.iaload, 1) := by decide +kernel
theorem dX11_laysJoker_89 : decode cX11_laysJoker 89 = .ok (.iconst 1, 1) := by decide +kernel
theorem dX11_laysJoker_90 : decode cX11_laysJoker 90 = .ok (.isub, 1) := by decide +kernel
theorem dX11_laysJoker_91 : decode cX11_laysJoker 91 = .ok (.iastore, 1) := by decide +kernel
theorem dX11_laysJoker_92 : decode cX11_laysJoker 92 = .ok (.aload_n 0, 1) := by decide +kernel
theorem dX11_laysJoker_93 : decode cX11_laysJoker 93 = .ok (.getfield 69, 3) := by decide +kernel
theorem dX11_laysJoker_96 : decode cX11_laysJoker 96 = .ok (.iload_n 1, 1) := by decide +kernel
theorem dX11_laysJoker_97 : decode cX11_laysJoker 97 = .ok (.dup2, 1) := by decide +kernel
theorem dX11_laysJoker_98 : decode cX11_laysJoker 98 = .ok (.iaload, 1) := by decide +kernel
theorem dX11_laysJoker_99 : decode cX11_laysJoker 99 = .ok (.iconst 1, 1) := by decide +kernel
theorem dX11_laysJoker_100 : decode cX11_laysJoker 100 = .ok (.iadd, 1) := by decide +kernel
theorem dX11_laysJoker_101 : decode cX11_laysJoker 101 = .ok (.iastore, 1) := by decide +kernel
theorem dX11_laysJoker_102 : decode cX11_laysJoker 102 = .ok (.aload_n 0, 1) := by decide +kernel
theorem dX11_laysJoker_103 : decode cX11_laysJoker 103 = .ok (.iload_n 2, 1) := by decide +kernel
theorem dX11_laysJoker_104 : decode cX11_laysJoker 104 = .ok (.ifCond .eq 7, 3) := by decide +kernel
theorem dX11_laysJoker_107 : decode cX11_laysJoker 107 = .ok (.iconst 4, 1) := by decide +kernel
theorem dX11_laysJoker_108 : decode cX11_laysJoker 108 = .ok (.goto 4, 3) := by decide +kernel
theorem dX11_laysJoker_111 : decode cX11_laysJoker 111 = .ok (.iconst 2, 1) := by decide +kernel
theorem dX11_laysJoker_112 : decode cX11_laysJoker 112 = .ok (.iload_n 1, 1) := by decide +kernel
theorem dX11_laysJoker_113 : decode cX11_laysJoker 113 = .ok (.invokevirtual 335, 3) := by decide +kernel
theorem dX11_laysJoker_116 : decode cX11_laysJoker 116 = .ok (.iconst 1, 1) := by decide +kernel
theorem dX11_laysJoker_117 : decode cX11_laysJoker 117 = .ok (.ireturn, 1) := by decide +kernel
theorem dX11_jokersLaid_0 : decode cX11_jokersLaid 0 = .ok (.iconst 0, 1) := by decide +kernel
theorem dX11_jokersLaid_1 : decode cX11_jokersLaid 1 = .ok (.istore_n 1, 1) := by decide +kernel
theorem dX11_jokersLaid_2 : decode cX11_jokersLaid 2 = .ok (.iconst 0, 1) := by decide +kernel
theorem dX11_jokersLaid_3 : decode cX11_jokersLaid 3 = .ok (.istore_n 2, 1) := by decide +kernel
theorem dX11_jokersLaid_4 : decode cX11_jokersLaid 4 = .ok (.iload_n 2, 1) := by decide +kernel
theorem dX11_jokersLaid_5 : decode cX11_jokersLaid 5 = .ok (.bipush 52, 2) := by decide +kernel
theorem dX11_jokersLaid_7 : decode cX11_jokersLaid 7 = .ok (.if_icmp .ge 18, 3) := by decide +kernel
theorem dX11_jokersLaid_10 : decode cX11_jokersLaid 10 = .ok (.iload_n 1, 1) := by decide +kernel
theorem dX11_jokersLaid_11 : decode cX11_jokersLaid 11 = .ok (.aload_n 0, 1) := by decide +kernel
theorem dX11_jokersLaid_12 : decode cX11_jokersLaid 12 = .ok (.getfield 69, 3) := by decide +kernel
theorem dX11_jokersLaid_15 : decode cX11_jokersLaid 15 = .ok (.iload_n 2, 1) := by decide +kernel
theorem dX11_jokersLaid_16 : decode cX11_jokersLaid 16 = .ok (.iaload, 1) := by decide +kernel
theorem dX11_jokersLaid_17 : decode cX11_jokersLaid 17 = .ok (.iadd, 1) := by decide +kernel
theorem dX11_jokersLaid_18 : decode cX11_jokersLaid 18 = .ok (.istore_n 1, 1) := by decide +kernel
theorem dX11_jokersLaid_19 : decode cX11_jokersLaid 19 = .ok (.iinc 2 1, 3) := by decide +kernel
theorem dX11_jokersLaid_22 : decode cX11_jokersLaid 22 = .ok (.goto (-18), 3) := by decide +kernel
theorem dX11_jokersLaid_25 : decode cX11_jokersLaid 25 = .ok (.iload_n 1, 1) := by decide +kernel
theorem dX11_jokersLaid_26 : decode cX11_jokersLaid 26 = .ok (.ireturn, 1) := by decide +kernel
theorem dX11_joker_0 : decode cX11_joker 0 = .ok (.aload_n 0, 1) := by decide +kernel
theorem dX11_joker_1 : decode cX11_joker 1 = .ok (.aload_n 0, 1) := by decide +kernel
theorem dX11_joker_2 : decode cX11_joker 2 = .ok (.iload_n 1, 1) := by decide +kernel
theorem dX11_joker_3 : decode cX11_joker 3 = .ok (.invokevirtual 294, 3) := by decide +kernel
theorem dX11_joker_6 : decode cX11_joker 6 = .ok (.ifCond .ne 7, 3) := by decide +kernel
theorem dX11_joker_9 : decode cX11_joker 9 = .ok (.iconst 1, 1) := by decide +kernel
theorem dX11_joker_10 : decode cX11_joker 10 = .ok (.goto 16, 3) := by decide +kernel
theorem dX11_joker_13 : decode cX11_joker 13 = .ok (.aload_n 0, 1) := by decide +kernel
theorem dX11_joker_14 : decode cX11_joker 14 = .ok (.iload_n 1, 1) := by decide +kernel
theorem dX11_joker_15 : decode cX11_joker 15 = .ok (.invokevirtual 341, 3) := by decide +kernel
theorem dX11_joker_18 : decode cX11_joker 18 = .ok (.ifCond .eq 7, 3) := by decide +kernel
theorem dX11_joker_21 : decode cX11_joker 21 = .ok (.iconst 0, 1) := by decide +kernel
theorem dX11_joker_22 : decode cX11_joker 22 = .ok (.goto 4, 3) := by decide +kernel
theorem dX11_joker_25 : decode cX11_joker 25 = .ok (.iconst 2, 1) := by decide +kernel
theorem dX11_joker_26 : decode cX11_joker 26 = .ok (.invokevirtual 265, 3) := by decide +kernel
theorem dX11_joker_29 : decode cX11_joker 29 = .ok (.ifCond .eq 5, 3) := by decide +kernel
theorem dX11_joker_32 : decode cX11_joker 32 = .ok (.iconst (-1), 1) := by decide +kernel
theorem dX11_joker_33 : decode cX11_joker 33 = .ok (.ireturn, 1) := by decide +kernel
theorem dX11_joker_34 : decode cX11_joker 34 = .ok (.aload_n 0, 1) := by decide +kernel
theorem dX11_joker_35 : decode cX11_joker 35 = .ok (.invokevirtual 344, 3) := by decide +kernel
theorem dX11_joker_38 : decode cX11_joker 38 = .ok (.ireturn, 1) := by decide +kernel
theorem dX11_swaps_0 : decode cX11_swaps 0 = .ok (.aload_n 0, 1) := by decide +kernel
theorem dX11_swaps_1 : decode cX11_swaps 1 = .ok (.getfield 75, 3) := by decide +kernel
theorem dX11_swaps_4 : decode cX11_swaps 4 = .ok (.iconst (-1), 1) := by decide +kernel
theorem dX11_swaps_5 : decode cX11_swaps 5 = .ok (.if_icmp .eq 41, 3) := by decide +kernel
theorem dX11_swaps_8 : decode cX11_swaps 8 = .ok (.aload_n 0, 1) := by decide +kernel
theorem dX11_swaps_9 : decode cX11_swaps 9 = .ok (.getfield 40, 3) := by decide +kernel
theorem dX11_swaps_12 : decode cX11_swaps 12 = .ok (.aload_n 0, 1) := by decide +kernel
theorem dX11_swaps_13 : decode cX11_swaps 13 = .ok (.getfield 75, 3) := by decide +kernel
theorem dX11_swaps_16 : decode cX11_swaps 16 = .ok (.baload, 1) := by decide +kernel
theorem dX11_swaps_17 : decode cX11_swaps 17 = .ok (.ifCond .eq 29, 3) := by decide +kernel
theorem dX11_swaps_20 : decode cX11_swaps 20 = .ok (.aload_n 0, 1) := by decide +kernel
theorem dX11_swaps_21 : decode cX11_swaps 21 = .ok (.getfield 63, 3) := by decide +kernel
theorem dX11_swaps_24 : decode cX11_swaps 24 = .ok (.bipush 53, 2) := by decide +kernel
theorem dX11_swaps_26 : decode cX11_swaps 26 = .ok (.aload_n 0, 1) := by decide +kernel
theorem dX11_swaps_27 : decode cX11_swaps 27 = .ok (.getfield 75, 3) := by decide +kernel
theorem dX11_swaps_30 : decode cX11_swaps 30 = .ok (.imul, 1) := by decide +kernel
theorem dX11_swaps_31 : decode cX11_swaps 31 = .ok (.iload_n 1, 1) := by decide +kernel
theorem dX11_swaps_32 : decode cX11_swaps 32 = .ok (.iadd, 1) := by decide +kernel
theorem dX11_swaps_33 : decode cX11_swaps 33 = .ok (.iaload, 1) := by decide +kernel
theorem dX11_swaps_34 : decode cX11_swaps 34 = .ok (.ifCond .eq 12, 3) := by decide +kernel
theorem dX11_swaps_37 : decode cX11_swaps 37 = .ok (.aload_n 0, 1) := by decide +kernel
theorem dX11_swaps_38 : decode cX11_swaps 38 = .ok (.getfield 69, 3) := by decide +kernel
theorem dX11_swaps_41 : decode cX11_swaps 41 = .ok (.iload_n 1, 1) := by decide +kernel
theorem dX11_swaps_42 : decode cX11_swaps 42 = .ok (.iaload, 1) := by decide +kernel
theorem dX11_swaps_43 : decode cX11_swaps 43 = .ok (.ifCond .ne 5, 3) := by decide +kernel
theorem dX11_swaps_46 : decode cX11_swaps 46 = .ok (.iconst 0, 1) := by decide +kernel
theorem dX11_swaps_47 : decode cX11_swaps 47 = .ok (.ireturn, 1) := by decide +kernel
theorem dX11_swaps_48 : decode cX11_swaps 48 = .ok (.aload_n 0, 1) := by decide +kernel
theorem dX11_swaps_49 : decode cX11_swaps 49 = .ok (.getfield 63, 3) := by decide +kernel
theorem dX11_swaps_52 : decode cX11_swaps 52 = .ok (.bipush 53, 2) := by decide +kernel
theorem dX11_swaps_54 : decode cX11_swaps 54 = .ok (.aload_n 0, 1) := by decide +kernel
theorem dX11_swaps_55 : decode cX11_swaps 55 = .ok (.getfield 75, 3) := by decide +kernel
theorem dX11_swaps_58 : decode cX11_swaps 58 = .ok (.imul, 1) := by decide +kernel
theorem dX11_swaps_59 : decode cX11_swaps 59 = .ok (.iload_n 1, 1) := by decide +kernel
theorem dX11_swaps_60 : decode cX11_swaps 60 = .ok (.iadd, 1) := by decide +kernel
theorem dX11_swaps_61 : decode cX11_swaps 61 = .ok (.dup2, 1) := by decide +kernel
theorem dX11_swaps_62 : decode cX11_swaps 62 = .ok (.iaload, 1) := by decide +kernel
theorem dX11_swaps_63 : decode cX11_swaps 63 = .ok (.iconst 1, 1) := by decide +kernel
theorem dX11_swaps_64 : decode cX11_swaps 64 = .ok (.isub, 1) := by decide +kernel
theorem dX11_swaps_65 : decode cX11_swaps 65 = .ok (.iastore, 1) := by decide +kernel
theorem dX11_swaps_66 : decode cX11_swaps 66 = .ok (.aload_n 0, 1) := by decide +kernel
theorem dX11_swaps_67 : decode cX11_swaps 67 = .ok (.getfield 66, 3) := by decide +kernel
theorem dX11_swaps_70 : decode cX11_swaps 70 = .ok (.iload_n 1, 1) := by decide +kernel
theorem dX11_swaps_71 : decode cX11_swaps 71 = .ok (.dup2, 1) := by decide +kernel
theorem dX11_swaps_72 : decode cX11_swaps 72 = .ok (.iaload, 1) := by decide +kernel
theorem dX11_swaps_73 : decode cX11_swaps 73 = .ok (.iconst 1, 1) := by decide +kernel
theorem dX11_swaps_74 : decode cX11_swaps 74 = .ok (.iadd, 1) := by decide +kernel
theorem dX11_swaps_75 : decode cX11_swaps 75 = .ok (.iastore, 1) := by decide +kernel
theorem dX11_swaps_76 : decode cX11_swaps 76 = .ok (.aload_n 0, 1) := by decide +kernel
theorem dX11_swaps_77 : decode cX11_swaps 77 = .ok (.getfield 69, 3) := by decide +kernel
theorem dX11_swaps_80 : decode cX11_swaps 80 = .ok (.iload_n 1, 1) := by decide +kernel
theorem dX11_swaps_81 : decode cX11_swaps 81 = .ok (.dup2, 1) := by decide +kernel
theorem dX11_swaps_82 : decode cX11_swaps 82 = .ok (.iaload, 1) := by decide +kernel
theorem dX11_swaps_83 : decode cX11_swaps 83 = .ok (.iconst 1, 1) := by decide +kernel
theorem dX11_swaps_84 : decode cX11_swaps 84 = .ok (.isub, 1) := by decide +kernel
theorem dX11_swaps_85 : decode cX11_swaps 85 = .ok (.iastore, 1) := by decide +kernel
theorem dX11_swaps_86 : decode cX11_swaps 86 = .ok (.aload_n 0, 1) := by decide +kernel
theorem dX11_swaps_87 : decode cX11_swaps 87 = .ok (.dup, 1) := by decide +kernel
theorem dX11_swaps_88 : decode cX11_swaps 88 = .ok (.getfield 300, 3) := by decide +kernel
theorem dX11_swaps_91 : decode cX11_swaps 91 = .ok (.iconst 1, 1) := by decide +kernel
theorem dX11_swaps_92 : decode cX11_swaps 92 = .ok (.iadd, 1) := by decide +kernel
theorem dX11_swaps_93 : decode cX11_swaps 93 = .ok (.putfield 300, 3) := by decide +kernel
theorem dX11_swaps_96 : decode cX11_swaps 96 = .ok (.aload_n 0, 1) := by decide +kernel
theorem dX11_swaps_97 : decode cX11_swaps 97 = .ok (.iconst 3, 1) := by decide +kernel
theorem dX11_swaps_98 : decode cX11_swaps 98 = .ok (.iload_n 1, 1) := by decide +kernel
theorem dX11_swaps_99 : decode cX11_swaps 99 = .ok (.invokevirtual 335, 3) := by decide +kernel
theorem dX11_swaps_102 : decode cX11_swaps 102 = .ok (.iconst 1, 1) := by decide +kernel
theorem dX11_swaps_103 : decode cX11_swaps 103 = .ok (.ireturn, 1) := by decide +kernel
theorem dX11_swap_0 : decode cX11_swap 0 = .ok (.aload_n 0, 1) := by decide +kernel
theorem dX11_swap_1 : decode cX11_swap 1 = .ok (.aload_n 0, 1) := by decide +kernel
theorem dX11_swap_2 : decode cX11_swap 2 = .ok (.iload_n 1, 1) := by decide +kernel
theorem dX11_swap_3 : decode cX11_swap 3 = .ok (.invokevirtual 294, 3) := by decide +kernel
theorem dX11_swap_6 : decode cX11_swap 6 = .ok (.ifCond .ne 7, 3) := by decide +kernel
theorem dX11_swap_9 : decode cX11_swap 9 = .ok (.iconst 1, 1) := by decide +kernel
theorem dX11_swap_10 : decode cX11_swap 10 = .ok (.goto 16, 3) := by decide +kernel
theorem dX11_swap_13 : decode cX11_swap 13 = .ok (.aload_n 0, 1) := by decide +kernel
theorem dX11_swap_14 : decode cX11_swap 14 = .ok (.iload_n 1, 1) := by decide +kernel
theorem dX11_swap_15 : decode cX11_swap 15 = .ok (.invokevirtual 347, 3) := by decide +kernel
theorem dX11_swap_18 : decode cX11_swap 18 = .ok (.ifCond .eq 7, 3) := by decide +kernel
theorem dX11_swap_21 : decode cX11_swap 21 = .ok (.iconst 0, 1) := by decide +kernel
theorem dX11_swap_22 : decode cX11_swap 22 = .ok (.goto 4, 3) := by decide +kernel
theorem dX11_swap_25 : decode cX11_swap 25 = .ok (.iconst 2, 1) := by decide +kernel
theorem dX11_swap_26 : decode cX11_swap 26 = .ok (.invokevirtual 265, 3) := by decide +kernel
theorem dX11_swap_29 : decode cX11_swap 29 = .ok (.ifCond .eq 5, 3) := by decide +kernel
theorem dX11_swap_32 : decode cX11_swap 32 = .ok (.iconst (-1), 1) := by decide +kernel
theorem dX11_swap_33 : decode cX11_swap 33 = .ok (.ireturn, 1) := by decide +kernel
theorem dX11_swap_34 : decode cX11_swap 34 = .ok (.aload_n 0, 1) := by decide +kernel
theorem dX11_swap_35 : decode cX11_swap 35 = .ok (.getfield 300, 3) := by decide +kernel
theorem dX11_swap_38 : decode cX11_swap 38 = .ok (.ireturn, 1) := by decide +kernel
theorem dX11_undoes_0 : decode cX11_undoes 0 = .ok (.aload_n 0, 1) := by decide +kernel
theorem dX11_undoes_1 : decode cX11_undoes 1 = .ok (.dup, 1) := by decide +kernel
theorem dX11_undoes_2 : decode cX11_undoes 2 = .ok (.getfield 303, 3) := by decide +kernel
theorem dX11_undoes_5 : decode cX11_undoes 5 = .ok (.iconst 1, 1) := by decide +kernel
theorem dX11_undoes_6 : decode cX11_undoes 6 = .ok (.isub, 1) := by decide +kernel
theorem dX11_undoes_7 : decode cX11_undoes 7 = .ok (.putfield 303, 3) := by decide +kernel
theorem dX11_undoes_10 : decode cX11_undoes 10 = .ok (.aload_n 0, 1) := by decide +kernel
theorem dX11_undoes_11 : decode cX11_undoes 11 = .ok (.getfield 81, 3) := by decide +kernel
theorem dX11_undoes_14 : decode cX11_undoes 14 = .ok (.aload_n 0, 1) := by decide +kernel
theorem dX11_undoes_15 : decode cX11_undoes 15 = .ok (.getfield 303, 3) := by decide +kernel
theorem dX11_undoes_18 : decode cX11_undoes 18 = .ok (.iaload, 1) := by decide +kernel
theorem dX11_undoes_19 : decode cX11_undoes 19 = .ok (.istore_n 1, 1) := by decide +kernel
theorem dX11_undoes_20 : decode cX11_undoes 20 = .ok (.aload_n 0, 1) := by decide +kernel
theorem dX11_undoes_21 : decode cX11_undoes 21 = .ok (.getfield 84, 3) := by decide +kernel
theorem dX11_undoes_24 : decode cX11_undoes 24 = .ok (.aload_n 0, 1) := by decide +kernel
theorem dX11_undoes_25 : decode cX11_undoes 25 = .ok (.getfield 303, 3) := by decide +kernel
theorem dX11_undoes_28 : decode cX11_undoes 28 = .ok (.iaload, 1) := by decide +kernel
theorem dX11_undoes_29 : decode cX11_undoes 29 = .ok (.istore_n 2, 1) := by decide +kernel
theorem dX11_undoes_30 : decode cX11_undoes 30 = .ok (.iload_n 1, 1) := by decide +kernel
theorem dX11_undoes_31 : decode cX11_undoes 31 = .ok (.iconst 1, 1) := by decide +kernel
theorem dX11_undoes_32 : decode cX11_undoes 32 = .ok (.if_icmp .eq 8, 3) := by decide +kernel
theorem dX11_undoes_35 : decode cX11_undoes 35 = .ok (.iload_n 1, 1) := by decide +kernel
theorem dX11_undoes_36 : decode cX11_undoes 36 = .ok (.iconst 3, 1) := by decide +kernel
theorem dX11_undoes_37 : decode cX11_undoes 37 = .ok (.if_icmp .ne 31, 3) := by decide +kernel
theorem dX11_undoes_40 : decode cX11_undoes 40 = .ok (.aload_n 0, 1) := by decide +kernel
theorem dX11_undoes_41 : decode cX11_undoes 41 = .ok (.getfield 66, 3) := by decide +kernel
theorem dX11_undoes_44 : decode cX11_undoes 44 = .ok (.iload_n 2, 1) := by decide +kernel
theorem dX11_undoes_45 : decode cX11_undoes 45 = .ok (.dup2, 1) := by decide +kernel
theorem dX11_undoes_46 : decode cX11_undoes 46 = .ok (.iaload, 1) := by decide +kernel
theorem dX11_undoes_47 : decode cX11_undoes 47 = .ok (.iconst 1, 1) := by decide +kernel
theorem dX11_undoes_48 : decode cX11_undoes 48 = .ok (.isub, 1) := by decide +kernel
theorem dX11_undoes_49 : decode cX11_undoes 49 = .ok (.iastore, 1) := by decide +kernel
theorem dX11_undoes_50 : decode cX11_undoes 50 = .ok (.aload_n 0, 1) := by decide +kernel
theorem dX11_undoes_51 : decode cX11_undoes 51 = .ok (.getfield 63, 3) := by decide +kernel
theorem dX11_undoes_54 : decode cX11_undoes 54 = .ok (.bipush 53, 2) := by decide +kernel
theorem dX11_undoes_56 : decode cX11_undoes 56 = .ok (.aload_n 0, 1) := by decide +kernel
theorem dX11_undoes_57 : decode cX11_undoes 57 = .ok (.getfield 75, 3) := by decide +kernel
theorem dX11_undoes_60 : decode cX11_undoes 60 = .ok (.imul, 1) := by decide +kernel
theorem dX11_undoes_61 : decode cX11_undoes 61 = .ok (.iload_n 2, 1) := by decide +kernel
theorem dX11_undoes_62 : decode cX11_undoes 62 = .ok (.iadd, 1) := by decide +kernel
theorem dX11_undoes_63 : decode cX11_undoes 63 = .ok (.dup2, 1) := by decide +kernel
theorem dX11_undoes_64 : decode cX11_undoes 64 = .ok (.iaload, 1) := by decide +kernel
theorem dX11_undoes_65 : decode cX11_undoes 65 = .ok (.iconst 1, 1) := by decide +kernel
theorem dX11_undoes_66 : decode cX11_undoes 66 = .ok (.iadd, 1) := by decide +kernel
theorem dX11_undoes_67 : decode cX11_undoes 67 = .ok (.iastore, 1) := by decide +kernel
theorem dX11_undoes_68 : decode cX11_undoes 68 = .ok (.iload_n 1, 1) := by decide +kernel
theorem dX11_undoes_69 : decode cX11_undoes 69 = .ok (.iconst 2, 1) := by decide +kernel
theorem dX11_undoes_70 : decode cX11_undoes 70 = .ok (.if_icmp .eq 8, 3) := by decide +kernel
theorem dX11_undoes_73 : decode cX11_undoes 73 = .ok (.iload_n 1, 1) := by decide +kernel
theorem dX11_undoes_74 : decode cX11_undoes 74 = .ok (.iconst 4, 1) := by decide +kernel
theorem dX11_undoes_75 : decode cX11_undoes 75 = .ok (.if_icmp .ne 13, 3) := by decide +kernel
theorem dX11_undoes_78 : decode cX11_undoes 78 = .ok (.aload_n 0, 1) := by decide +kernel
theorem dX11_undoes_79 : decode cX11_undoes 79 = .ok (.getfield 69, 3) := by decide +kernel
theorem dX11_undoes_82 : decode cX11_undoes 82 = .ok (.iload_n 2, 1) := by decide +kernel
theorem dX11_undoes_83 : decode cX11_undoes 83 = .ok (.dup2, 1) := by decide +kernel
theorem dX11_undoes_84 : decode cX11_undoes 84 = .ok (.iaload, 1) := by decide +kernel
theorem dX11_undoes_85 : decode cX11_undoes 85 = .ok (.iconst 1, 1) := by decide +kernel
theorem dX11_undoes_86 : decode cX11_undoes 86 = .ok (.isub, 1) := by decide +kernel
theorem dX11_undoes_87 : decode cX11_undoes 87 = .ok (.iastore, 1) := by decide +kernel
theorem dX11_undoes_88 : decode cX11_undoes 88 = .ok (.iload_n 1, 1) := by decide +kernel
theorem dX11_undoes_89 : decode cX11_undoes 89 = .ok (.iconst 2, 1) := by decide +kernel
theorem dX11_undoes_90 : decode cX11_undoes 90 = .ok (.if_icmp .ne 22, 3) := by decide +kernel
theorem dX11_undoes_93 : decode cX11_undoes 93 = .ok (.aload_n 0, 1) := by decide +kernel
theorem dX11_undoes_94 : decode cX11_undoes 94 = .ok (.getfield 63, 3) := by decide +kernel
theorem dX11_undoes_97 : decode cX11_undoes 97 = .ok (.bipush 53, 2) := by decide +kernel
theorem dX11_undoes_99 : decode cX11_undoes 99 = .ok (.aload_n 0, 1) := by decide +kernel
theorem dX11_undoes_100 : decode cX11_undoes 100 = .ok (.getfield 75, 3) := by decide +kernel
theorem dX11_undoes_103 : decode cX11_undoes 103 = .ok (.imul, 1) := by decide +kernel
theorem dX11_undoes_104 : decode cX11_undoes 104 = .ok (.bipush 52, 2) := by decide +kernel
theorem dX11_undoes_106 : decode cX11_undoes 106 = .ok (.iadd, 1) := by decide +kernel
theorem dX11_undoes_107 : decode cX11_undoes 107 = .ok (.dup2, 1) := by decide +kernel
theorem dX11_undoes_108 : decode cX11_undoes 108 = .ok (.iaload, 1) := by decide +kernel
theorem dX11_undoes_109 : decode cX11_undoes 109 = .ok (.iconst 1, 1) := by decide +kernel
theorem dX11_undoes_110 : decode cX11_undoes 110 = .ok (.iadd, 1) := by decide +kernel
theorem dX11_undoes_111 : decode cX11_undoes 111 = .ok (.iastore, 1) := by decide +kernel
theorem dX11_undoes_112 : decode cX11_undoes 112 = .ok (.aload_n 0, 1) := by decide +kernel
theorem dX11_undoes_113 : decode cX11_undoes 113 = .ok (.dup, 1) := by decide +kernel
theorem dX11_undoes_114 : decode cX11_undoes 114 = .ok (.getfield 300, 3) := by decide +kernel
theorem dX11_undoes_117 : decode cX11_undoes 117 = .ok (.iload_n 1, 1) := by decide +kernel
theorem dX11_undoes_118 : decode cX11_undoes 118 = .ok (.iconst 4, 1) := by decide +kernel
theorem dX11_undoes_119 : decode cX11_undoes 119 = .ok (.if_icmp .ne 7, 3) := by decide +kernel
theorem dX11_undoes_122 : decode cX11_undoes 122 = .ok (.iconst 1, 1) := by decide +kernel
theorem dX11_undoes_123 : decode cX11_undoes 123 = .ok (.goto 13, 3) := by decide +kernel
theorem dX11_undoes_126 : decode cX11_undoes 126 = .ok (.iload_n 1, 1) := by decide +kernel
theorem dX11_undoes_127 : decode cX11_undoes 127 = .ok (.iconst 3, 1) := by decide +kernel
theorem dX11_undoes_128 : decode cX11_undoes 128 = .ok (.if_icmp .ne 7, 3) := by decide +kernel
theorem dX11_undoes_131 : decode cX11_undoes 131 = .ok (.iconst (-1), 1) := by decide +kernel
theorem dX11_undoes_132 : decode cX11_undoes 132 = .ok (.goto 4, 3) := by decide +kernel
theorem dX11_undoes_135 : decode cX11_undoes 135 = .ok (.iconst 0, 1) := by decide +kernel
theorem dX11_undoes_136 : decode cX11_undoes 136 = .ok (.iadd, 1) := by decide +kernel
theorem dX11_undoes_137 : decode cX11_undoes 137 = .ok (.putfield 300, 3) := by decide +kernel
theorem dX11_undoes_140 : decode cX11_undoes 140 = .ok (.aload_n 0, 1) := by decide +kernel
theorem dX11_undoes_141 : decode cX11_undoes 141 = .ok (.getfield 69, 3) := by decide +kernel
theorem dX11_undoes_144 : decode cX11_undoes 144 = .ok (.iload_n 2, 1) := by decide +kernel
theorem dX11_undoes_145 : decode cX11_undoes 145 = .ok (.dup2, 1) := by decide +kernel
theorem dX11_undoes_146 : decode cX11_undoes 146 = .ok (.iaload, 1) := by decide +kernel
theorem dX11_undoes_147 : decode cX11_undoes 147 = .ok (.iload_n 1, 1) := by decide +kernel
theorem dX11_undoes_148 : decode cX11_undoes 148 = .ok (.iconst 3, 1) := by decide +kernel
theorem dX11_undoes_149 : decode cX11_undoes 149 = .ok (.if_icmp .ne 7, 3) := by decide +kernel
theorem dX11_undoes_152 : decode cX11_undoes 152 = .ok (.iconst 1, 1) := by decide +kernel
theorem dX11_undoes_153 : decode cX11_undoes 153 = .ok (.goto 4, 3) := by decide +kernel
theorem dX11_undoes_156 : decode cX11_undoes 156 = .ok (.iconst 0, 1) := by decide +kernel
theorem dX11_undoes_157 : decode cX11_undoes 157 = .ok (.iadd, 1) := by decide +kernel
theorem dX11_undoes_158 : decode cX11_undoes 158 = .ok (.iastore, 1) := by decide +kernel
theorem dX11_undoes_159 : decode cX11_undoes 159 = .ok (.iload_n 2, 1) := by decide +kernel
theorem dX11_undoes_160 : decode cX11_undoes 160 = .ok (.ireturn, 1) := by decide +kernel
theorem dX11_takesBack_0 : decode cX11_takesBack 0 = .ok (.aload_n 0, 1) := by decide +kernel
theorem dX11_takesBack_1 : decode cX11_takesBack 1 = .ok (.getfield 75, 3) := by decide +kernel
theorem dX11_takesBack_4 : decode cX11_takesBack 4 = .ok (.iconst (-1), 1) := by decide +kernel
theorem dX11_takesBack_5 : decode cX11_takesBack 5 = .ok (.if_icmp .eq 10, 3) := by decide +kernel
theorem dX11_takesBack_8 : decode cX11_takesBack 8 = .ok (.aload_n 0, 1) := by decide +kernel
theorem dX11_takesBack_9 : decode cX11_takesBack 9 = .ok (.getfield 303, 3) := by decide +kernel
theorem dX11_takesBack_12 : decode cX11_takesBack 12 = .ok (.ifCond .ne 5, 3) := by decide +kernel
theorem dX11_takesBack_15 : decode cX11_takesBack 15 = .ok (.iconst 0, 1) := by decide +kernel
theorem dX11_takesBack_16 : decode cX11_takesBack 16 = .ok (.ireturn, 1) := by decide +kernel
theorem dX11_takesBack_17 : decode cX11_takesBack 17 = .ok (.aload_n 0, 1) := by decide +kernel
theorem dX11_takesBack_18 : decode cX11_takesBack 18 = .ok (.iconst 4, 1) := by decide +kernel
theorem dX11_takesBack_19 : decode cX11_takesBack 19 = .ok (.aload_n 0, 1) := by decide +kernel
theorem dX11_takesBack_20 : decode cX11_takesBack 20 = .ok (.getfield 75, 3) := by decide +kernel
theorem dX11_takesBack_23 : decode cX11_takesBack 23 = .ok (.aload_n 0, 1) := by decide +kernel
theorem dX11_takesBack_24 : decode cX11_takesBack 24 = .ok (.invokevirtual 350, 3) := by decide +kernel
theorem dX11_takesBack_27 : decode cX11_takesBack 27 = .ok (.iconst 0, 1) := by decide +kernel
theorem dX11_takesBack_28 : decode cX11_takesBack 28 = .ok (.invokevirtual 328, 3) := by decide +kernel
theorem dX11_takesBack_31 : decode cX11_takesBack 31 = .ok (.iconst 1, 1) := by decide +kernel
theorem dX11_takesBack_32 : decode cX11_takesBack 32 = .ok (.ireturn, 1) := by decide +kernel
theorem dX11_back_0 : decode cX11_back 0 = .ok (.aload_n 0, 1) := by decide +kernel
theorem dX11_back_1 : decode cX11_back 1 = .ok (.aload_n 0, 1) := by decide +kernel
theorem dX11_back_2 : decode cX11_back 2 = .ok (.invokevirtual 353, 3) := by decide +kernel
theorem dX11_back_5 : decode cX11_back 5 = .ok (.ifCond .eq 7, 3) := by decide +kernel
theorem dX11_back_8 : decode cX11_back 8 = .ok (.iconst 0, 1) := by decide +kernel
theorem dX11_back_9 : decode cX11_back 9 = .ok (.goto 4, 3) := by decide +kernel
theorem dX11_back_12 : decode cX11_back 12 = .ok (.iconst 1, 1) := by decide +kernel
theorem dX11_back_13 : decode cX11_back 13 = .ok (.invokevirtual 265, 3) := by decide +kernel
theorem dX11_back_16 : decode cX11_back 16 = .ok (.ifCond .eq 5, 3) := by decide +kernel
theorem dX11_back_19 : decode cX11_back 19 = .ok (.iconst (-1), 1) := by decide +kernel
theorem dX11_back_20 : decode cX11_back 20 = .ok (.ireturn, 1) := by decide +kernel
theorem dX11_back_21 : decode cX11_back 21 = .ok (.aload_n 0, 1) := by decide +kernel
theorem dX11_back_22 : decode cX11_back 22 = .ok (.getfield 303, 3) := by decide +kernel
theorem dX11_back_25 : decode cX11_back 25 = .ok (.ireturn, 1) := by decide +kernel
theorem dX11_mayEnd_0 : decode cX11_mayEnd 0 = .ok (.aload_n 0, 1) := by decide +kernel
theorem dX11_mayEnd_1 : decode cX11_mayEnd 1 = .ok (.getfield 75, 3) := by decide +kernel
theorem dX11_mayEnd_4 : decode cX11_mayEnd 4 = .ok (.iconst (-1), 1) := by decide +kernel
theorem dX11_mayEnd_5 : decode cX11_mayEnd 5 = .ok (.if_icmp .eq 17, 3) := by decide +kernel
theorem dX11_mayEnd_8 : decode cX11_mayEnd 8 = .ok (.aload_n 0, 1) := by decide +kernel
theorem dX11_mayEnd_9 : decode cX11_mayEnd 9 = .ok (.getfield 303, 3) := by decide +kernel
theorem dX11_mayEnd_12 : decode cX11_mayEnd 12 = .ok (.ifCond .eq 10, 3) := by decide +kernel
theorem dX11_mayEnd_15 : decode cX11_mayEnd 15 = .ok (.aload_n 0, 1) := by decide +kernel
theorem dX11_mayEnd_16 : decode cX11_mayEnd 16 = .ok (.getfield 300, 3) := by decide +kernel
theorem dX11_mayEnd_19 : decode cX11_mayEnd 19 = .ok (.ifCond .le 5, 3) := by decide +kernel
theorem dX11_mayEnd_22 : decode cX11_mayEnd 22 = .ok (.iconst 0, 1) := by decide +kernel
theorem dX11_mayEnd_23 : decode cX11_mayEnd 23 = .ok (.ireturn, 1) := by decide +kernel
theorem dX11_mayEnd_24 : decode cX11_mayEnd 24 = .ok (.aload_n 0, 1) := by decide +kernel
theorem dX11_mayEnd_25 : decode cX11_mayEnd 25 = .ok (.invokevirtual 268, 3) := by decide +kernel
theorem dX11_mayEnd_28 : decode cX11_mayEnd 28 = .ok (.aload_n 0, 1) := by decide +kernel
theorem dX11_mayEnd_29 : decode cX11_mayEnd 29 = .ok (.invokevirtual 271, 3) := by decide +kernel
theorem dX11_mayEnd_32 : decode cX11_mayEnd 32 = .ok (.ifCond .ne 5, 3) := by decide +kernel
theorem dX11_mayEnd_35 : decode cX11_mayEnd 35 = .ok (.iconst 0, 1) := by decide +kernel
theorem dX11_mayEnd_36 : decode cX11_mayEnd 36 = .ok (.ireturn, 1) := by decide +kernel
theorem dX11_mayEnd_37 : decode cX11_mayEnd 37 = .ok (.aload_n 0, 1) := by decide +kernel
theorem dX11_mayEnd_38 : decode cX11_mayEnd 38 = .ok (.getfield 40, 3) := by decide +kernel
theorem dX11_mayEnd_41 : decode cX11_mayEnd 41 = .ok (.aload_n 0, 1) := by decide +kernel
theorem dX11_mayEnd_42 : decode cX11_mayEnd 42 = .ok (.getfield 75, 3) := by decide +kernel
theorem dX11_mayEnd_45 : decode cX11_mayEnd 45 = .ok (.baload, 1) := by decide +kernel
theorem dX11_mayEnd_46 : decode cX11_mayEnd 46 = .ok (.ifCond .eq 5, 3) := by decide +kernel
theorem dX11_mayEnd_49 : decode cX11_mayEnd 49 = .ok (.iconst 1, 1) := by decide +kernel
theorem dX11_mayEnd_50 : decode cX11_mayEnd 50 = .ok (.ireturn, 1) := by decide +kernel
theorem dX11_mayEnd_51 : decode cX11_mayEnd 51 = .ok (.iconst 0, 1) := by decide +kernel
theorem dX11_mayEnd_52 : decode cX11_mayEnd 52 = .ok (.istore_n 1, 1) := by decide +kernel
theorem dX11_mayEnd_53 : decode cX11_mayEnd 53 = .ok (.iconst 0, 1) := by decide +kernel
theorem dX11_mayEnd_54 : decode cX11_mayEnd 54 = .ok (.istore_n 2, 1) := by decide +kernel
theorem dX11_mayEnd_55 : decode cX11_mayEnd 55 = .ok (.iload_n 2, 1) := by decide +kernel
theorem dX11_mayEnd_56 : decode cX11_mayEnd 56 = .ok (.bipush 52, 2) := by decide +kernel
theorem dX11_mayEnd_58 : decode cX11_mayEnd 58 = .ok (.if_icmp .ge 16, 3) := by decide +kernel
theorem dX11_mayEnd_61 : decode cX11_mayEnd 61 = .ok (.aload_n 0, 1) := by decide +kernel
theorem dX11_mayEnd_62 : decode cX11_mayEnd 62 = .ok (.getfield 106, 3) := by decide +kernel
theorem dX11_mayEnd_65 : decode cX11_mayEnd 65 = .ok (.iload_n 2, 1) := by decide +kernel
theorem dX11_mayEnd_66 : decode cX11_mayEnd 66 = .ok (.iconst 0, 1) := by decide +kernel
theorem dX11_mayEnd_67 : decode cX11_mayEnd 67 = .ok (.iastore, 1) := by decide +kernel
theorem dX11_mayEnd_68 : decode cX11_mayEnd 68 = .ok (.iinc 2 1, 3) := by decide +kernel
theorem dX11_mayEnd_71 : decode cX11_mayEnd 71 = .ok (.goto (-16), 3) := by decide +kernel
theorem dX11_mayEnd_74 : decode cX11_mayEnd 74 = .ok (.iconst 0, 1) := by decide +kernel
theorem dX11_mayEnd_75 : decode cX11_mayEnd 75 = .ok (.istore_n 2, 1) := by decide +kernel
theorem dX11_mayEnd_76 : decode cX11_mayEnd 76 = .ok (.iload_n 2, 1) := by decide +kernel
theorem dX11_mayEnd_77 : decode cX11_mayEnd 77 = .ok (.aload_n 0, 1) := by decide +kernel
theorem dX11_mayEnd_78 : decode cX11_mayEnd 78 = .ok (.getfield 303, 3) := by decide +kernel
theorem dX11_mayEnd_81 : decode cX11_mayEnd 81 = .ok (.if_icmp .ge 52, 3) := by decide +kernel
theorem dX11_mayEnd_84 : decode cX11_mayEnd 84 = .ok (.aload_n 0, 1) := by decide +kernel
theorem dX11_mayEnd_85 : decode cX11_mayEnd 85 = .ok (.getfield 106, 3) := by decide +kernel
theorem dX11_mayEnd_88 : decode cX11_mayEnd 88 = .ok (.aload_n 0, 1) := by decide +kernel
theorem dX11_mayEnd_89 : decode cX11_mayEnd 89 = .ok (.getfield 84, 3) := by decide +kernel
theorem dX11_mayEnd_92 : decode cX11_mayEnd 92 = .ok (.iload_n 2, 1) := by decide +kernel
theorem dX11_mayEnd_93 : decode cX11_mayEnd 93 = .ok (.iaload, 1) := by decide +kernel
theorem dX11_mayEnd_94 : decode cX11_mayEnd 94 = .ok (.dup2, 1) := by decide +kernel
theorem dX11_mayEnd_95 : decode cX11_mayEnd 95 = .ok (.iaload, 1) := by decide +kernel
theorem dX11_mayEnd_96 : decode cX11_mayEnd 96 = .ok (.iconst 1, 1) := by decide +kernel
theorem dX11_mayEnd_97 : decode cX11_mayEnd 97 = .ok (.iadd, 1) := by decide +kernel
theorem dX11_mayEnd_98 : decode cX11_mayEnd 98 = .ok (.iastore, 1) := by decide +kernel
theorem dX11_mayEnd_99 : decode cX11_mayEnd 99 = .ok (.iload_n 1, 1) := by decide +kernel
theorem dX11_mayEnd_100 : decode cX11_mayEnd 100 = .ok (.aload_n 0, 1) := by decide +kernel
theorem dX11_mayEnd_101 : decode cX11_mayEnd 101 = .ok (.getfield 81, 3) := by decide +kernel
theorem dX11_mayEnd_104 : decode cX11_mayEnd 104 = .ok (.iload_n 2, 1) := by decide +kernel
theorem dX11_mayEnd_105 : decode cX11_mayEnd 105 = .ok (.iaload, 1) := by decide +kernel
theorem dX11_mayEnd_106 : decode cX11_mayEnd 106 = .ok (.iconst 1, 1) := by decide +kernel
theorem dX11_mayEnd_107 : decode cX11_mayEnd 107 = .ok (.if_icmp .ne 17, 3) := by decide +kernel
theorem dX11_mayEnd_110 : decode cX11_mayEnd 110 = .ok (.aload_n 0, 1) := by decide +kernel
theorem dX11_mayEnd_111 : decode cX11_mayEnd 111 = .ok (.getfield 84, 3) := by decide +kernel
theorem dX11_mayEnd_114 : decode cX11_mayEnd 114 = .ok (.iload_n 2, 1) := by decide +kernel
theorem dX11_mayEnd_115 : decode cX11_mayEnd 115 = .ok (.iaload, 1) := by decide +kernel
theorem dX11_mayEnd_116 : decode cX11_mayEnd 116 = .ok (.bipush 13, 2) := by decide +kernel
theorem dX11_mayEnd_118 : decode cX11_mayEnd 118 = .ok (.irem, 1) := by decide +kernel
theorem dX11_mayEnd_119 : decode cX11_mayEnd 119 = .ok (.iconst 1, 1) := by decide +kernel
theorem dX11_mayEnd_120 : decode cX11_mayEnd 120 = .ok (.iadd, 1) := by decide +kernel
theorem dX11_mayEnd_121 : decode cX11_mayEnd 121 = .ok (.goto 4, 3) := by decide +kernel
theorem dX11_mayEnd_124 : decode cX11_mayEnd 124 = .ok (.iconst 0, 1) := by decide +kernel
theorem dX11_mayEnd_125 : decode cX11_mayEnd 125 = .ok (.iadd, 1) := by decide +kernel
theorem dX11_mayEnd_126 : decode cX11_mayEnd 126 = .ok (.istore_n 1, 1) := by decide +kernel
theorem dX11_mayEnd_127 : decode cX11_mayEnd 127 = .ok (.iinc 2 1, 3) := by decide +kernel
theorem dX11_mayEnd_130 : decode cX11_mayEnd 130 = .ok (.goto (-54), 3) := by decide +kernel
theorem dX11_mayEnd_133 : decode cX11_mayEnd 133 = .ok (.iload_n 1, 1) := by decide +kernel
theorem dX11_mayEnd_134 : decode cX11_mayEnd 134 = .ok (.aload_n 0, 1) := by decide +kernel
theorem dX11_mayEnd_135 : decode cX11_mayEnd 135 = .ok (.getfield 21, 3) := by decide +kernel
theorem dX11_mayEnd_138 : decode cX11_mayEnd 138 = .ok (.if_icmp .lt 14, 3) := by decide +kernel
theorem dX11_mayEnd_141 : decode cX11_mayEnd 141 = .ok (.aload_n 0, 1) := by decide +kernel
theorem dX11_mayEnd_142 : decode cX11_mayEnd 142 = .ok (.invokevirtual 271, 3) := by decide +kernel
theorem dX11_mayEnd_145 : decode cX11_mayEnd 145 = .ok (.ifCond .eq 7, 3) := by decide +kernel
theorem dX11_mayEnd_148 : decode cX11_mayEnd 148 = .ok (.iconst 1, 1) := by decide +kernel
theorem dX11_mayEnd_149 : decode cX11_mayEnd 149 = .ok (.goto 4, 3) := by decide +kernel
theorem dX11_mayEnd_152 : decode cX11_mayEnd 152 = .ok (.iconst 0, 1) := by decide +kernel
theorem dX11_mayEnd_153 : decode cX11_mayEnd 153 = .ok (.ireturn, 1) := by decide +kernel
theorem dX11_roundEnds_0 : decode cX11_roundEnds 0 = .ok (.iconst 0, 1) := by decide +kernel
theorem dX11_roundEnds_1 : decode cX11_roundEnds 1 = .ok (.istore_n 2, 1) := by decide +kernel
theorem dX11_roundEnds_2 : decode cX11_roundEnds 2 = .ok (.iload_n 2, 1) := by decide +kernel
theorem dX11_roundEnds_3 : decode cX11_roundEnds 3 = .ok (.aload_n 0, 1) := by decide +kernel
theorem dX11_roundEnds_4 : decode cX11_roundEnds 4 = .ok (.getfield 186, 3) := by decide +kernel
theorem dX11_roundEnds_7 : decode cX11_roundEnds 7 = .ok (.if_icmp .ge 42, 3) := by decide +kernel
theorem dX11_roundEnds_10 : decode cX11_roundEnds 10 = .ok (.iload_n 2, 1) := by decide +kernel
theorem dX11_roundEnds_11 : decode cX11_roundEnds 11 = .ok (.iload_n 1, 1) := by decide +kernel
theorem dX11_roundEnds_12 : decode cX11_roundEnds 12 = .ok (.if_icmp .eq 31, 3) := by decide +kernel
theorem dX11_roundEnds_15 : decode cX11_roundEnds 15 = .ok (.aload_n 0, 1) := by decide +kernel
theorem dX11_roundEnds_16 : decode cX11_roundEnds 16 = .ok (.getfield 34, 3) := by decide +kernel
theorem dX11_roundEnds_19 : decode cX11_roundEnds 19 = .ok (.iload_n 2, 1) := by decide +kernel
theorem dX11_roundEnds_20 : decode cX11_roundEnds 20 = .ok (.dup2, 1) := by decide +kernel
theorem dX11_roundEnds_21 : decode cX11_roundEnds 21 = .ok (.iaload, 1) := by decide +kernel
theorem dX11_roundEnds_22 : decode cX11_roundEnds 22 = .ok (.aload_n 0, 1) := by decide +kernel
theorem dX11_roundEnds_23 : decode cX11_roundEnds 23 = .ok (.iload_n 2, 1) := by decide +kernel
theorem dX11_roundEnds_24 : decode cX11_roundEnds 24 = .ok (.invokevirtual 356, 3) := by decide +kernel
theorem dX11_roundEnds_27 : decode cX11_roundEnds 27 = .ok (.isub, 1) := by decide +kernel
theorem dX11_roundEnds_28 : decode cX11_roundEnds 28 = .ok (.iastore, 1) := by decide +kernel
theorem dX11_roundEnds_29 : decode cX11_roundEnds 29 = .ok (.aload_n 0, 1) := by decide +kernel
theorem dX11_roundEnds_30 : decode cX11_roundEnds 30 = .ok (.getfield 34, 3) := by decide +kernel
theorem dX11_roundEnds_33 : decode cX11_roundEnds 33 = .ok (.iload_n 1, 1) := by decide +kernel
theorem dX11_roundEnds_34 : decode cX11_roundEnds 34 = .ok (.dup2, 1) := by decide +kernel
theorem dX11_roundEnds_35 : decode cX11_roundEnds 35 = .ok (.iaload, 1) := by decide +kernel
theorem dX11_roundEnds_36 : decode cX11_roundEnds 36 = .ok (.aload_n 0, 1) := by decide +kernel
theorem dX11_roundEnds_37 : decode cX11_roundEnds 37 = .ok (.iload_n 2, 1) := by decide +kernel
theorem dX11_roundEnds_38 : decode cX11_roundEnds 38 = .ok (.invokevirtual 356, 3) := by decide +kernel
theorem dX11_roundEnds_41 : decode cX11_roundEnds 41 = .ok (.iadd, 1) := by decide +kernel
theorem dX11_roundEnds_42 : decode cX11_roundEnds 42 = .ok (.iastore, 1) := by decide +kernel
theorem dX11_roundEnds_43 : decode cX11_roundEnds 43 = .ok (.iinc 2 1, 3) := by decide +kernel
theorem dX11_roundEnds_46 : decode cX11_roundEnds 46 = .ok (.goto (-44), 3) := by decide +kernel
theorem dX11_roundEnds_49 : decode cX11_roundEnds 49 = .ok (.aload_n 0, 1) := by decide +kernel
theorem dX11_roundEnds_50 : decode cX11_roundEnds 50 = .ok (.iload_n 1, 1) := by decide +kernel
theorem dX11_roundEnds_51 : decode cX11_roundEnds 51 = .ok (.invokevirtual 359, 3) := by decide +kernel
theorem dX11_roundEnds_54 : decode cX11_roundEnds 54 = .ok (.istore_n 2, 1) := by decide +kernel
theorem dX11_roundEnds_55 : decode cX11_roundEnds 55 = .ok (.iload_n 2, 1) := by decide +kernel
theorem dX11_roundEnds_56 : decode cX11_roundEnds 56 = .ok (.ifCond .le 26, 3) := by decide +kernel
theorem dX11_roundEnds_59 : decode cX11_roundEnds 59 = .ok (.aload_n 0, 1) := by decide +kernel
theorem dX11_roundEnds_60 : decode cX11_roundEnds 60 = .ok (.getfield 47, 3) := by decide +kernel
theorem dX11_roundEnds_63 : decode cX11_roundEnds 63 = .ok (.iload_n 2, 1) := by decide +kernel
theorem dX11_roundEnds_64 : decode cX11_roundEnds 64 = .ok (.aload_n 0, 1) := by decide +kernel
theorem dX11_roundEnds_65 : decode cX11_roundEnds 65 = .ok (.getfield 47, 3) := by decide +kernel
theorem dX11_roundEnds_68 : decode cX11_roundEnds 68 = .ok (.iload_n 2, 1) := by decide +kernel
theorem dX11_roundEnds_69 : decode cX11_roundEnds 69 = .ok (.iconst 1, 1) := by decide +kernel
theorem dX11_roundEnds_70 : decode cX11_roundEnds 70 = .ok (.isub, 1) := by decide +kernel
theorem dX11_roundEnds_71 : decode cX11_roundEnds 71 = .ok (.iaload, 1) := by decide +kernel
theorem dX11_roundEnds_72 : decode cX11_roundEnds 72 = .ok (.iastore, 1) := by decide +kernel
theorem dX11_roundEnds_73 : decode cX11_roundEnds 73 = .ok (.aload_n 0, 1) := by decide +kernel
theorem dX11_roundEnds_74 : decode cX11_roundEnds 74 = .ok (.getfield 47, 3) := by decide +kernel
theorem dX11_roundEnds_77 : decode cX11_roundEnds 77 = .ok (.iload_n 2, 1) := by decide +kernel
theorem dX11_roundEnds_78 : decode cX11_roundEnds 78 = .ok (.iconst 1, 1) := by decide +kernel
theorem dX11_roundEnds_79 : decode cX11_roundEnds 79 = .ok (.isub, 1) := by decide +kernel
theorem dX11_roundEnds_80 : decode cX11_roundEnds 80 = .ok (.iload_n 1, 1) := by decide +kernel
theorem dX11_roundEnds_81 : decode cX11_roundEnds 81 = .ok (.iastore, 1) := by decide +kernel
theorem dX11_roundEnds_82 : decode cX11_roundEnds 82 = .ok (.aload_n 0, 1) := by decide +kernel
theorem dX11_roundEnds_83 : decode cX11_roundEnds 83 = .ok (.getfield 44, 3) := by decide +kernel
theorem dX11_roundEnds_86 : decode cX11_roundEnds 86 = .ok (.iload_n 1, 1) := by decide +kernel
theorem dX11_roundEnds_87 : decode cX11_roundEnds 87 = .ok (.dup2, 1) := by decide +kernel
theorem dX11_roundEnds_88 : decode cX11_roundEnds 88 = .ok (.iaload, 1) := by decide +kernel
theorem dX11_roundEnds_89 : decode cX11_roundEnds 89 = .ok (.iconst 1, 1) := by decide +kernel
theorem dX11_roundEnds_90 : decode cX11_roundEnds 90 = .ok (.iadd, 1) := by decide +kernel
theorem dX11_roundEnds_91 : decode cX11_roundEnds 91 = .ok (.iastore, 1) := by decide +kernel
theorem dX11_roundEnds_92 : decode cX11_roundEnds 92 = .ok (.aload_n 0, 1) := by decide +kernel
theorem dX11_roundEnds_93 : decode cX11_roundEnds 93 = .ok (.dup, 1) := by decide +kernel
theorem dX11_roundEnds_94 : decode cX11_roundEnds 94 = .ok (.getfield 362, 3) := by decide +kernel
theorem dX11_roundEnds_97 : decode cX11_roundEnds 97 = .ok (.iconst 1, 1) := by decide +kernel
theorem dX11_roundEnds_98 : decode cX11_roundEnds 98 = .ok (.iadd, 1) := by decide +kernel
theorem dX11_roundEnds_99 : decode cX11_roundEnds 99 = .ok (.putfield 362, 3) := by decide +kernel
theorem dX11_roundEnds_102 : decode cX11_roundEnds 102 = .ok (.aload_n 0, 1) := by decide +kernel
theorem dX11_roundEnds_103 : decode cX11_roundEnds 103 = .ok (.iload_n 1, 1) := by decide +kernel
theorem dX11_roundEnds_104 : decode cX11_roundEnds 104 = .ok (.putfield 78, 3) := by decide +kernel
theorem dX11_roundEnds_107 : decode cX11_roundEnds 107 = .ok (.aload_n 0, 1) := by decide +kernel
theorem dX11_roundEnds_108 : decode cX11_roundEnds 108 = .ok (.iconst (-1), 1) := by decide +kernel
theorem dX11_roundEnds_109 : decode cX11_roundEnds 109 = .ok (.putfield 75, 3) := by decide +kernel
theorem dX11_roundEnds_112 : decode cX11_roundEnds 112 = .ok (.aload_n 0, 1) := by decide +kernel
theorem dX11_roundEnds_113 : decode cX11_roundEnds 113 = .ok (.iconst 0, 1) := by decide +kernel
theorem dX11_roundEnds_114 : decode cX11_roundEnds 114 = .ok (.putfield 303, 3) := by decide +kernel
theorem dX11_roundEnds_117 : decode cX11_roundEnds 117 = .ok (.return_, 1) := by decide +kernel
theorem dX11_placeOf_0 : decode cX11_placeOf 0 = .ok (.iconst 0, 1) := by decide +kernel
theorem dX11_placeOf_1 : decode cX11_placeOf 1 = .ok (.istore_n 2, 1) := by decide +kernel
theorem dX11_placeOf_2 : decode cX11_placeOf 2 = .ok (.aload_n 0, 1) := by decide +kernel
theorem dX11_placeOf_3 : decode cX11_placeOf 3 = .ok (.getfield 47, 3) := by decide +kernel
theorem dX11_placeOf_6 : decode cX11_placeOf 6 = .ok (.iload_n 2, 1) := by decide +kernel
theorem dX11_placeOf_7 : decode cX11_placeOf 7 = .ok (.iaload, 1) := by decide +kernel
theorem dX11_placeOf_8 : decode cX11_placeOf 8 = .ok (.iload_n 1, 1) := by decide +kernel
theorem dX11_placeOf_9 : decode cX11_placeOf 9 = .ok (.if_icmp .eq 9, 3) := by decide +kernel
theorem dX11_placeOf_12 : decode cX11_placeOf 12 = .ok (.iinc 2 1, 3) := by decide +kernel
theorem dX11_placeOf_15 : decode cX11_placeOf 15 = .ok (.goto (-13), 3) := by decide +kernel
theorem dX11_placeOf_18 : decode cX11_placeOf 18 = .ok (.iload_n 2, 1) := by decide +kernel
theorem dX11_placeOf_19 : decode cX11_placeOf 19 = .ok (.ireturn, 1) := by decide +kernel
theorem dX11_endsByLaying_0 : decode cX11_endsByLaying 0 = .ok (.aload_n 0, 1) := by decide +kernel
theorem dX11_endsByLaying_1 : decode cX11_endsByLaying 1 = .ok (.invokevirtual 365, 3) := by decide +kernel
theorem dX11_endsByLaying_4 : decode cX11_endsByLaying 4 = .ok (.ifCond .ne 5, 3) := by decide +kernel
theorem dX11_endsByLaying_7 : decode cX11_endsByLaying 7 = .ok (.iconst 0, 1) := by decide +kernel
theorem dX11_endsByLaying_8 : decode cX11_endsByLaying 8 = .ok (.ireturn, 1) := by decide +kernel
theorem dX11_endsByLaying_9 : decode cX11_endsByLaying 9 = .ok (.aload_n 0, 1) := by decide +kernel
theorem dX11_endsByLaying_10 : decode cX11_endsByLaying 10 = .ok (.getfield 75, 3) := by decide +kernel
theorem dX11_endsByLaying_13 : decode cX11_endsByLaying 13 = .ok (.istore_n 1, 1) := by decide +kernel
theorem dX11_endsByLaying_14 : decode cX11_endsByLaying 14 = .ok (.aload_n 0, 1) := by decide +kernel
theorem dX11_endsByLaying_15 : decode cX11_endsByLaying 15 = .ok (.iconst 5, 1) := by decide +kernel
theorem dX11_endsByLaying_16 : decode cX11_endsByLaying 16 = .ok (.iload_n 1, 1) := by decide +kernel
theorem dX11_endsByLaying_17 : decode cX11_endsByLaying 17 = .ok (.iconst (-1), 1) := by decide +kernel
theorem dX11_endsByLaying_18 : decode cX11_endsByLaying 18 = .ok (.iconst 0, 1) := by decide +kernel
theorem dX11_endsByLaying_19 : decode cX11_endsByLaying 19 = .ok (.invokevirtual 328, 3) := by decide +kernel
theorem dX11_endsByLaying_22 : decode cX11_endsByLaying 22 = .ok (.aload_n 0, 1) := by decide +kernel
theorem dX11_endsByLaying_23 : decode cX11_endsByLaying 23 = .ok (.getfield 40, 3) := by decide +kernel
theorem dX11_endsByLaying_26 : decode cX11_endsByLaying 26 = .ok (.iload_n 1, 1) := by decide +kernel
theorem dX11_endsByLaying_27 : decode cX11_endsByLaying 27 = .ok (.iconst 1, 1) := by decide +kernel
theorem dX11_endsByLaying_28 : decode cX11_endsByLaying 28 = .ok (.bastore, 1) := by decide +kernel
theorem dX11_endsByLaying_29 : decode cX11_endsByLaying 29 = .ok (.aload_n 0, 1) := by decide +kernel
theorem dX11_endsByLaying_30 : decode cX11_endsByLaying 30 = .ok (.iconst 0, 1) := by decide +kernel
theorem dX11_endsByLaying_31 : decode cX11_endsByLaying 31 = .ok (.putfield 322, 3) := by decide +kernel
theorem dX11_endsByLaying_34 : decode cX11_endsByLaying 34 = .ok (.aload_n 0, 1) := by decide +kernel
theorem dX11_endsByLaying_35 : decode cX11_endsByLaying 35 = .ok (.iconst 0, 1) := by decide +kernel
theorem dX11_endsByLaying_36 : decode cX11_endsByLaying 36 = .ok (.putfield 303, 3) := by decide +kernel
theorem dX11_endsByLaying_39 : decode cX11_endsByLaying 39 = .ok (.aload_n 0, 1) := by decide +kernel
theorem dX11_endsByLaying_40 : decode cX11_endsByLaying 40 = .ok (.iload_n 1, 1) := by decide +kernel
theorem dX11_endsByLaying_41 : decode cX11_endsByLaying 41 = .ok (.invokevirtual 315, 3) := by decide +kernel
theorem dX11_endsByLaying_44 : decode cX11_endsByLaying 44 = .ok (.ifCond .ne 11, 3) := by decide +kernel
theorem dX11_endsByLaying_47 : decode cX11_endsByLaying 47 = .ok (.aload_n 0, 1) := by decide +kernel
theorem dX11_endsByLaying_48 : decode cX11_endsByLaying 48 = .ok (.iload_n 1, 1) := by decide +kernel
theorem dX11_endsByLaying_49 : decode cX11_endsByLaying 49 = .ok (.invokevirtual 368, 3) := by decide +kernel
theorem dX11_endsByLaying_52 : decode cX11_endsByLaying 52 = .ok (.goto 15, 3) := by decide +kernel
theorem dX11_endsByLaying_55 : decode cX11_endsByLaying 55 = .ok (.aload_n 0, 1) := by decide +kernel
theorem dX11_endsByLaying_56 : decode cX11_endsByLaying 56 = .ok (.iload_n 1, 1) := by decide +kernel
theorem dX11_endsByLaying_57 : decode cX11_endsByLaying 57 = .ok (.iconst 1, 1) := by decide +kernel
theorem dX11_endsByLaying_58 : decode cX11_endsByLaying 58 = .ok (.iadd, 1) := by decide +kernel
theorem dX11_endsByLaying_59 : decode cX11_endsByLaying 59 = .ok (.aload_n 0, 1) := by decide +kernel
theorem dX11_endsByLaying_60 : decode cX11_endsByLaying 60 = .ok (.getfield 186, 3) := by decide +kernel
theorem dX11_endsByLaying_63 : decode cX11_endsByLaying 63 = .ok (.irem, 1) := by decide +kernel
theorem dX11_endsByLaying_64 : decode cX11_endsByLaying 64 = .ok (.putfield 75, 3) := by decide +kernel
theorem dX11_endsByLaying_67 : decode cX11_endsByLaying 67 = .ok (.iconst 1, 1) := by decide +kernel
theorem dX11_endsByLaying_68 : decode cX11_endsByLaying 68 = .ok (.ireturn, 1) := by decide +kernel
theorem dX11_end_0 : decode cX11_end 0 = .ok (.aload_n 0, 1) := by decide +kernel
theorem dX11_end_1 : decode cX11_end 1 = .ok (.aload_n 0, 1) := by decide +kernel
theorem dX11_end_2 : decode cX11_end 2 = .ok (.invokevirtual 372, 3) := by decide +kernel
theorem dX11_end_5 : decode cX11_end 5 = .ok (.ifCond .eq 7, 3) := by decide +kernel
theorem dX11_end_8 : decode cX11_end 8 = .ok (.iconst 0, 1) := by decide +kernel
theorem dX11_end_9 : decode cX11_end 9 = .ok (.goto 4, 3) := by decide +kernel
theorem dX11_end_12 : decode cX11_end 12 = .ok (.iconst 1, 1) := by decide +kernel
theorem dX11_end_13 : decode cX11_end 13 = .ok (.invokevirtual 265, 3) := by decide +kernel
theorem dX11_end_16 : decode cX11_end 16 = .ok (.ifCond .eq 5, 3) := by decide +kernel
theorem dX11_end_19 : decode cX11_end 19 = .ok (.iconst (-1), 1) := by decide +kernel
theorem dX11_end_20 : decode cX11_end 20 = .ok (.ireturn, 1) := by decide +kernel
theorem dX11_end_21 : decode cX11_end 21 = .ok (.aload_n 0, 1) := by decide +kernel
theorem dX11_end_22 : decode cX11_end 22 = .ok (.getfield 75, 3) := by decide +kernel
theorem dX11_end_25 : decode cX11_end 25 = .ok (.ireturn, 1) := by decide +kernel
theorem dX11_passesAll_0 : decode cX11_passesAll 0 = .ok (.lconst 0, 1) := by decide +kernel
theorem dX11_passesAll_1 : decode cX11_passesAll 1 = .ok (.lstore_n 2, 1) := by decide +kernel
theorem dX11_passesAll_2 : decode cX11_passesAll 2 = .ok (.iconst 0, 1) := by decide +kernel
theorem dX11_passesAll_3 : decode cX11_passesAll 3 = .ok (.istore 4, 2) := by decide +kernel
theorem dX11_passesAll_5 : decode cX11_passesAll 5 = .ok (.iload 4, 2) := by decide +kernel
theorem dX11_passesAll_7 : decode cX11_passesAll 7 = .ok (.bipush 52, 2) := by decide +kernel
theorem dX11_passesAll_9 : decode cX11_passesAll 9 = .ok (.if_icmp .ge 41, 3) := by decide +kernel
theorem dX11_passesAll_12 : decode cX11_passesAll 12 = .ok (.lload_n 2, 1) := by decide +kernel
theorem dX11_passesAll_13 : decode cX11_passesAll 13 = .ok (.iload 4, 2) := by decide +kernel
theorem dX11_passesAll_15 : decode cX11_passesAll 15 = .ok (.bipush 13, 2) := by decide +kernel
theorem dX11_passesAll_17 : decode cX11_passesAll 17 = .ok (.irem, 1) := by decide +kernel
theorem dX11_passesAll_18 : decode cX11_passesAll 18 = .ok (.aload_n 0, 1) := by decide +kernel
theorem dX11_passesAll_19 : decode cX11_passesAll 19 = .ok (.getfield 9, 3) := by decide +kernel
theorem dX11_passesAll_22 : decode cX11_passesAll 22 = .ok (.if_icmp .ge 19, 3) := by decide +kernel
theorem dX11_passesAll_25 : decode cX11_passesAll 25 = .ok (.aload_n 0, 1) := by decide +kernel
theorem dX11_passesAll_26 : decode cX11_passesAll 26 = .ok (.iload 4, 2) := by decide +kernel
theorem dX11_passesAll_28 : decode cX11_passesAll 28 = .ok (.invokevirtual 297, 3) := by decide +kernel
theorem dX11_passesAll_31 : decode cX11_passesAll 31 = .ok (.ifCond .eq 10, 3) := by decide +kernel
theorem dX11_passesAll_34 : decode cX11_passesAll 34 = .ok (.lconst 1, 1) := by decide +kernel
theorem dX11_passesAll_35 : decode cX11_passesAll 35 = .ok (.iload 4, 2) := by decide +kernel
theorem dX11_passesAll_37 : decode cX11_passesAll 37 = .ok (.lshl, 1) := by decide +kernel
theorem dX11_passesAll_38 : decode cX11_passesAll 38 = .ok (.goto 4, 3) := by decide +kernel
theorem dX11_passesAll_41 : decode cX11_passesAll 41 = .ok (.lconst 0, 1) := by decide +kernel
theorem dX11_passesAll_42 : decode cX11_passesAll 42 = .ok (.lor, 1) := by decide +kernel
theorem dX11_passesAll_43 : decode cX11_passesAll 43 = .ok (.lstore_n 2, 1) := by decide +kernel
theorem dX11_passesAll_44 : decode cX11_passesAll 44 = .ok (.iinc 4 1, 3) := by decide +kernel
theorem dX11_passesAll_47 : decode cX11_passesAll 47 = .ok (.goto (-42), 3) := by decide +kernel
theorem dX11_passesAll_50 : decode cX11_passesAll 50 = .ok (.aload_n 0, 1) := by decide +kernel
theorem dX11_passesAll_51 : decode cX11_passesAll 51 = .ok (.getfield 50, 3) := by decide +kernel
theorem dX11_passesAll_54 : decode cX11_passesAll 54 = .ok (.iload_n 1, 1) := by decide +kernel
theorem dX11_passesAll_55 : decode cX11_passesAll 55 = .ok (.lload_n 2, 1) := by decide +kernel
theorem dX11_passesAll_56 : decode cX11_passesAll 56 = .ok (.lastore, 1) := by decide +kernel
theorem dX11_passesAll_57 : decode cX11_passesAll 57 = .ok (.aload_n 0, 1) := by decide +kernel
theorem dX11_passesAll_58 : decode cX11_passesAll 58 = .ok (.getfield 54, 3) := by decide +kernel
theorem dX11_passesAll_61 : decode cX11_passesAll 61 = .ok (.iload_n 1, 1) := by decide +kernel
theorem dX11_passesAll_62 : decode cX11_passesAll 62 = .ok (.iconst 1, 1) := by decide +kernel
theorem dX11_passesAll_63 : decode cX11_passesAll 63 = .ok (.bastore, 1) := by decide +kernel
theorem dX11_passesAll_64 : decode cX11_passesAll 64 = .ok (.aload_n 0, 1) := by decide +kernel
theorem dX11_passesAll_65 : decode cX11_passesAll 65 = .ok (.getfield 57, 3) := by decide +kernel
theorem dX11_passesAll_68 : decode cX11_passesAll 68 = .ok (.iload_n 1, 1) := by decide +kernel
theorem dX11_passesAll_69 : decode cX11_passesAll 69 = .ok (.iconst 0, 1) := by decide +kernel
theorem dX11_passesAll_70 : decode cX11_passesAll 70 = .ok (.iastore, 1) := by decide +kernel
theorem dX11_passesAll_71 : decode cX11_passesAll 71 = .ok (.return_, 1) := by decide +kernel
theorem dX11_endsByDrawing_0 : decode cX11_endsByDrawing 0 = .ok (.aload_n 0, 1) := by decide +kernel
theorem dX11_endsByDrawing_1 : decode cX11_endsByDrawing 1 = .ok (.getfield 75, 3) := by decide +kernel
theorem dX11_endsByDrawing_4 : decode cX11_endsByDrawing 4 = .ok (.istore_n 2, 1) := by decide +kernel
theorem dX11_endsByDrawing_5 : decode cX11_endsByDrawing 5 = .ok (.aload_n 0, 1) := by decide +kernel
theorem dX11_endsByDrawing_6 : decode cX11_endsByDrawing 6 = .ok (.getfield 303, 3) := by decide +kernel
theorem dX11_endsByDrawing_9 : decode cX11_endsByDrawing 9 = .ok (.ifCond .le 7, 3) := by decide +kernel
theorem dX11_endsByDrawing_12 : decode cX11_endsByDrawing 12 = .ok (.iconst 1, 1) := by decide +kernel
theorem dX11_endsByDrawing_13 : decode cX11_endsByDrawing 13 = .ok (.goto 4, 3) := by decide +kernel
theorem dX11_endsByDrawing_16 : decode cX11_endsByDrawing 16 = .ok (.iconst 0, 1) := by decide +kernel
theorem dX11_endsByDrawing_17 : decode cX11_endsByDrawing 17 = .ok (.istore_n 3, 1) := by decide +kernel
theorem dX11_endsByDrawing_18 : decode cX11_endsByDrawing 18 = .ok (.iload_n 3, 1) := by decide +kernel
theorem dX11_endsByDrawing_19 : decode cX11_endsByDrawing 19 = .ok (.ifCond .ne 17, 3) := by decide +kernel
theorem dX11_endsByDrawing_22 : decode cX11_endsByDrawing 22 = .ok (.aload_n 0, 1) := by decide +kernel
theorem dX11_endsByDrawing_23 : decode cX11_endsByDrawing 23 = .ok (.getfield 40, 3) := by decide +kernel
theorem dX11_endsByDrawing_26 : decode cX11_endsByDrawing 26 = .ok (.iload_n 2, 1) := by decide +kernel
theorem dX11_endsByDrawing_27 : decode cX11_endsByDrawing 27 = .ok (.baload, 1) := by decide +kernel
theorem dX11_endsByDrawing_28 : decode cX11_endsByDrawing 28 = .ok (.ifCond .eq 8, 3) := by decide +kernel
theorem dX11_endsByDrawing_31 : decode cX11_endsByDrawing 31 = .ok (.aload_n 0, 1) := by decide +kernel
theorem dX11_endsByDrawing_32 : decode cX11_endsByDrawing 32 = .ok (.iload_n 2, 1) := by decide +kernel
theorem dX11_endsByDrawing_33 : decode cX11_endsByDrawing 33 = .ok (.invokevirtual 375, 3) := by decide +kernel
theorem dX11_endsByDrawing_36 : decode cX11_endsByDrawing 36 = .ok (.aload_n 0, 1) := by decide +kernel
theorem dX11_endsByDrawing_37 : decode cX11_endsByDrawing 37 = .ok (.getfield 303, 3) := by decide +kernel
theorem dX11_endsByDrawing_40 : decode cX11_endsByDrawing 40 = .ok (.ifCond .le 11, 3) := by decide +kernel
theorem dX11_endsByDrawing_43 : decode cX11_endsByDrawing 43 = .ok (.aload_n 0, 1) := by decide +kernel
theorem dX11_endsByDrawing_44 : decode cX11_endsByDrawing 44 = .ok (.invokevirtual 350, 3) := by decide +kernel
theorem dX11_endsByDrawing_47 : decode cX11_endsByDrawing 47 = .ok (.pop, 1) := by decide +kernel
theorem dX11_endsByDrawing_48 : decode cX11_endsByDrawing 48 = .ok (.goto (-12), 3) := by decide +kernel
theorem dX11_endsByDrawing_51 : decode cX11_endsByDrawing 51 = .ok (.iconst 0, 1) := by decide +kernel
theorem dX11_endsByDrawing_52 : decode cX11_endsByDrawing 52 = .ok (.istore 4, 2) := by decide +kernel
theorem dX11_endsByDrawing_54 : decode cX11_endsByDrawing 54 = .ok (.iconst 0, 1) := by decide +kernel
theorem dX11_endsByDrawing_55 : decode cX11_endsByDrawing 55 = .ok (.istore 5, 2) := by decide +kernel
theorem dX11_endsByDrawing_57 : decode cX11_endsByDrawing 57 = .ok (.iload 5, 2) := by decide +kernel
theorem dX11_endsByDrawing_59 : decode cX11_endsByDrawing 59 = .ok (.iload_n 3, 1) := by decide +kernel
theorem dX11_endsByDrawing_60 : decode cX11_endsByDrawing 60 = .ok (.ifCond .eq 10, 3) := by decide +kernel
theorem dX11_endsByDrawing_63 : decode cX11_endsByDrawing 63 = .ok (.aload_n 0, 1) := by decide +kernel
theorem dX11_endsByDrawing_64 : decode cX11_endsByDrawing 64 = .ok (.getfield 24, 3) := by decide +kernel
theorem dX11_endsByDrawing_67 : decode cX11_endsByDrawing 67 = .ok (.goto 4, 3) := by decide +kernel
theorem dX11_endsByDrawing_70 : decode cX11_endsByDrawing 70 = .ok (.iconst 1, 1) := by decide +kernel
theorem dX11_endsByDrawing_71 : decode cX11_endsByDrawing 71 = .ok (.if_icmp .ge 19, 3) := by decide +kernel
theorem dX11_endsByDrawing_74 : decode cX11_endsByDrawing 74 = .ok (.iload 4, 2) := by decide +kernel
theorem dX11_endsByDrawing_76 : decode cX11_endsByDrawing 76 = .ok (.aload_n 0, 1) := by decide +kernel
theorem dX11_endsByDrawing_77 : decode cX11_endsByDrawing 77 = .ok (.iload_n 2, 1) := by decide +kernel
theorem dX11_endsByDrawing_78 : decode cX11_endsByDrawing 78 = .ok (.invokevirtual 325, 3) := by decide +kernel
theorem dX11_endsByDrawing_81 : decode cX11_endsByDrawing 81 = .ok (.iadd, 1) := by decide +kernel
theorem dX11_endsByDrawing_82 : decode cX11_endsByDrawing 82 = .ok (.istore 4, 2) := by decide +kernel
theorem dX11_endsByDrawing_84 : decode cX11_endsByDrawing 84 = .ok (.iinc 5 1, 3) := by decide +kernel
theorem dX11_endsByDrawing_87 : decode cX11_endsByDrawing 87 = .ok (.goto (-30), 3) := by decide +kernel
theorem dX11_endsByDrawing_90 : decode cX11_endsByDrawing 90 = .ok (.aload_n 0, 1) := by decide +kernel
theorem dX11_endsByDrawing_91 : decode cX11_endsByDrawing 91 = .ok (.getfield 57, 3) := by decide +kernel
theorem dX11_endsByDrawing_94 : decode cX11_endsByDrawing 94 = .ok (.iload_n 2, 1) := by decide +kernel
theorem dX11_endsByDrawing_95 : decode cX11_endsByDrawing 95 = .ok (.dup2, 1) := by decide +kernel
theorem dX11_endsByDrawing_96 : decode cX11_endsByDrawing 96 = .ok (.iaload, 1) := by decide +kernel
theorem dX11_endsByDrawing_97 : decode cX11_endsByDrawing 97 = .ok (.aload_n 0, 1) := by decide +kernel
theorem dX11_endsByDrawing_98 : decode cX11_endsByDrawing 98 = .ok (.getfield 54, 3) := by decide +kernel
theorem dX11_endsByDrawing_101 : decode cX11_endsByDrawing 101 = .ok (.iload_n 2, 1) := by decide +kernel
theorem dX11_endsByDrawing_102 : decode cX11_endsByDrawing 102 = .ok (.baload, 1) := by decide +kernel
theorem dX11_endsByDrawing_103 : decode cX11_endsByDrawing 103 = .ok (.ifCond .eq 8, 3) := by decide +kernel
theorem dX11_endsByDrawing_106 : decode cX11_endsByDrawing 106 = .ok (.iload 4, 2) := by decide +kernel
theorem dX11_endsByDrawing_108 : decode cX11_endsByDrawing 108 = .ok (.goto 4, 3) := by decide +kernel
theorem dX11_endsByDrawing_111 : decode cX11_endsByDrawing 111 = .ok (.iconst 0, 1) := by decide +kernel
theorem dX11_endsByDrawing_112 : decode cX11_endsByDrawing 112 = .ok (.iadd, 1) := by decide +kernel
theorem dX11_endsByDrawing_113 : decode cX11_endsByDrawing 113 = .ok (.iastore, 1) := by decide +kernel
theorem dX11_endsByDrawing_114 : decode cX11_endsByDrawing 114 = .ok (.aload_n 0, 1) := by decide +kernel
theorem dX11_endsByDrawing_115 : decode cX11_endsByDrawing 115 = .ok (.iload_n 1, 1) := by decide +kernel
theorem dX11_endsByDrawing_116 : decode cX11_endsByDrawing 116 = .ok (.iload_n 2, 1) := by decide +kernel
theorem dX11_endsByDrawing_117 : decode cX11_endsByDrawing 117 = .ok (.iconst (-1), 1) := by decide +kernel
theorem dX11_endsByDrawing_118 : decode cX11_endsByDrawing 118 = .ok (.iload 4, 2) := by decide +kernel
theorem dX11_endsByDrawing_120 : decode cX11_endsByDrawing 120 = .ok (.invokevirtual 328, 3) := by decide +kernel
theorem dX11_endsByDrawing_123 : decode cX11_endsByDrawing 123 = .ok (.aload_n 0, 1) := by decide +kernel
theorem dX11_endsByDrawing_124 : decode cX11_endsByDrawing 124 = .ok (.iload 4, 2) := by decide +kernel
theorem dX11_endsByDrawing_126 : decode cX11_endsByDrawing 126 = .ok (.ifCond .ne 12, 3) := by decide +kernel
theorem dX11_endsByDrawing_129 : decode cX11_endsByDrawing 129 = .ok (.aload_n 0, 1) := by decide +kernel
theorem dX11_endsByDrawing_130 : decode cX11_endsByDrawing 130 = .ok (.getfield 322, 3) := by decide +kernel
theorem dX11_endsByDrawing_133 : decode cX11_endsByDrawing 133 = .ok (.iconst 1, 1) := by decide +kernel
theorem dX11_endsByDrawing_134 : decode cX11_endsByDrawing 134 = .ok (.iadd, 1) := by decide +kernel
theorem dX11_endsByDrawing_135 : decode cX11_endsByDrawing 135 = .ok (.goto 4, 3) := by decide +kernel
theorem dX11_endsByDrawing_138 : decode cX11_endsByDrawing 138 = .ok (.iconst 0, 1) := by decide +kernel
theorem dX11_endsByDrawing_139 : decode cX11_endsByDrawing 139 = .ok (.putfield 322, 3) := by decide +kernel
theorem dX11_endsByDrawing_142 : decode cX11_endsByDrawing 142 = .ok (.aload_n 0, 1) := by decide +kernel
theorem dX11_endsByDrawing_143 : decode cX11_endsByDrawing 143 = .ok (.getfield 322, 3) := by decide +kernel
theorem dX11_endsByDrawing_146 : decode cX11_endsByDrawing 146 = .ok (.aload_n 0, 1) := by decide +kernel
theorem dX11_endsByDrawing_147 : decode cX11_endsByDrawing 147 = .ok (.getfield 186, 3) := by decide +kernel
theorem dX11_endsByDrawing_150 : decode cX11_endsByDrawing 150 = .ok (.if_icmp .ne 57, 3) := by decide +kernel
theorem dX11_endsByDrawing_153 : decode cX11_endsByDrawing 153 = .ok (.iconst 0, 1) := by decide +kernel
theorem dX11_endsByDrawing_154 : decode cX11_endsByDrawing 154 = .ok (.istore 5, 2) := by decide +kernel
theorem dX11_endsByDrawing_156 : decode cX11_endsByDrawing 156 = .ok (.iconst 1, 1) := by decide +kernel
theorem dX11_endsByDrawing_157 : decode cX11_endsByDrawing 157 = .ok (.istore 6, 2) := by decide +kernel
theorem dX11_endsByDrawing_159 : decode cX11_endsByDrawing 159 = .ok (.iload 6, 2) := by decide +kernel
theorem dX11_endsByDrawing_161 : decode cX11_endsByDrawing 161 = .ok (.aload_n 0, 1) := by decide +kernel
theorem dX11_endsByDrawing_162 : decode cX11_endsByDrawing 162 = .ok (.getfield 186, 3) := by decide +kernel
theorem dX11_endsByDrawing_165 : decode cX11_endsByDrawing 165 = .ok (.if_icmp .ge 33, 3) := by decide +kernel
theorem dX11_endsByDrawing_168 : decode cX11_endsByDrawing 168 = .ok (.aload_n 0, 1) := by decide +kernel
theorem dX11_endsByDrawing_169 : decode cX11_endsByDrawing 169 = .ok (.iload 6, 2) := by decide +kernel
theorem dX11_endsByDrawing_171 : decode cX11_endsByDrawing 171 = .ok (.invokevirtual 356, 3) := by decide +kernel
theorem dX11_endsByDrawing_174 : decode cX11_endsByDrawing 174 = .ok (.aload_n 0, 1) := by decide +kernel
theorem dX11_endsByDrawing_175 : decode cX11_endsByDrawing 175 = .ok (.iload 5, 2) := by decide +kernel
theorem dX11_endsByDrawing_177 : decode cX11_endsByDrawing 177 = .ok (.invokevirtual 356, 3) := by decide +kernel
theorem dX11_endsByDrawing_180 : decode cX11_endsByDrawing 180 = .ok (.if_icmp .ge 8, 3) := by decide +kernel
theorem dX11_endsByDrawing_183 : decode cX11_endsByDrawing 183 = .ok (.iload 6, 2) := by decide +kernel
theorem dX11_endsByDrawing_185 : decode cX11_endsByDrawing 185 = .ok (.goto 5, 3) := by decide +kernel
theorem dX11_endsByDrawing_188 : decode cX11_endsByDrawing 188 = .ok (.iload 5, 2) := by decide +kernel
theorem dX11_endsByDrawing_190 : decode cX11_endsByDrawing 190 = .ok (.istore 5, 2) := by decide +kernel
theorem dX11_endsByDrawing_192 : decode cX11_endsByDrawing 192 = .ok (.iinc 6 1, 3) := by decide +kernel
theorem dX11_endsByDrawing_195 : decode cX11_endsByDrawing 195 = .ok (.goto (-36), 3) := by decide +kernel
theorem dX11_endsByDrawing_198 : decode cX11_endsByDrawing 198 = .ok (.aload_n 0, 1) := by decide +kernel
theorem dX11_endsByDrawing_199 : decode cX11_endsByDrawing 199 = .ok (.iload 5, 2) := by decide +kernel
theorem dX11_endsByDrawing_201 : decode cX11_endsByDrawing 201 = .ok (.invokevirtual 368, 3) := by decide +kernel
theorem dX11_endsByDrawing_204 : decode cX11_endsByDrawing 204 = .ok (.goto 15, 3) := by decide +kernel
theorem dX11_endsByDrawing_207 : decode cX11_endsByDrawing 207 = .ok (.aload_n 0, 1) := by decide +kernel
theorem dX11_endsByDrawing_208 : decode cX11_endsByDrawing 208 = .ok (.iload_n 2, 1) := by decide +kernel
theorem dX11_endsByDrawing_209 : decode cX11_endsByDrawing 209 = .ok (.iconst 1, 1) := by decide +kernel
theorem dX11_endsByDrawing_210 : decode cX11_endsByDrawing 210 = .ok (.iadd, 1) := by decide +kernel
theorem dX11_endsByDrawing_211 : decode cX11_endsByDrawing 211 = .ok (.aload_n 0, 1) := by decide +kernel
theorem dX11_endsByDrawing_212 : decode cX11_endsByDrawing 212 = .ok (.getfield 186, 3) := by decide +kernel
theorem dX11_endsByDrawing_215 : decode cX11_endsByDrawing 215 = .ok (.irem, 1) := by decide +kernel
theorem dX11_endsByDrawing_216 : decode cX11_endsByDrawing 216 = .ok (.putfield 75, 3) := by decide +kernel
theorem dX11_endsByDrawing_219 : decode cX11_endsByDrawing 219 = .ok (.iload 4, 2) := by decide +kernel
theorem dX11_endsByDrawing_221 : decode cX11_endsByDrawing 221 = .ok (.ireturn, 1) := by decide +kernel
theorem dX11_draw_0 : decode cX11_draw 0 = .ok (.aload_n 0, 1) := by decide +kernel
theorem dX11_draw_1 : decode cX11_draw 1 = .ok (.aload_n 0, 1) := by decide +kernel
theorem dX11_draw_2 : decode cX11_draw 2 = .ok (.getfield 75, 3) := by decide +kernel
theorem dX11_draw_5 : decode cX11_draw 5 = .ok (.iconst (-1), 1) := by decide +kernel
theorem dX11_draw_6 : decode cX11_draw 6 = .ok (.if_icmp .ne 7, 3) := by decide +kernel
theorem dX11_draw_9 : decode cX11_draw 9 = .ok (.iconst 1, 1) := by decide +kernel
theorem dX11_draw_10 : decode cX11_draw 10 = .ok (.goto 4, 3) := by decide +kernel
theorem dX11_draw_13 : decode cX11_draw 13 = .ok (.iconst 0, 1) := by decide +kernel
theorem dX11_draw_14 : decode cX11_draw 14 = .ok (.invokevirtual 265, 3) := by decide +kernel
theorem dX11_draw_17 : decode cX11_draw 17 = .ok (.ifCond .eq 5, 3) := by decide +kernel
theorem dX11_draw_20 : decode cX11_draw 20 = .ok (.iconst (-1), 1) := by decide +kernel
theorem dX11_draw_21 : decode cX11_draw 21 = .ok (.ireturn, 1) := by decide +kernel
theorem dX11_draw_22 : decode cX11_draw 22 = .ok (.aload_n 0, 1) := by decide +kernel
theorem dX11_draw_23 : decode cX11_draw 23 = .ok (.bipush 6, 2) := by decide +kernel
theorem dX11_draw_25 : decode cX11_draw 25 = .ok (.invokevirtual 378, 3) := by decide +kernel
theorem dX11_draw_28 : decode cX11_draw 28 = .ok (.ireturn, 1) := by decide +kernel
theorem dX11_tick_0 : decode cX11_tick 0 = .ok (.aload_n 0, 1) := by decide +kernel
theorem dX11_tick_1 : decode cX11_tick 1 = .ok (.aload_n 0, 1) := by decide +kernel
theorem dX11_tick_2 : decode cX11_tick 2 = .ok (.iload_n 1, 1) := by decide +kernel
theorem dX11_tick_3 : decode cX11_tick 3 = .ok (.iconst 1, 1) := by decide +kernel
theorem dX11_tick_4 : decode cX11_tick 4 = .ok (.sipush 999, 3) := by decide +kernel
theorem dX11_tick_7 : decode cX11_tick 7 = .ok (.invokevirtual 182, 3) := by decide +kernel
theorem dX11_tick_10 : decode cX11_tick 10 = .ok (.ifCond .ne 7, 3) := by decide +kernel
theorem dX11_tick_13 : decode cX11_tick 13 = .ok (.iconst 1, 1) := by decide +kernel
theorem dX11_tick_14 : decode cX11_tick 14 = .ok (.goto 16, 3) := by decide +kernel
theorem dX11_tick_17 : decode cX11_tick 17 = .ok (.aload_n 0, 1) := by decide +kernel
theorem dX11_tick_18 : decode cX11_tick 18 = .ok (.getfield 75, 3) := by decide +kernel
theorem dX11_tick_21 : decode cX11_tick 21 = .ok (.iconst (-1), 1) := by decide +kernel
theorem dX11_tick_22 : decode cX11_tick 22 = .ok (.if_icmp .ne 7, 3) := by decide +kernel
theorem dX11_tick_25 : decode cX11_tick 25 = .ok (.iconst 2, 1) := by decide +kernel
theorem dX11_tick_26 : decode cX11_tick 26 = .ok (.goto 4, 3) := by decide +kernel
theorem dX11_tick_29 : decode cX11_tick 29 = .ok (.iconst 0, 1) := by decide +kernel
theorem dX11_tick_30 : decode cX11_tick 30 = .ok (.invokevirtual 265, 3) := by decide +kernel
theorem dX11_tick_33 : decode cX11_tick 33 = .ok (.ifCond .eq 5, 3) := by decide +kernel
theorem dX11_tick_36 : decode cX11_tick 36 = .ok (.iconst (-1), 1) := by decide +kernel
theorem dX11_tick_37 : decode cX11_tick 37 = .ok (.ireturn, 1) := by decide +kernel
theorem dX11_tick_38 : decode cX11_tick 38 = .ok (.aload_n 0, 1) := by decide +kernel
theorem dX11_tick_39 : decode cX11_tick 39 = .ok (.getfield 75, 3) := by decide +kernel
theorem dX11_tick_42 : decode cX11_tick 42 = .ok (.istore_n 2, 1) := by decide +kernel
theorem dX11_tick_43 : decode cX11_tick 43 = .ok (.aload_n 0, 1) := by decide +kernel
theorem dX11_tick_44 : decode cX11_tick 44 = .ok (.getfield 37, 3) := by decide +kernel
theorem dX11_tick_47 : decode cX11_tick 47 = .ok (.iload_n 2, 1) := by decide +kernel
theorem dX11_tick_48 : decode cX11_tick 48 = .ok (.aload_n 0, 1) := by decide +kernel
theorem dX11_tick_49 : decode cX11_tick 49 = .ok (.getfield 37, 3) := by decide +kernel
theorem dX11_tick_52 : decode cX11_tick 52 = .ok (.iload_n 2, 1) := by decide +kernel
theorem dX11_tick_53 : decode cX11_tick 53 = .ok (.iaload, 1) := by decide +kernel
theorem dX11_tick_54 : decode cX11_tick 54 = .ok (.iload_n 1, 1) := by decide +kernel
theorem dX11_tick_55 : decode cX11_tick 55 = .ok (.if_icmp .le 14, 3) := by decide +kernel
theorem dX11_tick_58 : decode cX11_tick 58 = .ok (.aload_n 0, 1) := by decide +kernel
theorem dX11_tick_59 : decode cX11_tick 59 = .ok (.getfield 37, 3) := by decide +kernel
theorem dX11_tick_62 : decode cX11_tick 62 = .ok (.iload_n 2, 1) := by decide +kernel
theorem dX11_tick_63 : decode cX11_tick 63 = .ok (.iaload, 1) := by decide +kernel
theorem dX11_tick_64 : decode cX11_tick 64 = .ok (.iload_n 1, 1) := by decide +kernel
theorem dX11_tick_65 : decode cX11_tick 65 = .ok (.isub, 1) := by decide +kernel
theorem dX11_tick_66 : decode cX11_tick 66 = .ok (.goto 4, 3) := by decide +kernel
theorem dX11_tick_69 : decode cX11_tick 69 = .ok (.iconst 0, 1) := by decide +kernel
theorem dX11_tick_70 : decode cX11_tick 70 = .ok (.iastore, 1) := by decide +kernel
theorem dX11_tick_71 : decode cX11_tick 71 = .ok (.aload_n 0, 1) := by decide +kernel
theorem dX11_tick_72 : decode cX11_tick 72 = .ok (.getfield 37, 3) := by decide +kernel
theorem dX11_tick_75 : decode cX11_tick 75 = .ok (.iload_n 2, 1) := by decide +kernel
theorem dX11_tick_76 : decode cX11_tick 76 = .ok (.iaload, 1) := by decide +kernel
theorem dX11_tick_77 : decode cX11_tick 77 = .ok (.ifCond .ne 10, 3) := by decide +kernel
theorem dX11_tick_80 : decode cX11_tick 80 = .ok (.aload_n 0, 1) := by decide +kernel
theorem dX11_tick_81 : decode cX11_tick 81 = .ok (.bipush 7, 2) := by decide +kernel
theorem dX11_tick_83 : decode cX11_tick 83 = .ok (.invokevirtual 378, 3) := by decide +kernel
theorem dX11_tick_86 : decode cX11_tick 86 = .ok (.pop, 1) := by decide +kernel
theorem dX11_tick_87 : decode cX11_tick 87 = .ok (.aload_n 0, 1) := by decide +kernel
theorem dX11_tick_88 : decode cX11_tick 88 = .ok (.getfield 37, 3) := by decide +kernel
theorem dX11_tick_91 : decode cX11_tick 91 = .ok (.iload_n 2, 1) := by decide +kernel
theorem dX11_tick_92 : decode cX11_tick 92 = .ok (.iaload, 1) := by decide +kernel
theorem dX11_tick_93 : decode cX11_tick 93 = .ok (.ireturn, 1) := by decide +kernel
theorem dX11_laysAll_0 : decode cX11_laysAll 0 = .ok (.iconst 0, 1) := by decide +kernel
theorem dX11_laysAll_1 : decode cX11_laysAll 1 = .ok (.istore_n 1, 1) := by decide +kernel
theorem dX11_laysAll_2 : decode cX11_laysAll 2 = .ok (.iconst 0, 1) := by decide +kernel
theorem dX11_laysAll_3 : decode cX11_laysAll 3 = .ok (.istore_n 2, 1) := by decide +kernel
theorem dX11_laysAll_4 : decode cX11_laysAll 4 = .ok (.iload_n 2, 1) := by decide +kernel
theorem dX11_laysAll_5 : decode cX11_laysAll 5 = .ok (.bipush 52, 2) := by decide +kernel
theorem dX11_laysAll_7 : decode cX11_laysAll 7 = .ok (.if_icmp .ge 36, 3) := by decide +kernel
theorem dX11_laysAll_10 : decode cX11_laysAll 10 = .ok (.iconst 0, 1) := by decide +kernel
theorem dX11_laysAll_11 : decode cX11_laysAll 11 = .ok (.istore_n 3, 1) := by decide +kernel
theorem dX11_laysAll_12 : decode cX11_laysAll 12 = .ok (.iload_n 3, 1) := by decide +kernel
theorem dX11_laysAll_13 : decode cX11_laysAll 13 = .ok (.aload_n 0, 1) := by decide +kernel
theorem dX11_laysAll_14 : decode cX11_laysAll 14 = .ok (.getfield 161, 3) := by decide +kernel
theorem dX11_laysAll_17 : decode cX11_laysAll 17 = .ok (.iload_n 2, 1) := by decide +kernel
theorem dX11_laysAll_18 : decode cX11_laysAll 18 = .ok (.iaload, 1) := by decide +kernel
theorem dX11_laysAll_19 : decode cX11_laysAll 19 = .ok (.if_icmp .ge 18, 3) := by decide +kernel
theorem dX11_laysAll_22 : decode cX11_laysAll 22 = .ok (.aload_n 0, 1) := by decide +kernel
theorem dX11_laysAll_23 : decode cX11_laysAll 23 = .ok (.iload_n 2, 1) := by decide +kernel
theorem dX11_laysAll_24 : decode cX11_laysAll 24 = .ok (.invokevirtual 338, 3) := by decide +kernel
theorem dX11_laysAll_27 : decode cX11_laysAll 27 = .ok (.pop, 1) := by decide +kernel
theorem dX11_laysAll_28 : decode cX11_laysAll 28 = .ok (.iinc 1 1, 3) := by decide +kernel
theorem dX11_laysAll_31 : decode cX11_laysAll 31 = .ok (.iinc 3 1, 3) := by decide +kernel
theorem dX11_laysAll_34 : decode cX11_laysAll 34 = .ok (.goto (-22), 3) := by decide +kernel
theorem dX11_laysAll_37 : decode cX11_laysAll 37 = .ok (.iinc 2 1, 3) := by decide +kernel
theorem dX11_laysAll_40 : decode cX11_laysAll 40 = .ok (.goto (-36), 3) := by decide +kernel
theorem dX11_laysAll_43 : decode cX11_laysAll 43 = .ok (.aload_n 0, 1) := by decide +kernel
theorem dX11_laysAll_44 : decode cX11_laysAll 44 = .ok (.invokevirtual 372, 3) := by decide +kernel
theorem dX11_laysAll_47 : decode cX11_laysAll 47 = .ok (.pop, 1) := by decide +kernel
theorem dX11_laysAll_48 : decode cX11_laysAll 48 = .ok (.iload_n 1, 1) := by decide +kernel
theorem dX11_laysAll_49 : decode cX11_laysAll 49 = .ok (.ireturn, 1) := by decide +kernel
theorem dX11_blocks_0 : decode cX11_blocks 0 = .ok (.iconst 0, 1) := by decide +kernel
theorem dX11_blocks_1 : decode cX11_blocks 1 = .ok (.istore_n 2, 1) := by decide +kernel
theorem dX11_blocks_2 : decode cX11_blocks 2 = .ok (.iload_n 2, 1) := by decide +kernel
theorem dX11_blocks_3 : decode cX11_blocks 3 = .ok (.bipush 52, 2) := by decide +kernel
theorem dX11_blocks_5 : decode cX11_blocks 5 = .ok (.if_icmp .ge 44, 3) := by decide +kernel
theorem dX11_blocks_8 : decode cX11_blocks 8 = .ok (.aload_n 0, 1) := by decide +kernel
theorem dX11_blocks_9 : decode cX11_blocks 9 = .ok (.getfield 63, 3) := by decide +kernel
theorem dX11_blocks_12 : decode cX11_blocks 12 = .ok (.bipush 53, 2) := by decide +kernel
theorem dX11_blocks_14 : decode cX11_blocks 14 = .ok (.iload_n 1, 1) := by decide +kernel
theorem dX11_blocks_15 : decode cX11_blocks 15 = .ok (.imul, 1) := by decide +kernel
theorem dX11_blocks_16 : decode cX11_blocks 16 = .ok (.iload_n 2, 1) := by decide +kernel
theorem dX11_blocks_17 : decode cX11_blocks 17 = .ok (.iadd, 1) := by decide +kernel
theorem dX11_blocks_18 : decode cX11_blocks 18 = .ok (.iaload, 1) := by decide +kernel
theorem dX11_blocks_19 : decode cX11_blocks 19 = .ok (.ifCond .le 24, 3) := by decide +kernel
theorem dX11_blocks_22 : decode cX11_blocks 22 = .ok (.aload_n 0, 1) := by decide +kernel
theorem dX11_blocks_23 : decode cX11_blocks 23 = .ok (.iload_n 2, 1) := by decide +kernel
theorem dX11_blocks_24 : decode cX11_blocks 24 = .ok (.invokevirtual 297, 3) := by decide +kernel
theorem dX11_blocks_27 : decode cX11_blocks 27 = .ok (.ifCond .eq 16, 3) := by decide +kernel
theorem dX11_blocks_30 : decode cX11_blocks 30 = .ok (.aload_n 0, 1) := by decide +kernel
theorem dX11_blocks_31 : decode cX11_blocks 31 = .ok (.iload_n 2, 1) := by decide +kernel
theorem dX11_blocks_32 : decode cX11_blocks 32 = .ok (.invokevirtual 338, 3) := by decide +kernel
theorem dX11_blocks_35 : decode cX11_blocks 35 = .ok (.pop, 1) := by decide +kernel
theorem dX11_blocks_36 : decode cX11_blocks 36 = .ok (.aload_n 0, 1) := by decide +kernel
theorem dX11_blocks_37 : decode cX11_blocks 37 = .ok (.invokevirtual 372, 3) := by decide +kernel
theorem dX11_blocks_40 : decode cX11_blocks 40 = .ok (.pop, 1) := by decide +kernel
theorem dX11_blocks_41 : decode cX11_blocks 41 = .ok (.iconst 1, 1) := by decide +kernel
theorem dX11_blocks_42 : decode cX11_blocks 42 = .ok (.ireturn, 1) := by decide +kernel
theorem dX11_blocks_43 : decode cX11_blocks 43 = .ok (.iinc 2 1, 3) := by decide +kernel
theorem dX11_blocks_46 : decode cX11_blocks 46 = .ok (.goto (-44), 3) := by decide +kernel
theorem dX11_blocks_49 : decode cX11_blocks 49 = .ok (.aload_n 0, 1) := by decide +kernel
theorem dX11_blocks_50 : decode cX11_blocks 50 = .ok (.bipush 6, 2) := by decide +kernel
theorem dX11_blocks_52 : decode cX11_blocks 52 = .ok (.invokevirtual 378, 3) := by decide +kernel
theorem dX11_blocks_55 : decode cX11_blocks 55 = .ok (.pop, 1) := by decide +kernel
theorem dX11_blocks_56 : decode cX11_blocks 56 = .ok (.iconst 0, 1) := by decide +kernel
theorem dX11_blocks_57 : decode cX11_blocks 57 = .ok (.ireturn, 1) := by decide +kernel
theorem dX11_auto_0 : decode cX11_auto 0 = .ok (.aload_n 0, 1) := by decide +kernel
theorem dX11_auto_1 : decode cX11_auto 1 = .ok (.aload_n 0, 1) := by decide +kernel
theorem dX11_auto_2 : decode cX11_auto 2 = .ok (.getfield 75, 3) := by decide +kernel
theorem dX11_auto_5 : decode cX11_auto 5 = .ok (.iconst (-1), 1) := by decide +kernel
theorem dX11_auto_6 : decode cX11_auto 6 = .ok (.if_icmp .eq 22, 3) := by decide +kernel
theorem dX11_auto_9 : decode cX11_auto 9 = .ok (.aload_n 0, 1) := by decide +kernel
theorem dX11_auto_10 : decode cX11_auto 10 = .ok (.getfield 31, 3) := by decide +kernel
theorem dX11_auto_13 : decode cX11_auto 13 = .ok (.aload_n 0, 1) := by decide +kernel
theorem dX11_auto_14 : decode cX11_auto 14 = .ok (.getfield 75, 3) := by decide +kernel
theorem dX11_auto_17 : decode cX11_auto 17 = .ok (.iaload, 1) := by decide +kernel
theorem dX11_auto_18 : decode cX11_auto 18 = .ok (.ifCond .eq 10, 3) := by decide +kernel
theorem dX11_auto_21 : decode cX11_auto 21 = .ok (.aload_n 0, 1) := by decide +kernel
theorem dX11_auto_22 : decode cX11_auto 22 = .ok (.getfield 303, 3) := by decide +kernel
theorem dX11_auto_25 : decode cX11_auto 25 = .ok (.ifCond .le 7, 3) := by decide +kernel
theorem dX11_auto_28 : decode cX11_auto 28 = .ok (.iconst 1, 1) := by decide +kernel
theorem dX11_auto_29 : decode cX11_auto 29 = .ok (.goto 4, 3) := by decide +kernel
theorem dX11_auto_32 : decode cX11_auto 32 = .ok (.iconst 0, 1) := by decide +kernel
theorem dX11_auto_33 : decode cX11_auto 33 = .ok (.invokevirtual 265, 3) := by decide +kernel
theorem dX11_auto_36 : decode cX11_auto 36 = .ok (.ifCond .eq 5, 3) := by decide +kernel
theorem dX11_auto_39 : decode cX11_auto 39 = .ok (.iconst (-1), 1) := by decide +kernel
theorem dX11_auto_40 : decode cX11_auto 40 = .ok (.ireturn, 1) := by decide +kernel
theorem dX11_auto_41 : decode cX11_auto 41 = .ok (.aload_n 0, 1) := by decide +kernel
theorem dX11_auto_42 : decode cX11_auto 42 = .ok (.getfield 75, 3) := by decide +kernel
theorem dX11_auto_45 : decode cX11_auto 45 = .ok (.istore_n 1, 1) := by decide +kernel
theorem dX11_auto_46 : decode cX11_auto 46 = .ok (.aload_n 0, 1) := by decide +kernel
theorem dX11_auto_47 : decode cX11_auto 47 = .ok (.getfield 31, 3) := by decide +kernel
theorem dX11_auto_50 : decode cX11_auto 50 = .ok (.iload_n 1, 1) := by decide +kernel
theorem dX11_auto_51 : decode cX11_auto 51 = .ok (.iaload, 1) := by decide +kernel
theorem dX11_auto_52 : decode cX11_auto 52 = .ok (.iconst 3, 1) := by decide +kernel
theorem dX11_auto_53 : decode cX11_auto 53 = .ok (.if_icmp .ne 18, 3) := by decide +kernel
theorem dX11_auto_56 : decode cX11_auto 56 = .ok (.aload_n 0, 1) := by decide +kernel
theorem dX11_auto_57 : decode cX11_auto 57 = .ok (.getfield 40, 3) := by decide +kernel
theorem dX11_auto_60 : decode cX11_auto 60 = .ok (.iload_n 1, 1) := by decide +kernel
theorem dX11_auto_61 : decode cX11_auto 61 = .ok (.baload, 1) := by decide +kernel
theorem dX11_auto_62 : decode cX11_auto 62 = .ok (.ifCond .eq 9, 3) := by decide +kernel
theorem dX11_auto_65 : decode cX11_auto 65 = .ok (.aload_n 0, 1) := by decide +kernel
theorem dX11_auto_66 : decode cX11_auto 66 = .ok (.iload_n 1, 1) := by decide +kernel
theorem dX11_auto_67 : decode cX11_auto 67 = .ok (.invokevirtual 381, 3) := by decide +kernel
theorem dX11_auto_70 : decode cX11_auto 70 = .ok (.ireturn, 1) := by decide +kernel
theorem dX11_auto_71 : decode cX11_auto 71 = .ok (.aload_n 0, 1) := by decide +kernel
theorem dX11_auto_72 : decode cX11_auto 72 = .ok (.iload_n 1, 1) := by decide +kernel
theorem dX11_auto_73 : decode cX11_auto 73 = .ok (.invokevirtual 285, 3) := by decide +kernel
theorem dX11_auto_76 : decode cX11_auto 76 = .ok (.ifCond .eq 34, 3) := by decide +kernel
theorem dX11_auto_79 : decode cX11_auto 79 = .ok (.aload_n 0, 1) := by decide +kernel
theorem dX11_auto_80 : decode cX11_auto 80 = .ok (.invokevirtual 288, 3) := by decide +kernel
theorem dX11_auto_83 : decode cX11_auto 83 = .ok (.ifCond .le 27, 3) := by decide +kernel
theorem dX11_auto_86 : decode cX11_auto 86 = .ok (.aload_n 0, 1) := by decide +kernel
theorem dX11_auto_87 : decode cX11_auto 87 = .ok (.getfield 40, 3) := by decide +kernel
theorem dX11_auto_90 : decode cX11_auto 90 = .ok (.iload_n 1, 1) := by decide +kernel
theorem dX11_auto_91 : decode cX11_auto 91 = .ok (.baload, 1) := by decide +kernel
theorem dX11_auto_92 : decode cX11_auto 92 = .ok (.ifCond .ne 14, 3) := by decide +kernel
theorem dX11_auto_95 : decode cX11_auto 95 = .ok (.aload_n 0, 1) := by decide +kernel
theorem dX11_auto_96 : decode cX11_auto 96 = .ok (.invokevirtual 291, 3) := by decide +kernel
theorem dX11_auto_99 : decode cX11_auto 99 = .ok (.aload_n 0, 1) := by decide +kernel
theorem dX11_auto_100 : decode cX11_auto 100 = .ok (.getfield 21, 3) := by decide +kernel
theorem dX11_auto_103 : decode cX11_auto 103 = .ok (.if_icmp .lt 7, 3) := by decide +kernel
theorem dX11_auto_106 : decode cX11_auto 106 = .ok (.iconst 1, 1) := by decide +kernel
theorem dX11_auto_107 : decode cX11_auto 107 = .ok (.goto 4, 3) := by decide +kernel
theorem dX11_auto_110 : decode cX11_auto 110 = .ok (.iconst 0, 1) := by decide +kernel
theorem dX11_auto_111 : decode cX11_auto 111 = .ok (.istore_n 2, 1) := by decide +kernel
theorem dX11_auto_112 : decode cX11_auto 112 = .ok (.aload_n 0, 1) := by decide +kernel
theorem dX11_auto_113 : decode cX11_auto 113 = .ok (.getfield 31, 3) := by decide +kernel
theorem dX11_auto_116 : decode cX11_auto 116 = .ok (.iload_n 1, 1) := by decide +kernel
theorem dX11_auto_117 : decode cX11_auto 117 = .ok (.iaload, 1) := by decide +kernel
theorem dX11_auto_118 : decode cX11_auto 118 = .ok (.iconst 2, 1) := by decide +kernel
theorem dX11_auto_119 : decode cX11_auto 119 = .ok (.if_icmp .ne 27, 3) := by decide +kernel
theorem dX11_auto_122 : decode cX11_auto 122 = .ok (.aload_n 0, 1) := by decide +kernel
theorem dX11_auto_123 : decode cX11_auto 123 = .ok (.invokevirtual 288, 3) := by decide +kernel
theorem dX11_auto_126 : decode cX11_auto 126 = .ok (.iconst 3, 1) := by decide +kernel
theorem dX11_auto_127 : decode cX11_auto 127 = .ok (.if_icmp .ge 19, 3) := by decide +kernel
theorem dX11_auto_130 : decode cX11_auto 130 = .ok (.aload_n 0, 1) := by decide +kernel
theorem dX11_auto_131 : decode cX11_auto 131 = .ok (.iload_n 1, 1) := by decide +kernel
theorem dX11_auto_132 : decode cX11_auto 132 = .ok (.invokevirtual 315, 3) := by decide +kernel
theorem dX11_auto_135 : decode cX11_auto 135 = .ok (.aload_n 0, 1) := by decide +kernel
theorem dX11_auto_136 : decode cX11_auto 136 = .ok (.invokevirtual 288, 3) := by decide +kernel
theorem dX11_auto_139 : decode cX11_auto 139 = .ok (.if_icmp .le 7, 3) := by decide +kernel
theorem dX11_auto_142 : decode cX11_auto 142 = .ok (.iconst 1, 1) := by decide +kernel
theorem dX11_auto_143 : decode cX11_auto 143 = .ok (.goto 4, 3) := by decide +kernel
theorem dX11_auto_146 : decode cX11_auto 146 = .ok (.iconst 0, 1) := by decide +kernel
theorem dX11_auto_147 : decode cX11_auto 147 = .ok (.istore_n 3, 1) := by decide +kernel
theorem dX11_auto_148 : decode cX11_auto 148 = .ok (.iload_n 2, 1) := by decide +kernel
theorem dX11_auto_149 : decode cX11_auto 149 = .ok (.ifCond .eq 7, 3) := by decide +kernel
theorem dX11_auto_152 : decode cX11_auto 152 = .ok (.iload_n 3, 1) := by decide +kernel
theorem dX11_auto_153 : decode cX11_auto 153 = .ok (.ifCond .eq 12, 3) := by decide +kernel
theorem dX11_auto_156 : decode cX11_auto 156 = .ok (.aload_n 0, 1) := by decide +kernel
theorem dX11_auto_157 : decode cX11_auto 157 = .ok (.bipush 6, 2) := by decide +kernel
theorem dX11_auto_159 : decode cX11_auto 159 = .ok (.invokevirtual 378, 3) := by decide +kernel
theorem dX11_auto_162 : decode cX11_auto 162 = .ok (.pop, 1) := by decide +kernel
theorem dX11_auto_163 : decode cX11_auto 163 = .ok (.iconst 0, 1) := by decide +kernel
theorem dX11_auto_164 : decode cX11_auto 164 = .ok (.ireturn, 1) := by decide +kernel
theorem dX11_auto_165 : decode cX11_auto 165 = .ok (.aload_n 0, 1) := by decide +kernel
theorem dX11_auto_166 : decode cX11_auto 166 = .ok (.invokevirtual 384, 3) := by decide +kernel
theorem dX11_auto_169 : decode cX11_auto 169 = .ok (.ireturn, 1) := by decide +kernel
theorem dX11_type_0 : decode cX11_type 0 = .ok (.aload_n 0, 1) := by decide +kernel
theorem dX11_type_1 : decode cX11_type 1 = .ok (.aload_n 0, 1) := by decide +kernel
theorem dX11_type_2 : decode cX11_type 2 = .ok (.iload_n 1, 1) := by decide +kernel
theorem dX11_type_3 : decode cX11_type 3 = .ok (.bipush 97, 2) := by decide +kernel
theorem dX11_type_5 : decode cX11_type 5 = .ok (.bipush 122, 2) := by decide +kernel
theorem dX11_type_7 : decode cX11_type 7 = .ok (.invokevirtual 182, 3) := by decide +kernel
theorem dX11_type_10 : decode cX11_type 10 = .ok (.ifCond .ne 19, 3) := by decide +kernel
theorem dX11_type_13 : decode cX11_type 13 = .ok (.aload_n 0, 1) := by decide +kernel
theorem dX11_type_14 : decode cX11_type 14 = .ok (.iload_n 1, 1) := by decide +kernel
theorem dX11_type_15 : decode cX11_type 15 = .ok (.bipush 48, 2) := by decide +kernel
theorem dX11_type_17 : decode cX11_type 17 = .ok (.bipush 57, 2) := by decide +kernel
theorem dX11_type_19 : decode cX11_type 19 = .ok (.invokevirtual 182, 3) := by decide +kernel
theorem dX11_type_22 : decode cX11_type 22 = .ok (.ifCond .ne 7, 3) := by decide +kernel
theorem dX11_type_25 : decode cX11_type 25 = .ok (.iconst 1, 1) := by decide +kernel
theorem dX11_type_26 : decode cX11_type 26 = .ok (.goto 17, 3) := by decide +kernel
theorem dX11_type_29 : decode cX11_type 29 = .ok (.aload_n 0, 1) := by decide +kernel
theorem dX11_type_30 : decode cX11_type 30 = .ok (.getfield 387, 3) := by decide +kernel
theorem dX11_type_33 : decode cX11_type 33 = .ok (.bipush 40, 2) := by decide +kernel
theorem dX11_type_35 : decode cX11_type 35 = .ok (.if_icmp .ne 7, 3) := by decide +kernel
theorem dX11_type_38 : decode cX11_type 38 = .ok (.iconst 2, 1) := by decide +kernel
theorem dX11_type_39 : decode cX11_type 39 = .ok (.goto 4, 3) := by decide +kernel
theorem dX11_type_42 : decode cX11_type 42 = .ok (.iconst 0, 1) := by decide +kernel
theorem dX11_type_43 : decode cX11_type 43 = .ok (.invokevirtual 265, 3) := by decide +kernel
theorem dX11_type_46 : decode cX11_type 46 = .ok (.ifCond .eq 5, 3) := by decide +kernel
theorem dX11_type_49 : decode cX11_type 49 = .ok (.iconst (-1), 1) := by decide +kernel
theorem dX11_type_50 : decode cX11_type 50 = .ok (.ireturn, 1) := by decide +kernel
theorem dX11_type_51 : decode cX11_type 51 = .ok (.aload_n 0, 1) := by decide +kernel
theorem dX11_type_52 : decode cX11_type 52 = .ok (.getfield 91, 3) := by decide +kernel
theorem dX11_type_55 : decode cX11_type 55 = .ok (.aload_n 0, 1) := by decide +kernel
theorem dX11_type_56 : decode cX11_type 56 = .ok (.getfield 387, 3) := by decide +kernel
theorem dX11_type_59 : decode cX11_type 59 = .ok (.iload_n 1, 1) := by decide +kernel
theorem dX11_type_60 : decode cX11_type 60 = .ok (.iastore, 1) := by decide +kernel
theorem dX11_type_61 : decode cX11_type 61 = .ok (.aload_n 0, 1) := by decide +kernel
theorem dX11_type_62 : decode cX11_type 62 = .ok (.dup, 1) := by decide +kernel
theorem dX11_type_63 : decode cX11_type 63 = .ok (.getfield 387, 3) := by decide +kernel
theorem dX11_type_66 : decode cX11_type 66 = .ok (.iconst 1, 1) := by decide +kernel
theorem dX11_type_67 : decode cX11_type 67 = .ok (.iadd, 1) := by decide +kernel
theorem dX11_type_68 : decode cX11_type 68 = .ok (.putfield 387, 3) := by decide +kernel
theorem dX11_type_71 : decode cX11_type 71 = .ok (.aload_n 0, 1) := by decide +kernel
theorem dX11_type_72 : decode cX11_type 72 = .ok (.getfield 387, 3) := by decide +kernel
theorem dX11_type_75 : decode cX11_type 75 = .ok (.ireturn, 1) := by decide +kernel
theorem dX11_wipe_0 : decode cX11_wipe 0 = .ok (.aload_n 0, 1) := by decide +kernel
theorem dX11_wipe_1 : decode cX11_wipe 1 = .ok (.iconst 0, 1) := by decide +kernel
theorem dX11_wipe_2 : decode cX11_wipe 2 = .ok (.invokevirtual 265, 3) := by decide +kernel
theorem dX11_wipe_5 : decode cX11_wipe 5 = .ok (.pop, 1) := by decide +kernel
theorem dX11_wipe_6 : decode cX11_wipe 6 = .ok (.aload_n 0, 1) := by decide +kernel
theorem dX11_wipe_7 : decode cX11_wipe 7 = .ok (.getfield 387, 3) := by decide +kernel
theorem dX11_wipe_10 : decode cX11_wipe 10 = .ok (.istore_n 1, 1) := by decide +kernel
theorem dX11_wipe_11 : decode cX11_wipe 11 = .ok (.aload_n 0, 1) := by decide +kernel
theorem dX11_wipe_12 : decode cX11_wipe 12 = .ok (.iconst 0, 1) := by decide +kernel
theorem dX11_wipe_13 : decode cX11_wipe 13 = .ok (.putfield 387, 3) := by decide +kernel
theorem dX11_wipe_16 : decode cX11_wipe 16 = .ok (.iload_n 1, 1) := by decide +kernel
theorem dX11_wipe_17 : decode cX11_wipe 17 = .ok (.ireturn, 1) := by decide +kernel
theorem dX11_sign_0 : decode cX11_sign 0 = .ok (.iload_n 1, 1) := by decide +kernel
theorem dX11_sign_1 : decode cX11_sign 1 = .ok (.aload_n 0, 1) := by decide +kernel
theorem dX11_sign_2 : decode cX11_sign 2 = .ok (.getfield 387, 3) := by decide +kernel
theorem dX11_sign_5 : decode cX11_sign 5 = .ok (.if_icmp .ge 12, 3) := by decide +kernel
theorem dX11_sign_8 : decode cX11_sign 8 = .ok (.aload_n 0, 1) := by decide +kernel
theorem dX11_sign_9 : decode cX11_sign 9 = .ok (.getfield 91, 3) := by decide +kernel
theorem dX11_sign_12 : decode cX11_sign 12 = .ok (.iload_n 1, 1) := by decide +kernel
theorem dX11_sign_13 : decode cX11_sign 13 = .ok (.iaload, 1) := by decide +kernel
theorem dX11_sign_14 : decode cX11_sign 14 = .ok (.goto 4, 3) := by decide +kernel
theorem dX11_sign_17 : decode cX11_sign 17 = .ok (.iconst 0, 1) := by decide +kernel
theorem dX11_sign_18 : decode cX11_sign 18 = .ok (.ireturn, 1) := by decide +kernel
theorem dX11_reads_0 : decode cX11_reads 0 = .ok (.iconst 0, 1) := by decide +kernel
theorem dX11_reads_1 : decode cX11_reads 1 = .ok (.istore_n 1, 1) := by decide +kernel
theorem dX11_reads_2 : decode cX11_reads 2 = .ok (.aload_n 0, 1) := by decide +kernel
theorem dX11_reads_3 : decode cX11_reads 3 = .ok (.iconst 0, 1) := by decide +kernel
theorem dX11_reads_4 : decode cX11_reads 4 = .ok (.putfield 390, 3) := by decide +kernel
theorem dX11_reads_7 : decode cX11_reads 7 = .ok (.iload_n 1, 1) := by decide +kernel
theorem dX11_reads_8 : decode cX11_reads 8 = .ok (.aload_n 0, 1) := by decide +kernel
theorem dX11_reads_9 : decode cX11_reads 9 = .ok (.getfield 387, 3) := by decide +kernel
theorem dX11_reads_12 : decode cX11_reads 12 = .ok (.if_icmp .ge 188, 3) := by decide +kernel
theorem dX11_reads_15 : decode cX11_reads 15 = .ok (.aload_n 0, 1) := by decide +kernel
theorem dX11_reads_16 : decode cX11_reads 16 = .ok (.iload_n 1, 1) := by decide +kernel
theorem dX11_reads_17 : decode cX11_reads 17 = .ok (.invokevirtual 393, 3) := by decide +kernel
theorem dX11_reads_20 : decode cX11_reads 20 = .ok (.istore_n 2, 1) := by decide +kernel
theorem dX11_reads_21 : decode cX11_reads 21 = .ok (.iinc 1 1, 3) := by decide +kernel
theorem dX11_reads_24 : decode cX11_reads 24 = .ok (.aload_n 0, 1) := by decide +kernel
theorem dX11_reads_25 : decode cX11_reads 25 = .ok (.getfield 94, 3) := by decide +kernel
theorem dX11_reads_28 : decode cX11_reads 28 = .ok (.aload_n 0, 1) := by decide +kernel
theorem dX11_reads_29 : decode cX11_reads 29 = .ok (.getfield 390, 3) := by decide +kernel
theorem dX11_reads_32 : decode cX11_reads 32 = .ok (.iload_n 2, 1) := by decide +kernel
theorem dX11_reads_33 : decode cX11_reads 33 = .ok (.iastore, 1) := by decide +kernel
theorem dX11_reads_34 : decode cX11_reads 34 = .ok (.iload_n 2, 1) := by decide +kernel
theorem dX11_reads_35 : decode cX11_reads 35 = .ok (.bipush 108, 2) := by decide +kernel
theorem dX11_reads_37 : decode cX11_reads 37 = .ok (.if_icmp .eq 15, 3) := by decide +kernel
theorem dX11_reads_40 : decode cX11_reads 40 = .ok (.iload_n 2, 1) := by decide +kernel
theorem dX11_reads_41 : decode cX11_reads 41 = .ok (.bipush 106, 2) := by decide +kernel
theorem dX11_reads_43 : decode cX11_reads 43 = .ok (.if_icmp .eq 9, 3) := by decide +kernel
theorem dX11_reads_46 : decode cX11_reads 46 = .ok (.iload_n 2, 1) := by decide +kernel
theorem dX11_reads_47 : decode cX11_reads 47 = .ok (.bipush 115, 2) := by decide +kernel
theorem dX11_reads_49 : decode cX11_reads 49 = .ok (.if_icmp .ne 118, 3) := by decide +kernel
theorem dX11_reads_52 : decode cX11_reads 52 = .ok (.aload_n 0, 1) := by decide +kernel
theorem dX11_reads_53 : decode cX11_reads 53 = .ok (.iload_n 1, 1) := by decide +kernel
theorem dX11_reads_54 : decode cX11_reads 54 = .ok (.invokevirtual 393, 3) := by decide +kernel
theorem dX11_reads_57 : decode cX11_reads 57 = .ok (.bipush 97, 2) := by decide +kernel
theorem dX11_reads_59 : decode cX11_reads 59 = .ok (.isub, 1) := by decide +kernel
theorem dX11_reads_60 : decode cX11_reads 60 = .ok (.istore_n 3, 1) := by decide +kernel
theorem dX11_reads_61 : decode cX11_reads 61 = .ok (.aload_n 0, 1) := by decide +kernel
theorem dX11_reads_62 : decode cX11_reads 62 = .ok (.iload_n 1, 1) := by decide +kernel
theorem dX11_reads_63 : decode cX11_reads 63 = .ok (.iconst 1, 1) := by decide +kernel
theorem dX11_reads_64 : decode cX11_reads 64 = .ok (.iadd, 1) := by decide +kernel
theorem dX11_reads_65 : decode cX11_reads 65 = .ok (.invokevirtual 393, 3) := by decide +kernel
theorem dX11_reads_68 : decode cX11_reads 68 = .ok (.bipush 48, 2) := by decide +kernel
theorem dX11_reads_70 : decode cX11_reads 70 = .ok (.isub, 1) := by decide +kernel
theorem dX11_reads_71 : decode cX11_reads 71 = .ok (.istore 4, 2) := by decide +kernel
theorem dX11_reads_73 : decode cX11_reads 73 = .ok (.aload_n 0, 1) := by decide +kernel
theorem dX11_reads_74 : decode cX11_reads 74 = .ok (.iload_n 3, 1) := by decide +kernel
theorem dX11_reads_75 : decode cX11_reads 75 = .ok (.iconst 0, 1) := by decide +kernel
theorem dX11_reads_76 : decode cX11_reads 76 = .ok (.iconst 3, 1) := by decide +kernel
theorem dX11_reads_77 : decode cX11_reads 77 = .ok (.invokevirtual 182, 3) := by decide +kernel
theorem dX11_reads_80 : decode cX11_reads 80 = .ok (.ifCond .eq 15, 3) := by decide +kernel
theorem dX11_reads_83 : decode cX11_reads 83 = .ok (.aload_n 0, 1) := by decide +kernel
theorem dX11_reads_84 : decode cX11_reads 84 = .ok (.iload 4, 2) := by decide +kernel
theorem dX11_reads_86 : decode cX11_reads 86 = .ok (.iconst 1, 1) := by decide +kernel
theorem dX11_reads_87 : decode cX11_reads 87 = .ok (.bipush 9, 2) := by decide +kernel
theorem dX11_reads_89 : decode cX11_reads 89 = .ok (.invokevirtual 182, 3) := by decide +kernel
theorem dX11_reads_92 : decode cX11_reads 92 = .ok (.ifCond .ne 5, 3) := by decide +kernel
theorem dX11_reads_95 : decode cX11_reads 95 = .ok (.iconst 0, 1) := by decide +kernel
theorem dX11_reads_96 : decode cX11_reads 96 = .ok (.ireturn, 1) := by decide +kernel
theorem dX11_reads_97 : decode cX11_reads 97 = .ok (.iinc 1 2, 3) := by decide +kernel
theorem dX11_reads_100 : decode cX11_reads 100 = .ok (.aload_n 0, 1) := by decide +kernel
theorem dX11_reads_101 : decode cX11_reads 101 = .ok (.aload_n 0, 1) := by decide +kernel
theorem dX11_reads_102 : decode cX11_reads 102 = .ok (.iload_n 1, 1) := by decide +kernel
theorem dX11_reads_103 : decode cX11_reads 103 = .ok (.invokevirtual 393, 3) := by decide +kernel
theorem dX11_reads_106 : decode cX11_reads 106 = .ok (.bipush 48, 2) := by decide +kernel
theorem dX11_reads_108 : decode cX11_reads 108 = .ok (.bipush 57, 2) := by decide +kernel
theorem dX11_reads_110 : decode cX11_reads 110 = .ok (.invokevirtual 182, 3) := by decide +kernel
theorem dX11_reads_113 : decode cX11_reads 113 = .ok (.ifCond .eq 22, 3) := by decide +kernel
theorem dX11_reads_116 : decode cX11_reads 116 = .ok (.bipush 10, 2) := by decide +kernel
theorem dX11_reads_118 : decode cX11_reads 118 = .ok (.iload 4, 2) := by decide +kernel
theorem dX11_reads_120 : decode cX11_reads 120 = .ok (.imul, 1) := by decide +kernel
theorem dX11_reads_121 : decode cX11_reads 121 = .ok (.aload_n 0, 1) := by decide +kernel
theorem dX11_reads_122 : decode cX11_reads 122 = .ok (.iload_n 1, 1) := by decide +kernel
theorem dX11_reads_123 : decode cX11_reads 123 = .ok (.invokevirtual 393, 3) := by decide +kernel
theorem dX11_reads_126 : decode cX11_reads 126 = .ok (.iadd, 1) := by decide +kernel
theorem dX11_reads_127 : decode cX11_reads 127 = .ok (.bipush 48, 2) := by decide +kernel
theorem dX11_reads_129 : decode cX11_reads 129 = .ok (.isub, 1) := by decide +kernel
theorem dX11_reads_130 : decode cX11_reads 130 = .ok (.istore 4, 2) := by decide +kernel
theorem dX11_reads_132 : decode cX11_reads 132 = .ok (.iinc 1 1, 3) := by decide +kernel
theorem dX11_reads_135 : decode cX11_reads 135 = .ok (.iload 4, 2) := by decide +kernel
theorem dX11_reads_137 : decode cX11_reads 137 = .ok (.aload_n 0, 1) := by decide +kernel
theorem dX11_reads_138 : decode cX11_reads 138 = .ok (.getfield 9, 3) := by decide +kernel
theorem dX11_reads_141 : decode cX11_reads 141 = .ok (.if_icmp .le 5, 3) := by decide +kernel
theorem dX11_reads_144 : decode cX11_reads 144 = .ok (.iconst 0, 1) := by decide +kernel
theorem dX11_reads_145 : decode cX11_reads 145 = .ok (.ireturn, 1) := by decide +kernel
theorem dX11_reads_146 : decode cX11_reads 146 = .ok (.aload_n 0, 1) := by decide +kernel
theorem dX11_reads_147 : decode cX11_reads 147 = .ok (.getfield 97, 3) := by decide +kernel
theorem dX11_reads_150 : decode cX11_reads 150 = .ok (.aload_n 0, 1) := by decide +kernel
theorem dX11_reads_151 : decode cX11_reads 151 = .ok (.getfield 390, 3) := by decide +kernel
theorem dX11_reads_154 : decode cX11_reads 154 = .ok (.bipush 13, 2) := by decide +kernel
theorem dX11_reads_156 : decode cX11_reads 156 = .ok (.iload_n 3, 1) := by decide +kernel
theorem dX11_reads_157 : decode cX11_reads 157 = .ok (.imul, 1) := by decide +kernel
theorem dX11_reads_158 : decode cX11_reads 158 = .ok (.iload 4, 2) := by decide +kernel
theorem dX11_reads_160 : decode cX11_reads 160 = .ok (.iadd, 1) := by decide +kernel
theorem dX11_reads_161 : decode cX11_reads 161 = .ok (.iconst 1, 1) := by decide +kernel
theorem dX11_reads_162 : decode cX11_reads 162 = .ok (.isub, 1) := by decide +kernel
theorem dX11_reads_163 : decode cX11_reads 163 = .ok (.iastore, 1) := by decide +kernel
theorem dX11_reads_164 : decode cX11_reads 164 = .ok (.goto 23, 3) := by decide +kernel
theorem dX11_reads_167 : decode cX11_reads 167 = .ok (.iload_n 2, 1) := by decide +kernel
theorem dX11_reads_168 : decode cX11_reads 168 = .ok (.bipush 116, 2) := by decide +kernel
theorem dX11_reads_170 : decode cX11_reads 170 = .ok (.if_icmp .eq 17, 3) := by decide +kernel
theorem dX11_reads_173 : decode cX11_reads 173 = .ok (.iload_n 2, 1) := by decide +kernel
theorem dX11_reads_174 : decode cX11_reads 174 = .ok (.bipush 101, 2) := by decide +kernel
theorem dX11_reads_176 : decode cX11_reads 176 = .ok (.if_icmp .eq 11, 3) := by decide +kernel
theorem dX11_reads_179 : decode cX11_reads 179 = .ok (.iload_n 2, 1) := by decide +kernel
theorem dX11_reads_180 : decode cX11_reads 180 = .ok (.bipush 119, 2) := by decide +kernel
theorem dX11_reads_182 : decode cX11_reads 182 = .ok (.if_icmp .eq 5, 3) := by decide +kernel
theorem dX11_reads_185 : decode cX11_reads 185 = .ok (.iconst 0, 1) := by decide +kernel
theorem dX11_reads_186 : decode cX11_reads 186 = .ok (.ireturn, 1) := by decide +kernel
theorem dX11_reads_187 : decode cX11_reads 187 = .ok (.aload_n 0, 1) := by decide +kernel
theorem dX11_reads_188 : decode cX11_reads 188 = .ok (.dup, 1) := by decide +kernel
theorem dX11_reads_189 : decode cX11_reads 189 = .ok (.getfield 390, 3) := by decide +kernel
theorem dX11_reads_192 : decode cX11_reads 192 = .ok (.iconst 1, 1) := by decide +kernel
theorem dX11_reads_193 : decode cX11_reads 193 = .ok (.iadd, 1) := by decide +kernel
theorem dX11_reads_194 : decode cX11_reads 194 = .ok (.putfield 390, 3) := by decide +kernel
theorem dX11_reads_197 : decode cX11_reads 197 = .ok (.goto (-190), 3) := by decide +kernel
theorem dX11_reads_200 : decode cX11_reads 200 = .ok (.aload_n 0, 1) := by decide +kernel
theorem dX11_reads_201 : decode cX11_reads 201 = .ok (.getfield 390, 3) := by decide +kernel
theorem dX11_reads_204 : decode cX11_reads 204 = .ok (.ifCond .le 7, 3) := by decide +kernel
theorem dX11_reads_207 : decode cX11_reads 207 = .ok (.iconst 1, 1) := by decide +kernel
theorem dX11_reads_208 : decode cX11_reads 208 = .ok (.goto 4, 3) := by decide +kernel
theorem dX11_reads_211 : decode cX11_reads 211 = .ok (.iconst 0, 1) := by decide +kernel
theorem dX11_reads_212 : decode cX11_reads 212 = .ok (.ireturn, 1) := by decide +kernel
theorem dX11_moves_0 : decode cX11_moves 0 = .ok (.iload_n 1, 1) := by decide +kernel
theorem dX11_moves_1 : decode cX11_moves 1 = .ok (.lookupswitch 79 #[(101, 74), (106, 57), (108, 51), (115, 63), (116, 69)], 51) := by decide +kernel
theorem dX11_moves_52 : decode cX11_moves 52 = .ok (.aload_n 0, 1) := by decide +kernel
theorem dX11_moves_53 : decode cX11_moves 53 = .ok (.iload_n 2, 1) := by decide +kernel
theorem dX11_moves_54 : decode cX11_moves 54 = .ok (.invokevirtual 338, 3) := by decide +kernel
theorem dX11_moves_57 : decode cX11_moves 57 = .ok (.ireturn, 1) := by decide +kernel
theorem dX11_moves_58 : decode cX11_moves 58 = .ok (.aload_n 0, 1) := by decide +kernel
theorem dX11_moves_59 : decode cX11_moves 59 = .ok (.iload_n 2, 1) := by decide +kernel
theorem dX11_moves_60 : decode cX11_moves 60 = .ok (.invokevirtual 341, 3) := by decide +kernel
theorem dX11_moves_63 : decode cX11_moves 63 = .ok (.ireturn, 1) := by decide +kernel
theorem dX11_moves_64 : decode cX11_moves 64 = .ok (.aload_n 0, 1) := by decide +kernel
theorem dX11_moves_65 : decode cX11_moves 65 = .ok (.iload_n 2, 1) := by decide +kernel
theorem dX11_moves_66 : decode cX11_moves 66 = .ok (.invokevirtual 347, 3) := by decide +kernel
theorem dX11_moves_69 : decode cX11_moves 69 = .ok (.ireturn, 1) := by decide +kernel
theorem dX11_moves_70 : decode cX11_moves 70 = .ok (.aload_n 0, 1) := by decide +kernel
theorem dX11_moves_71 : decode cX11_moves 71 = .ok (.invokevirtual 353, 3) := by decide +kernel
theorem dX11_moves_74 : decode cX11_moves 74 = .ok (.ireturn, 1) := by decide +kernel
theorem dX11_moves_75 : decode cX11_moves 75 = .ok (.aload_n 0, 1) := by decide +kernel
theorem dX11_moves_76 : decode cX11_moves 76 = .ok (.invokevirtual 372, 3) := by decide +kernel
theorem dX11_moves_79 : decode cX11_moves 79 = .ok (.ireturn, 1) := by decide +kernel
theorem dX11_moves_80 : decode cX11_moves 80 = .ok (.aload_n 0, 1) := by decide +kernel
theorem dX11_moves_81 : decode cX11_moves 81 = .ok (.getfield 75, 3) := by decide +kernel
theorem dX11_moves_84 : decode cX11_moves 84 = .ok (.iconst (-1), 1) := by decide +kernel
theorem dX11_moves_85 : decode cX11_moves 85 = .ok (.if_icmp .ne 5, 3) := by decide +kernel
theorem dX11_moves_88 : decode cX11_moves 88 = .ok (.iconst 0, 1) := by decide +kernel
theorem dX11_moves_89 : decode cX11_moves 89 = .ok (.ireturn, 1) := by decide +kernel
theorem dX11_moves_90 : decode cX11_moves 90 = .ok (.aload_n 0, 1) := by decide +kernel
theorem dX11_moves_91 : decode cX11_moves 91 = .ok (.bipush 6, 2) := by decide +kernel
theorem dX11_moves_93 : decode cX11_moves 93 = .ok (.invokevirtual 378, 3) := by decide +kernel
theorem dX11_moves_96 : decode cX11_moves 96 = .ok (.pop, 1) := by decide +kernel
theorem dX11_moves_97 : decode cX11_moves 97 = .ok (.iconst 1, 1) := by decide +kernel
theorem dX11_moves_98 : decode cX11_moves 98 = .ok (.ireturn, 1) := by decide +kernel
theorem dX11_play_0 : decode cX11_play 0 = .ok (.aload_n 0, 1) := by decide +kernel
theorem dX11_play_1 : decode cX11_play 1 = .ok (.aload_n 0, 1) := by decide +kernel
theorem dX11_play_2 : decode cX11_play 2 = .ok (.invokevirtual 396, 3) := by decide +kernel
theorem dX11_play_5 : decode cX11_play 5 = .ok (.ifCond .ne 7, 3) := by decide +kernel
theorem dX11_play_8 : decode cX11_play 8 = .ok (.iconst 1, 1) := by decide +kernel
theorem dX11_play_9 : decode cX11_play 9 = .ok (.goto 16, 3) := by decide +kernel
theorem dX11_play_12 : decode cX11_play 12 = .ok (.aload_n 0, 1) := by decide +kernel
theorem dX11_play_13 : decode cX11_play 13 = .ok (.getfield 75, 3) := by decide +kernel
theorem dX11_play_16 : decode cX11_play 16 = .ok (.iconst (-1), 1) := by decide +kernel
theorem dX11_play_17 : decode cX11_play 17 = .ok (.if_icmp .ne 7, 3) := by decide +kernel
theorem dX11_play_20 : decode cX11_play 20 = .ok (.iconst 2, 1) := by decide +kernel
theorem dX11_play_21 : decode cX11_play 21 = .ok (.goto 4, 3) := by decide +kernel
theorem dX11_play_24 : decode cX11_play 24 = .ok (.iconst 0, 1) := by decide +kernel
theorem dX11_play_25 : decode cX11_play 25 = .ok (.invokevirtual 265, 3) := by decide +kernel
theorem dX11_play_28 : decode cX11_play 28 = .ok (.ifCond .eq 5, 3) := by decide +kernel
theorem dX11_play_31 : decode cX11_play 31 = .ok (.iconst (-1), 1) := by decide +kernel
theorem dX11_play_32 : decode cX11_play 32 = .ok (.ireturn, 1) := by decide +kernel
theorem dX11_play_33 : decode cX11_play 33 = .ok (.iconst 0, 1) := by decide +kernel
theorem dX11_play_34 : decode cX11_play 34 = .ok (.istore_n 1, 1) := by decide +kernel
theorem dX11_play_35 : decode cX11_play 35 = .ok (.iload_n 1, 1) := by decide +kernel
theorem dX11_play_36 : decode cX11_play 36 = .ok (.aload_n 0, 1) := by decide +kernel
theorem dX11_play_37 : decode cX11_play 37 = .ok (.getfield 390, 3) := by decide +kernel
theorem dX11_play_40 : decode cX11_play 40 = .ok (.if_icmp .ge 28, 3) := by decide +kernel
theorem dX11_play_43 : decode cX11_play 43 = .ok (.aload_n 0, 1) := by decide +kernel
theorem dX11_play_44 : decode cX11_play 44 = .ok (.aload_n 0, 1) := by decide +kernel
theorem dX11_play_45 : decode cX11_play 45 = .ok (.getfield 94, 3) := by decide +kernel
theorem dX11_play_48 : decode cX11_play 48 = .ok (.iload_n 1, 1) := by decide +kernel
theorem dX11_play_49 : decode cX11_play 49 = .ok (.iaload, 1) := by decide +kernel
theorem dX11_play_50 : decode cX11_play 50 = .ok (.aload_n 0, 1) := by decide +kernel
theorem dX11_play_51 : decode cX11_play 51 = .ok (.getfield 97, 3) := by decide +kernel
theorem dX11_play_54 : decode cX11_play 54 = .ok (.iload_n 1, 1) := by decide +kernel
theorem dX11_play_55 : decode cX11_play 55 = .ok (.iaload, 1) := by decide +kernel
theorem dX11_play_56 : decode cX11_play 56 = .ok (.invokevirtual 399, 3) := by decide +kernel
theorem dX11_play_59 : decode cX11_play 59 = .ok (.ifCond .eq 9, 3) := by decide +kernel
theorem dX11_play_62 : decode cX11_play 62 = .ok (.iinc 1 1, 3) := by decide +kernel
theorem dX11_play_65 : decode cX11_play 65 = .ok (.goto (-30), 3) := by decide +kernel
theorem dX11_play_68 : decode cX11_play 68 = .ok (.aload_n 0, 1) := by decide +kernel
theorem dX11_play_69 : decode cX11_play 69 = .ok (.iconst 0, 1) := by decide +kernel
theorem dX11_play_70 : decode cX11_play 70 = .ok (.putfield 387, 3) := by decide +kernel
theorem dX11_play_73 : decode cX11_play 73 = .ok (.iload_n 1, 1) := by decide +kernel
theorem dX11_play_74 : decode cX11_play 74 = .ok (.ireturn, 1) := by decide +kernel
theorem dX11_isKindOrJoker_0 : decode cX11_isKindOrJoker 0 = .ok (.iload_n 1, 1) := by decide +kernel
theorem dX11_isKindOrJoker_1 : decode cX11_isKindOrJoker 1 = .ok (.bipush 52, 2) := by decide +kernel
theorem dX11_isKindOrJoker_3 : decode cX11_isKindOrJoker 3 = .ok (.if_icmp .eq 11, 3) := by decide +kernel
theorem dX11_isKindOrJoker_6 : decode cX11_isKindOrJoker 6 = .ok (.aload_n 0, 1) := by decide +kernel
theorem dX11_isKindOrJoker_7 : decode cX11_isKindOrJoker 7 = .ok (.iload_n 1, 1) := by decide +kernel
theorem dX11_isKindOrJoker_8 : decode cX11_isKindOrJoker 8 = .ok (.invokevirtual 294, 3) := by decide +kernel
theorem dX11_isKindOrJoker_11 : decode cX11_isKindOrJoker 11 = .ok (.ifCond .eq 7, 3) := by decide +kernel
theorem dX11_isKindOrJoker_14 : decode cX11_isKindOrJoker 14 = .ok (.iconst 1, 1) := by decide +kernel
theorem dX11_isKindOrJoker_15 : decode cX11_isKindOrJoker 15 = .ok (.goto 4, 3) := by decide +kernel
theorem dX11_isKindOrJoker_18 : decode cX11_isKindOrJoker 18 = .ok (.iconst 0, 1) := by decide +kernel
theorem dX11_isKindOrJoker_19 : decode cX11_isKindOrJoker 19 = .ok (.ireturn, 1) := by decide +kernel
theorem dX11_chance_0 : decode cX11_chance 0 = .ok (.aload_n 0, 1) := by decide +kernel
theorem dX11_chance_1 : decode cX11_chance 1 = .ok (.iload_n 1, 1) := by decide +kernel
theorem dX11_chance_2 : decode cX11_chance 2 = .ok (.invokevirtual 282, 3) := by decide +kernel
theorem dX11_chance_5 : decode cX11_chance 5 = .ok (.ifCond .eq 11, 3) := by decide +kernel
theorem dX11_chance_8 : decode cX11_chance 8 = .ok (.aload_n 0, 1) := by decide +kernel
theorem dX11_chance_9 : decode cX11_chance 9 = .ok (.iload_n 2, 1) := by decide +kernel
theorem dX11_chance_10 : decode cX11_chance 10 = .ok (.invokevirtual 282, 3) := by decide +kernel
theorem dX11_chance_13 : decode cX11_chance 13 = .ok (.ifCond .ne 11, 3) := by decide +kernel
theorem dX11_chance_16 : decode cX11_chance 16 = .ok (.aload_n 0, 1) := by decide +kernel
theorem dX11_chance_17 : decode cX11_chance 17 = .ok (.iconst 1, 1) := by decide +kernel
theorem dX11_chance_18 : decode cX11_chance 18 = .ok (.invokevirtual 265, 3) := by decide +kernel
theorem dX11_chance_21 : decode cX11_chance 21 = .ok (.pop, 1) := by decide +kernel
theorem dX11_chance_22 : decode cX11_chance 22 = .ok (.iconst (-1), 1) := by decide +kernel
theorem dX11_chance_23 : decode cX11_chance 23 = .ok (.ireturn, 1) := by decide +kernel
theorem dX11_chance_24 : decode cX11_chance 24 = .ok (.aload_n 0, 1) := by decide +kernel
theorem dX11_chance_25 : decode cX11_chance 25 = .ok (.iload_n 1, 1) := by decide +kernel
theorem dX11_chance_26 : decode cX11_chance 26 = .ok (.iload_n 2, 1) := by decide +kernel
theorem dX11_chance_27 : decode cX11_chance 27 = .ok (.if_icmp .eq 11, 3) := by decide +kernel
theorem dX11_chance_30 : decode cX11_chance 30 = .ok (.aload_n 0, 1) := by decide +kernel
theorem dX11_chance_31 : decode cX11_chance 31 = .ok (.iload_n 3, 1) := by decide +kernel
theorem dX11_chance_32 : decode cX11_chance 32 = .ok (.invokevirtual 402, 3) := by decide +kernel
theorem dX11_chance_35 : decode cX11_chance 35 = .ok (.ifCond .ne 7, 3) := by decide +kernel
theorem dX11_chance_38 : decode cX11_chance 38 = .ok (.iconst 2, 1) := by decide +kernel
theorem dX11_chance_39 : decode cX11_chance 39 = .ok (.goto 4, 3) := by decide +kernel
theorem dX11_chance_42 : decode cX11_chance 42 = .ok (.iconst 0, 1) := by decide +kernel
theorem dX11_chance_43 : decode cX11_chance 43 = .ok (.invokevirtual 265, 3) := by decide +kernel
theorem dX11_chance_46 : decode cX11_chance 46 = .ok (.ifCond .eq 5, 3) := by decide +kernel
theorem dX11_chance_49 : decode cX11_chance 49 = .ok (.iconst (-1), 1) := by decide +kernel
theorem dX11_chance_50 : decode cX11_chance 50 = .ok (.ireturn, 1) := by decide +kernel
theorem dX11_chance_51 : decode cX11_chance 51 = .ok (.aload_n 0, 1) := by decide +kernel
theorem dX11_chance_52 : decode cX11_chance 52 = .ok (.invokevirtual 312, 3) := by decide +kernel
theorem dX11_chance_55 : decode cX11_chance 55 = .ok (.istore 4, 2) := by decide +kernel
theorem dX11_chance_57 : decode cX11_chance 57 = .ok (.aload_n 0, 1) := by decide +kernel
theorem dX11_chance_58 : decode cX11_chance 58 = .ok (.getfield 72, 3) := by decide +kernel
theorem dX11_chance_61 : decode cX11_chance 61 = .ok (.iload_n 3, 1) := by decide +kernel
theorem dX11_chance_62 : decode cX11_chance 62 = .ok (.iaload, 1) := by decide +kernel
theorem dX11_chance_63 : decode cX11_chance 63 = .ok (.istore 5, 2) := by decide +kernel
theorem dX11_chance_65 : decode cX11_chance 65 = .ok (.iconst 0, 1) := by decide +kernel
theorem dX11_chance_66 : decode cX11_chance 66 = .ok (.istore 6, 2) := by decide +kernel
theorem dX11_chance_68 : decode cX11_chance 68 = .ok (.iload 6, 2) := by decide +kernel
theorem dX11_chance_70 : decode cX11_chance 70 = .ok (.aload_n 0, 1) := by decide +kernel
theorem dX11_chance_71 : decode cX11_chance 71 = .ok (.getfield 186, 3) := by decide +kernel
theorem dX11_chance_74 : decode cX11_chance 74 = .ok (.if_icmp .ge 57, 3) := by decide +kernel
theorem dX11_chance_77 : decode cX11_chance 77 = .ok (.iload 4, 2) := by decide +kernel
theorem dX11_chance_79 : decode cX11_chance 79 = .ok (.iload 6, 2) := by decide +kernel
theorem dX11_chance_81 : decode cX11_chance 81 = .ok (.iload_n 1, 1) := by decide +kernel
theorem dX11_chance_82 : decode cX11_chance 82 = .ok (.if_icmp .ne 7, 3) := by decide +kernel
theorem dX11_chance_85 : decode cX11_chance 85 = .ok (.iconst 0, 1) := by decide +kernel
theorem dX11_chance_86 : decode cX11_chance 86 = .ok (.goto 9, 3) := by decide +kernel
theorem dX11_chance_89 : decode cX11_chance 89 = .ok (.aload_n 0, 1) := by decide +kernel
theorem dX11_chance_90 : decode cX11_chance 90 = .ok (.iload 6, 2) := by decide +kernel
theorem dX11_chance_92 : decode cX11_chance 92 = .ok (.invokevirtual 315, 3) := by decide +kernel
theorem dX11_chance_95 : decode cX11_chance 95 = .ok (.iadd, 1) := by decide +kernel
theorem dX11_chance_96 : decode cX11_chance 96 = .ok (.istore 4, 2) := by decide +kernel
theorem dX11_chance_98 : decode cX11_chance 98 = .ok (.iload 5, 2) := by decide +kernel
theorem dX11_chance_100 : decode cX11_chance 100 = .ok (.iload 6, 2) := by decide +kernel
theorem dX11_chance_102 : decode cX11_chance 102 = .ok (.iload_n 1, 1) := by decide +kernel
theorem dX11_chance_103 : decode cX11_chance 103 = .ok (.if_icmp .ne 7, 3) := by decide +kernel
theorem dX11_chance_106 : decode cX11_chance 106 = .ok (.iconst 0, 1) := by decide +kernel
theorem dX11_chance_107 : decode cX11_chance 107 = .ok (.goto 15, 3) := by decide +kernel
theorem dX11_chance_110 : decode cX11_chance 110 = .ok (.aload_n 0, 1) := by decide +kernel
theorem dX11_chance_111 : decode cX11_chance 111 = .ok (.getfield 63, 3) := by decide +kernel
theorem dX11_chance_114 : decode cX11_chance 114 = .ok (.bipush 53, 2) := by decide +kernel
theorem dX11_chance_116 : decode cX11_chance 116 = .ok (.iload 6, 2) := by decide +kernel
theorem dX11_chance_118 : decode cX11_chance 118 = .ok (.imul, 1) := by decide +kernel
theorem dX11_chance_119 : decode cX11_chance 119 = .ok (.iload_n 3, 1) := by decide +kernel
theorem dX11_chance_120 : decode cX11_chance 120 = .ok (.iadd, 1) := by decide +kernel
theorem dX11_chance_121 : decode cX11_chance 121 = .ok (.iaload, 1) := by decide +kernel
theorem dX11_chance_122 : decode cX11_chance 122 = .ok (.iadd, 1) := by decide +kernel
theorem dX11_chance_123 : decode cX11_chance 123 = .ok (.istore 5, 2) := by decide +kernel
theorem dX11_chance_125 : decode cX11_chance 125 = .ok (.iinc 6 1, 3) := by decide +kernel
theorem dX11_chance_128 : decode cX11_chance 128 = .ok (.goto (-60), 3) := by decide +kernel
theorem dX11_chance_131 : decode cX11_chance 131 = .ok (.aload_n 0, 1) := by decide +kernel
theorem dX11_chance_132 : decode cX11_chance 132 = .ok (.iload_n 2, 1) := by decide +kernel
theorem dX11_chance_133 : decode cX11_chance 133 = .ok (.invokevirtual 315, 3) := by decide +kernel
theorem dX11_chance_136 : decode cX11_chance 136 = .ok (.istore 6, 2) := by decide +kernel
theorem dX11_chance_138 : decode cX11_chance 138 = .ok (.iload_n 3, 1) := by decide +kernel
theorem dX11_chance_139 : decode cX11_chance 139 = .ok (.bipush 52, 2) := by decide +kernel
theorem dX11_chance_141 : decode cX11_chance 141 = .ok (.if_icmp .ge 22, 3) := by decide +kernel
theorem dX11_chance_144 : decode cX11_chance 144 = .ok (.aload_n 0, 1) := by decide +kernel
theorem dX11_chance_145 : decode cX11_chance 145 = .ok (.getfield 50, 3) := by decide +kernel
theorem dX11_chance_148 : decode cX11_chance 148 = .ok (.iload_n 2, 1) := by decide +kernel
theorem dX11_chance_149 : decode cX11_chance 149 = .ok (.laload, 1) := by decide +kernel
theorem dX11_chance_150 : decode cX11_chance 150 = .ok (.iload_n 3, 1) := by decide +kernel
theorem dX11_chance_151 : decode cX11_chance 151 = .ok (.lshr, 1) := by decide +kernel
theorem dX11_chance_152 : decode cX11_chance 152 = .ok (.lconst 1, 1) := by decide +kernel
theorem dX11_chance_153 : decode cX11_chance 153 = .ok (.land, 1) := by decide +kernel
theorem dX11_chance_154 : decode cX11_chance 154 = .ok (.lconst 1, 1) := by decide +kernel
theorem dX11_chance_155 : decode cX11_chance 155 = .ok (.lcmp, 1) := by decide +kernel
theorem dX11_chance_156 : decode cX11_chance 156 = .ok (.ifCond .ne 7, 3) := by decide +kernel
theorem dX11_chance_159 : decode cX11_chance 159 = .ok (.iconst 1, 1) := by decide +kernel
theorem dX11_chance_160 : decode cX11_chance 160 = .ok (.goto 4, 3) := by decide +kernel
theorem dX11_chance_163 : decode cX11_chance 163 = .ok (.iconst 0, 1) := by decide +kernel
theorem dX11_chance_164 : decode cX11_chance 164 = .ok (.istore 7, 2) := by decide +kernel
theorem dX11_chance_166 : decode cX11_chance 166 = .ok (.iload 7, 2) := by decide +kernel
theorem dX11_chance_168 : decode cX11_chance 168 = .ok (.ifCond .eq 23, 3) := by decide +kernel
theorem dX11_chance_171 : decode cX11_chance 171 = .ok (.aload_n 0, 1) := by decide +kernel
theorem dX11_chance_172 : decode cX11_chance 172 = .ok (.getfield 57, 3) := by decide +kernel
theorem dX11_chance_175 : decode cX11_chance 175 = .ok (.iload_n 2, 1) := by decide +kernel
theorem dX11_chance_176 : decode cX11_chance 176 = .ok (.iaload, 1) := by decide +kernel
theorem dX11_chance_177 : decode cX11_chance 177 = .ok (.iload 6, 2) := by decide +kernel
theorem dX11_chance_179 : decode cX11_chance 179 = .ok (.if_icmp .ge 12, 3) := by decide +kernel
theorem dX11_chance_182 : decode cX11_chance 182 = .ok (.aload_n 0, 1) := by decide +kernel
theorem dX11_chance_183 : decode cX11_chance 183 = .ok (.getfield 57, 3) := by decide +kernel
theorem dX11_chance_186 : decode cX11_chance 186 = .ok (.iload_n 2, 1) := by decide +kernel
theorem dX11_chance_187 : decode cX11_chance 187 = .ok (.iaload, 1) := by decide +kernel
theorem dX11_chance_188 : decode cX11_chance 188 = .ok (.goto 5, 3) := by decide +kernel
theorem dX11_chance_191 : decode cX11_chance 191 = .ok (.iload 6, 2) := by decide +kernel
theorem dX11_chance_193 : decode cX11_chance 193 = .ok (.istore 6, 2) := by decide +kernel
theorem dX11_chance_195 : decode cX11_chance 195 = .ok (.lconst 1, 1) := by decide +kernel
theorem dX11_chance_196 : decode cX11_chance 196 = .ok (.lstore 8, 2) := by decide +kernel
theorem dX11_chance_198 : decode cX11_chance 198 = .ok (.lconst 1, 1) := by decide +kernel
theorem dX11_chance_199 : decode cX11_chance 199 = .ok (.lstore 10, 2) := by decide +kernel
theorem dX11_chance_201 : decode cX11_chance 201 = .ok (.iconst 0, 1) := by decide +kernel
theorem dX11_chance_202 : decode cX11_chance 202 = .ok (.istore 12, 2) := by decide +kernel
theorem dX11_chance_204 : decode cX11_chance 204 = .ok (.iload 12, 2) := by decide +kernel
theorem dX11_chance_206 : decode cX11_chance 206 = .ok (.iload 5, 2) := by decide +kernel
theorem dX11_chance_208 : decode cX11_chance 208 = .ok (.if_icmp .ge 49, 3) := by decide +kernel
theorem dX11_chance_211 : decode cX11_chance 211 = .ok (.lload 8, 2) := by decide +kernel
theorem dX11_chance_213 : decode cX11_chance 213 = .ok (.iload 4, 2) := by decide +kernel
theorem dX11_chance_215 : decode cX11_chance 215 = .ok (.iload 12, 2) := by decide +kernel
theorem dX11_chance_217 : decode cX11_chance 217 = .ok (.isub, 1) := by decide +kernel
theorem dX11_chance_218 : decode cX11_chance 218 = .ok (.i2l, 1) := by decide +kernel
theorem dX11_chance_219 : decode cX11_chance 219 = .ok (.lmul, 1) := by decide +kernel
theorem dX11_chance_220 : decode cX11_chance 220 = .ok (.lstore 8, 2) := by decide +kernel
theorem dX11_chance_222 : decode cX11_chance 222 = .ok (.lload 10, 2) := by decide +kernel
theorem dX11_chance_224 : decode cX11_chance 224 = .ok (.iload 4, 2) := by decide +kernel
theorem dX11_chance_226 : decode cX11_chance 226 = .ok (.iload 6, 2) := by decide +kernel
theorem dX11_chance_228 : decode cX11_chance 228 = .ok (.isub, 1) := by decide +kernel
theorem dX11_chance_229 : decode cX11_chance 229 = .ok (.iload 12, 2) := by decide +kernel
theorem dX11_chance_231 : decode cX11_chance 231 = .ok (.isub, 1) := by decide +kernel
theorem dX11_chance_232 : decode cX11_chance 232 = .ok (.ifCond .le 15, 3) := by decide +kernel
theorem dX11_chance_235 : decode cX11_chance 235 = .ok (.iload 4, 2) := by decide +kernel
theorem dX11_chance_237 : decode cX11_chance 237 = .ok (.iload 6, 2) := by decide +kernel
theorem dX11_chance_239 : decode cX11_chance 239 = .ok (.isub, 1) := by decide +kernel
theorem dX11_chance_240 : decode cX11_chance 240 = .ok (.iload 12, 2) := by decide +kernel
theorem dX11_chance_242 : decode cX11_chance 242 = .ok (.isub, 1) := by decide +kernel
theorem dX11_chance_243 : decode cX11_chance 243 = .ok (.i2l, 1) := by decide +kernel
theorem dX11_chance_244 : decode cX11_chance 244 = .ok (.goto 4, 3) := by decide +kernel
theorem dX11_chance_247 : decode cX11_chance 247 = .ok (.lconst 0, 1) := by decide +kernel
theorem dX11_chance_248 : decode cX11_chance 248 = .ok (.lmul, 1) := by decide +kernel
theorem dX11_chance_249 : decode cX11_chance 249 = .ok (.lstore 10, 2) := by decide +kernel
theorem dX11_chance_251 : decode cX11_chance 251 = .ok (.iinc 12 1, 3) := by decide +kernel
theorem dX11_chance_254 : decode cX11_chance 254 = .ok (.goto (-50), 3) := by decide +kernel
theorem dX11_chance_257 : decode cX11_chance 257 = .ok (.ldc2_w 405, 3) := by decide +kernel
theorem dX11_chance_260 : decode cX11_chance 260 = .ok (.lload 8, 2) := by decide +kernel
theorem dX11_chance_262 : decode cX11_chance 262 = .ok (.lload 10, 2) := by decide +kernel
theorem dX11_chance_264 : decode cX11_chance 264 = .ok (.lsub, 1) := by decide +kernel
theorem dX11_chance_265 : decode cX11_chance 265 = .ok (.lmul, 1) := by decide +kernel
theorem dX11_chance_266 : decode cX11_chance 266 = .ok (.lload 8, 2) := by decide +kernel
theorem dX11_chance_268 : decode cX11_chance 268 = .ok (.ldiv, 1) := by decide +kernel
theorem dX11_chance_269 : decode cX11_chance 269 = .ok (.l2i, 1) := by decide +kernel
theorem dX11_chance_270 : decode cX11_chance 270 = .ok (.ireturn, 1) := by decide +kernel
theorem dX11_passed_0 : decode cX11_passed 0 = .ok (.aload_n 0, 1) := by decide +kernel
theorem dX11_passed_1 : decode cX11_passed 1 = .ok (.aload_n 0, 1) := by decide +kernel
theorem dX11_passed_2 : decode cX11_passed 2 = .ok (.iload_n 1, 1) := by decide +kernel
theorem dX11_passed_3 : decode cX11_passed 3 = .ok (.invokevirtual 282, 3) := by decide +kernel
theorem dX11_passed_6 : decode cX11_passed 6 = .ok (.ifCond .ne 7, 3) := by decide +kernel
theorem dX11_passed_9 : decode cX11_passed 9 = .ok (.iconst 1, 1) := by decide +kernel
theorem dX11_passed_10 : decode cX11_passed 10 = .ok (.goto 16, 3) := by decide +kernel
theorem dX11_passed_13 : decode cX11_passed 13 = .ok (.aload_n 0, 1) := by decide +kernel
theorem dX11_passed_14 : decode cX11_passed 14 = .ok (.iload_n 2, 1) := by decide +kernel
theorem dX11_passed_15 : decode cX11_passed 15 = .ok (.invokevirtual 294, 3) := by decide +kernel
theorem dX11_passed_18 : decode cX11_passed 18 = .ok (.ifCond .eq 7, 3) := by decide +kernel
theorem dX11_passed_21 : decode cX11_passed 21 = .ok (.iconst 0, 1) := by decide +kernel
theorem dX11_passed_22 : decode cX11_passed 22 = .ok (.goto 4, 3) := by decide +kernel
theorem dX11_passed_25 : decode cX11_passed 25 = .ok (.iconst 2, 1) := by decide +kernel
theorem dX11_passed_26 : decode cX11_passed 26 = .ok (.invokevirtual 265, 3) := by decide +kernel
theorem dX11_passed_29 : decode cX11_passed 29 = .ok (.ifCond .eq 5, 3) := by decide +kernel
theorem dX11_passed_32 : decode cX11_passed 32 = .ok (.iconst 0, 1) := by decide +kernel
theorem dX11_passed_33 : decode cX11_passed 33 = .ok (.ireturn, 1) := by decide +kernel
theorem dX11_passed_34 : decode cX11_passed 34 = .ok (.aload_n 0, 1) := by decide +kernel
theorem dX11_passed_35 : decode cX11_passed 35 = .ok (.getfield 50, 3) := by decide +kernel
theorem dX11_passed_38 : decode cX11_passed 38 = .ok (.iload_n 1, 1) := by decide +kernel
theorem dX11_passed_39 : decode cX11_passed 39 = .ok (.laload, 1) := by decide +kernel
theorem dX11_passed_40 : decode cX11_passed 40 = .ok (.iload_n 2, 1) := by decide +kernel
theorem dX11_passed_41 : decode cX11_passed 41 = .ok (.lshr, 1) := by decide +kernel
theorem dX11_passed_42 : decode cX11_passed 42 = .ok (.lconst 1, 1) := by decide +kernel
theorem dX11_passed_43 : decode cX11_passed 43 = .ok (.land, 1) := by decide +kernel
theorem dX11_passed_44 : decode cX11_passed 44 = .ok (.lconst 1, 1) := by decide +kernel
theorem dX11_passed_45 : decode cX11_passed 45 = .ok (.lcmp, 1) := by decide +kernel
theorem dX11_passed_46 : decode cX11_passed 46 = .ok (.ifCond .ne 7, 3) := by decide +kernel
theorem dX11_passed_49 : decode cX11_passed 49 = .ok (.iconst 1, 1) := by decide +kernel
theorem dX11_passed_50 : decode cX11_passed 50 = .ok (.goto 4, 3) := by decide +kernel
theorem dX11_passed_53 : decode cX11_passed 53 = .ok (.iconst 0, 1) := by decide +kernel
theorem dX11_passed_54 : decode cX11_passed 54 = .ok (.ireturn, 1) := by decide +kernel
theorem dX11_claim_0 : decode cX11_claim 0 = .ok (.aload_n 0, 1) := by decide +kernel
theorem dX11_claim_1 : decode cX11_claim 1 = .ok (.aload_n 0, 1) := by decide +kernel
theorem dX11_claim_2 : decode cX11_claim 2 = .ok (.iload_n 1, 1) := by decide +kernel
theorem dX11_claim_3 : decode cX11_claim 3 = .ok (.invokevirtual 282, 3) := by decide +kernel
theorem dX11_claim_6 : decode cX11_claim 6 = .ok (.ifCond .ne 7, 3) := by decide +kernel
theorem dX11_claim_9 : decode cX11_claim 9 = .ok (.iconst 1, 1) := by decide +kernel
theorem dX11_claim_10 : decode cX11_claim 10 = .ok (.goto 26, 3) := by decide +kernel
theorem dX11_claim_13 : decode cX11_claim 13 = .ok (.aload_n 0, 1) := by decide +kernel
theorem dX11_claim_14 : decode cX11_claim 14 = .ok (.iload_n 2, 1) := by decide +kernel
theorem dX11_claim_15 : decode cX11_claim 15 = .ok (.invokevirtual 294, 3) := by decide +kernel
theorem dX11_claim_18 : decode cX11_claim 18 = .ok (.ifCond .eq 13, 3) := by decide +kernel
theorem dX11_claim_21 : decode cX11_claim 21 = .ok (.aload_n 0, 1) := by decide +kernel
theorem dX11_claim_22 : decode cX11_claim 22 = .ok (.iload_n 3, 1) := by decide +kernel
theorem dX11_claim_23 : decode cX11_claim 23 = .ok (.iconst 0, 1) := by decide +kernel
theorem dX11_claim_24 : decode cX11_claim 24 = .ok (.iconst 2, 1) := by decide +kernel
theorem dX11_claim_25 : decode cX11_claim 25 = .ok (.invokevirtual 182, 3) := by decide +kernel
theorem dX11_claim_28 : decode cX11_claim 28 = .ok (.ifCond .ne 7, 3) := by decide +kernel
theorem dX11_claim_31 : decode cX11_claim 31 = .ok (.iconst 2, 1) := by decide +kernel
theorem dX11_claim_32 : decode cX11_claim 32 = .ok (.goto 4, 3) := by decide +kernel
theorem dX11_claim_35 : decode cX11_claim 35 = .ok (.iconst 0, 1) := by decide +kernel
theorem dX11_claim_36 : decode cX11_claim 36 = .ok (.invokevirtual 265, 3) := by decide +kernel
theorem dX11_claim_39 : decode cX11_claim 39 = .ok (.ifCond .eq 5, 3) := by decide +kernel
theorem dX11_claim_42 : decode cX11_claim 42 = .ok (.iconst (-1), 1) := by decide +kernel
theorem dX11_claim_43 : decode cX11_claim 43 = .ok (.ireturn, 1) := by decide +kernel
theorem dX11_claim_44 : decode cX11_claim 44 = .ok (.aload_n 0, 1) := by decide +kernel
theorem dX11_claim_45 : decode cX11_claim 45 = .ok (.getfield 60, 3) := by decide +kernel
theorem dX11_claim_48 : decode cX11_claim 48 = .ok (.bipush 52, 2) := by decide +kernel
theorem dX11_claim_50 : decode cX11_claim 50 = .ok (.iload_n 1, 1) := by decide +kernel
theorem dX11_claim_51 : decode cX11_claim 51 = .ok (.imul, 1) := by decide +kernel
theorem dX11_claim_52 : decode cX11_claim 52 = .ok (.iload_n 2, 1) := by decide +kernel
theorem dX11_claim_53 : decode cX11_claim 53 = .ok (.iadd, 1) := by decide +kernel
theorem dX11_claim_54 : decode cX11_claim 54 = .ok (.iaload, 1) := by decide +kernel
theorem dX11_claim_55 : decode cX11_claim 55 = .ok (.istore 4, 2) := by decide +kernel
theorem dX11_claim_57 : decode cX11_claim 57 = .ok (.aload_n 0, 1) := by decide +kernel
theorem dX11_claim_58 : decode cX11_claim 58 = .ok (.getfield 60, 3) := by decide +kernel
theorem dX11_claim_61 : decode cX11_claim 61 = .ok (.bipush 52, 2) := by decide +kernel
theorem dX11_claim_63 : decode cX11_claim 63 = .ok (.iload_n 1, 1) := by decide +kernel
theorem dX11_claim_64 : decode cX11_claim 64 = .ok (.imul, 1) := by decide +kernel
theorem dX11_claim_65 : decode cX11_claim 65 = .ok (.iload_n 2, 1) := by decide +kernel
theorem dX11_claim_66 : decode cX11_claim 66 = .ok (.iadd, 1) := by decide +kernel
theorem dX11_claim_67 : decode cX11_claim 67 = .ok (.iload_n 3, 1) := by decide +kernel
theorem dX11_claim_68 : decode cX11_claim 68 = .ok (.iastore, 1) := by decide +kernel
theorem dX11_claim_69 : decode cX11_claim 69 = .ok (.iload 4, 2) := by decide +kernel
theorem dX11_claim_71 : decode cX11_claim 71 = .ok (.ireturn, 1) := by decide +kernel
theorem dX11_copies_0 : decode cX11_copies 0 = .ok (.aload_n 0, 1) := by decide +kernel
theorem dX11_copies_1 : decode cX11_copies 1 = .ok (.iconst 0, 1) := by decide +kernel
theorem dX11_copies_2 : decode cX11_copies 2 = .ok (.invokevirtual 265, 3) := by decide +kernel
theorem dX11_copies_5 : decode cX11_copies 5 = .ok (.pop, 1) := by decide +kernel
theorem dX11_copies_6 : decode cX11_copies 6 = .ok (.lconst 0, 1) := by decide +kernel
theorem dX11_copies_7 : decode cX11_copies 7 = .ok (.lstore_n 1, 1) := by decide +kernel
theorem dX11_copies_8 : decode cX11_copies 8 = .ok (.iconst 0, 1) := by decide +kernel
theorem dX11_copies_9 : decode cX11_copies 9 = .ok (.istore_n 3, 1) := by decide +kernel
theorem dX11_copies_10 : decode cX11_copies 10 = .ok (.iload_n 3, 1) := by decide +kernel
theorem dX11_copies_11 : decode cX11_copies 11 = .ok (.bipush 52, 2) := by decide +kernel
theorem dX11_copies_13 : decode cX11_copies 13 = .ok (.if_icmp .ge 68, 3) := by decide +kernel
theorem dX11_copies_16 : decode cX11_copies 16 = .ok (.aload_n 0, 1) := by decide +kernel
theorem dX11_copies_17 : decode cX11_copies 17 = .ok (.getfield 66, 3) := by decide +kernel
theorem dX11_copies_20 : decode cX11_copies 20 = .ok (.iload_n 3, 1) := by decide +kernel
theorem dX11_copies_21 : decode cX11_copies 21 = .ok (.iaload, 1) := by decide +kernel
theorem dX11_copies_22 : decode cX11_copies 22 = .ok (.istore 4, 2) := by decide +kernel
theorem dX11_copies_24 : decode cX11_copies 24 = .ok (.iconst 0, 1) := by decide +kernel
theorem dX11_copies_25 : decode cX11_copies 25 = .ok (.istore 5, 2) := by decide +kernel
theorem dX11_copies_27 : decode cX11_copies 27 = .ok (.iload 5, 2) := by decide +kernel
theorem dX11_copies_29 : decode cX11_copies 29 = .ok (.aload_n 0, 1) := by decide +kernel
theorem dX11_copies_30 : decode cX11_copies 30 = .ok (.getfield 186, 3) := by decide +kernel
theorem dX11_copies_33 : decode cX11_copies 33 = .ok (.if_icmp .ge 26, 3) := by decide +kernel
theorem dX11_copies_36 : decode cX11_copies 36 = .ok (.iload 4, 2) := by decide +kernel
theorem dX11_copies_38 : decode cX11_copies 38 = .ok (.aload_n 0, 1) := by decide +kernel
theorem dX11_copies_39 : decode cX11_copies 39 = .ok (.getfield 60, 3) := by decide +kernel
theorem dX11_copies_42 : decode cX11_copies 42 = .ok (.bipush 52, 2) := by decide +kernel
theorem dX11_copies_44 : decode cX11_copies 44 = .ok (.iload 5, 2) := by decide +kernel
theorem dX11_copies_46 : decode cX11_copies 46 = .ok (.imul, 1) := by decide +kernel
theorem dX11_copies_47 : decode cX11_copies 47 = .ok (.iload_n 3, 1) := by decide +kernel
theorem dX11_copies_48 : decode cX11_copies 48 = .ok (.iadd, 1) := by decide +kernel
theorem dX11_copies_49 : decode cX11_copies 49 = .ok (.iaload, 1) := by decide +kernel
theorem dX11_copies_50 : decode cX11_copies 50 = .ok (.iadd, 1) := by decide +kernel
theorem dX11_copies_51 : decode cX11_copies 51 = .ok (.istore 4, 2) := by decide +kernel
theorem dX11_copies_53 : decode cX11_copies 53 = .ok (.iinc 5 1, 3) := by decide +kernel
theorem dX11_copies_56 : decode cX11_copies 56 = .ok (.goto (-29), 3) := by decide +kernel
theorem dX11_copies_59 : decode cX11_copies 59 = .ok (.lload_n 1, 1) := by decide +kernel
theorem dX11_copies_60 : decode cX11_copies 60 = .ok (.iload 4, 2) := by decide +kernel
theorem dX11_copies_62 : decode cX11_copies 62 = .ok (.iconst 2, 1) := by decide +kernel
theorem dX11_copies_63 : decode cX11_copies 63 = .ok (.if_icmp .le 9, 3) := by decide +kernel
theorem dX11_copies_66 : decode cX11_copies 66 = .ok (.lconst 1, 1) := by decide +kernel
theorem dX11_copies_67 : decode cX11_copies 67 = .ok (.iload_n 3, 1) := by decide +kernel
theorem dX11_copies_68 : decode cX11_copies 68 = .ok (.lshl, 1) := by decide +kernel
theorem dX11_copies_69 : decode cX11_copies 69 = .ok (.goto 4, 3) := by decide +kernel
theorem dX11_copies_72 : decode cX11_copies 72 = .ok (.lconst 0, 1) := by decide +kernel
theorem dX11_copies_73 : decode cX11_copies 73 = .ok (.lor, 1) := by decide +kernel
theorem dX11_copies_74 : decode cX11_copies 74 = .ok (.lstore_n 1, 1) := by decide +kernel
theorem dX11_copies_75 : decode cX11_copies 75 = .ok (.iinc 3 1, 3) := by decide +kernel
theorem dX11_copies_78 : decode cX11_copies 78 = .ok (.goto (-68), 3) := by decide +kernel
theorem dX11_copies_81 : decode cX11_copies 81 = .ok (.lload_n 1, 1) := by decide +kernel
theorem dX11_copies_82 : decode cX11_copies 82 = .ok (.lreturn, 1) := by decide +kernel
theorem dX11_rackIs_0 : decode cX11_rackIs 0 = .ok (.aload_n 0, 1) := by decide +kernel
theorem dX11_rackIs_1 : decode cX11_rackIs 1 = .ok (.aload_n 0, 1) := by decide +kernel
theorem dX11_rackIs_2 : decode cX11_rackIs 2 = .ok (.iload_n 1, 1) := by decide +kernel
theorem dX11_rackIs_3 : decode cX11_rackIs 3 = .ok (.invokevirtual 282, 3) := by decide +kernel
theorem dX11_rackIs_6 : decode cX11_rackIs 6 = .ok (.ifCond .ne 7, 3) := by decide +kernel
theorem dX11_rackIs_9 : decode cX11_rackIs 9 = .ok (.iconst 1, 1) := by decide +kernel
theorem dX11_rackIs_10 : decode cX11_rackIs 10 = .ok (.goto 16, 3) := by decide +kernel
theorem dX11_rackIs_13 : decode cX11_rackIs 13 = .ok (.aload_n 0, 1) := by decide +kernel
theorem dX11_rackIs_14 : decode cX11_rackIs 14 = .ok (.iload_n 2, 1) := by decide +kernel
theorem dX11_rackIs_15 : decode cX11_rackIs 15 = .ok (.invokevirtual 402, 3) := by decide +kernel
theorem dX11_rackIs_18 : decode cX11_rackIs 18 = .ok (.ifCond .eq 7, 3) := by decide +kernel
theorem dX11_rackIs_21 : decode cX11_rackIs 21 = .ok (.iconst 0, 1) := by decide +kernel
theorem dX11_rackIs_22 : decode cX11_rackIs 22 = .ok (.goto 4, 3) := by decide +kernel
theorem dX11_rackIs_25 : decode cX11_rackIs 25 = .ok (.iconst 2, 1) := by decide +kernel
theorem dX11_rackIs_26 : decode cX11_rackIs 26 = .ok (.invokevirtual 265, 3) := by decide +kernel
theorem dX11_rackIs_29 : decode cX11_rackIs 29 = .ok (.ifCond .eq 5, 3) := by decide +kernel
theorem dX11_rackIs_32 : decode cX11_rackIs 32 = .ok (.iconst (-1), 1) := by decide +kernel
theorem dX11_rackIs_33 : decode cX11_rackIs 33 = .ok (.ireturn, 1) := by decide +kernel
theorem dX11_rackIs_34 : decode cX11_rackIs 34 = .ok (.aload_n 0, 1) := by decide +kernel
theorem dX11_rackIs_35 : decode cX11_rackIs 35 = .ok (.getfield 63, 3) := by decide +kernel
theorem dX11_rackIs_38 : decode cX11_rackIs 38 = .ok (.bipush 53, 2) := by decide +kernel
theorem dX11_rackIs_40 : decode cX11_rackIs 40 = .ok (.iload_n 1, 1) := by decide +kernel
theorem dX11_rackIs_41 : decode cX11_rackIs 41 = .ok (.imul, 1) := by decide +kernel
theorem dX11_rackIs_42 : decode cX11_rackIs 42 = .ok (.iload_n 2, 1) := by decide +kernel
theorem dX11_rackIs_43 : decode cX11_rackIs 43 = .ok (.iadd, 1) := by decide +kernel
theorem dX11_rackIs_44 : decode cX11_rackIs 44 = .ok (.iaload, 1) := by decide +kernel
theorem dX11_rackIs_45 : decode cX11_rackIs 45 = .ok (.ireturn, 1) := by decide +kernel
theorem dX11_tableIs_0 : decode cX11_tableIs 0 = .ok (.aload_n 0, 1) := by decide +kernel
theorem dX11_tableIs_1 : decode cX11_tableIs 1 = .ok (.aload_n 0, 1) := by decide +kernel
theorem dX11_tableIs_2 : decode cX11_tableIs 2 = .ok (.iload_n 1, 1) := by decide +kernel
theorem dX11_tableIs_3 : decode cX11_tableIs 3 = .ok (.invokevirtual 294, 3) := by decide +kernel
theorem dX11_tableIs_6 : decode cX11_tableIs 6 = .ok (.ifCond .eq 7, 3) := by decide +kernel
theorem dX11_tableIs_9 : decode cX11_tableIs 9 = .ok (.iconst 0, 1) := by decide +kernel
theorem dX11_tableIs_10 : decode cX11_tableIs 10 = .ok (.goto 4, 3) := by decide +kernel
theorem dX11_tableIs_13 : decode cX11_tableIs 13 = .ok (.iconst 1, 1) := by decide +kernel
theorem dX11_tableIs_14 : decode cX11_tableIs 14 = .ok (.invokevirtual 265, 3) := by decide +kernel
theorem dX11_tableIs_17 : decode cX11_tableIs 17 = .ok (.ifCond .eq 5, 3) := by decide +kernel
theorem dX11_tableIs_20 : decode cX11_tableIs 20 = .ok (.iconst (-1), 1) := by decide +kernel
theorem dX11_tableIs_21 : decode cX11_tableIs 21 = .ok (.ireturn, 1) := by decide +kernel
theorem dX11_tableIs_22 : decode cX11_tableIs 22 = .ok (.iload_n 2, 1) := by decide +kernel
theorem dX11_tableIs_23 : decode cX11_tableIs 23 = .ok (.ifCond .eq 12, 3) := by decide +kernel
theorem dX11_tableIs_26 : decode cX11_tableIs 26 = .ok (.aload_n 0, 1) := by decide +kernel
theorem dX11_tableIs_27 : decode cX11_tableIs 27 = .ok (.getfield 69, 3) := by decide +kernel
theorem dX11_tableIs_30 : decode cX11_tableIs 30 = .ok (.iload_n 1, 1) := by decide +kernel
theorem dX11_tableIs_31 : decode cX11_tableIs 31 = .ok (.iaload, 1) := by decide +kernel
theorem dX11_tableIs_32 : decode cX11_tableIs 32 = .ok (.goto 9, 3) := by decide +kernel
theorem dX11_tableIs_35 : decode cX11_tableIs 35 = .ok (.aload_n 0, 1) := by decide +kernel
theorem dX11_tableIs_36 : decode cX11_tableIs 36 = .ok (.getfield 66, 3) := by decide +kernel
theorem dX11_tableIs_39 : decode cX11_tableIs 39 = .ok (.iload_n 1, 1) := by decide +kernel
theorem dX11_tableIs_40 : decode cX11_tableIs 40 = .ok (.iaload, 1) := by decide +kernel
theorem dX11_tableIs_41 : decode cX11_tableIs 41 = .ok (.ireturn, 1) := by decide +kernel
theorem dX11_poolIs_0 : decode cX11_poolIs 0 = .ok (.aload_n 0, 1) := by decide +kernel
theorem dX11_poolIs_1 : decode cX11_poolIs 1 = .ok (.aload_n 0, 1) := by decide +kernel
theorem dX11_poolIs_2 : decode cX11_poolIs 2 = .ok (.iload_n 1, 1) := by decide +kernel
theorem dX11_poolIs_3 : decode cX11_poolIs 3 = .ok (.invokevirtual 402, 3) := by decide +kernel
theorem dX11_poolIs_6 : decode cX11_poolIs 6 = .ok (.ifCond .eq 7, 3) := by decide +kernel
theorem dX11_poolIs_9 : decode cX11_poolIs 9 = .ok (.iconst 0, 1) := by decide +kernel
theorem dX11_poolIs_10 : decode cX11_poolIs 10 = .ok (.goto 4, 3) := by decide +kernel
theorem dX11_poolIs_13 : decode cX11_poolIs 13 = .ok (.iconst 1, 1) := by decide +kernel
theorem dX11_poolIs_14 : decode cX11_poolIs 14 = .ok (.invokevirtual 265, 3) := by decide +kernel
theorem dX11_poolIs_17 : decode cX11_poolIs 17 = .ok (.ifCond .eq 5, 3) := by decide +kernel
theorem dX11_poolIs_20 : decode cX11_poolIs 20 = .ok (.iconst (-1), 1) := by decide +kernel
theorem dX11_poolIs_21 : decode cX11_poolIs 21 = .ok (.ireturn, 1) := by decide +kernel
theorem dX11_poolIs_22 : decode cX11_poolIs 22 = .ok (.aload_n 0, 1) := by decide +kernel
theorem dX11_poolIs_23 : decode cX11_poolIs 23 = .ok (.getfield 72, 3) := by decide +kernel
theorem dX11_poolIs_26 : decode cX11_poolIs 26 = .ok (.iload_n 1, 1) := by decide +kernel
theorem dX11_poolIs_27 : decode cX11_poolIs 27 = .ok (.iaload, 1) := by decide +kernel
theorem dX11_poolIs_28 : decode cX11_poolIs 28 = .ok (.ireturn, 1) := by decide +kernel
theorem dX11_playerIs_0 : decode cX11_playerIs 0 = .ok (.aload_n 0, 1) := by decide +kernel
theorem dX11_playerIs_1 : decode cX11_playerIs 1 = .ok (.aload_n 0, 1) := by decide +kernel
theorem dX11_playerIs_2 : decode cX11_playerIs 2 = .ok (.iload_n 1, 1) := by decide +kernel
theorem dX11_playerIs_3 : decode cX11_playerIs 3 = .ok (.invokevirtual 282, 3) := by decide +kernel
theorem dX11_playerIs_6 : decode cX11_playerIs 6 = .ok (.ifCond .ne 7, 3) := by decide +kernel
theorem dX11_playerIs_9 : decode cX11_playerIs 9 = .ok (.iconst 1, 1) := by decide +kernel
theorem dX11_playerIs_10 : decode cX11_playerIs 10 = .ok (.goto 19, 3) := by decide +kernel
theorem dX11_playerIs_13 : decode cX11_playerIs 13 = .ok (.aload_n 0, 1) := by decide +kernel
theorem dX11_playerIs_14 : decode cX11_playerIs 14 = .ok (.iload_n 2, 1) := by decide +kernel
theorem dX11_playerIs_15 : decode cX11_playerIs 15 = .ok (.iconst 0, 1) := by decide +kernel
theorem dX11_playerIs_16 : decode cX11_playerIs 16 = .ok (.bipush 9, 2) := by decide +kernel
theorem dX11_playerIs_18 : decode cX11_playerIs 18 = .ok (.invokevirtual 182, 3) := by decide +kernel
theorem dX11_playerIs_21 : decode cX11_playerIs 21 = .ok (.ifCond .eq 7, 3) := by decide +kernel
theorem dX11_playerIs_24 : decode cX11_playerIs 24 = .ok (.iconst 0, 1) := by decide +kernel
theorem dX11_playerIs_25 : decode cX11_playerIs 25 = .ok (.goto 4, 3) := by decide +kernel
theorem dX11_playerIs_28 : decode cX11_playerIs 28 = .ok (.iconst 2, 1) := by decide +kernel
theorem dX11_playerIs_29 : decode cX11_playerIs 29 = .ok (.invokevirtual 265, 3) := by decide +kernel
theorem dX11_playerIs_32 : decode cX11_playerIs 32 = .ok (.ifCond .eq 5, 3) := by decide +kernel
theorem dX11_playerIs_35 : decode cX11_playerIs 35 = .ok (.iconst (-1), 1) := by decide +kernel
theorem dX11_playerIs_36 : decode cX11_playerIs 36 = .ok (.ireturn, 1) := by decide +kernel
theorem dX11_playerIs_37 : decode cX11_playerIs 37 = .ok (.iload_n 2, 1) := by decide +kernel
theorem dX11_playerIs_38 : decode cX11_playerIs 38 = .ok (.tableswitch 118 0 8 #[50, 57, 64, 71, 78, 93, 99, 105, 111], 50) := by decide +kernel
theorem dX11_playerIs_88 : decode cX11_playerIs 88 = .ok (.aload_n 0, 1) := by decide +kernel
theorem dX11_playerIs_89 : decode cX11_playerIs 89 = .ok (.getfield 27, 3) := by decide +kernel
theorem dX11_playerIs_92 : decode cX11_playerIs 92 = .ok (.iload_n 1, 1) := by decide +kernel
theorem dX11_playerIs_93 : decode cX11_playerIs 93 = .ok (.iaload, 1) := by decide +kernel
theorem dX11_playerIs_94 : decode cX11_playerIs 94 = .ok (.ireturn, 1) := by decide +kernel
theorem dX11_playerIs_95 : decode cX11_playerIs 95 = .ok (.aload_n 0, 1) := by decide +kernel
theorem dX11_playerIs_96 : decode cX11_playerIs 96 = .ok (.getfield 31, 3) := by decide +kernel
theorem dX11_playerIs_99 : decode cX11_playerIs 99 = .ok (.iload_n 1, 1) := by decide +kernel
theorem dX11_playerIs_100 : decode cX11_playerIs 100 = .ok (.iaload, 1) := by decide +kernel
theorem dX11_playerIs_101 : decode cX11_playerIs 101 = .ok (.ireturn, 1) := by decide +kernel
theorem dX11_playerIs_102 : decode cX11_playerIs 102 = .ok (.aload_n 0, 1) := by decide +kernel
theorem dX11_playerIs_103 : decode cX11_playerIs 103 = .ok (.getfield 34, 3) := by decide +kernel
theorem dX11_playerIs_106 : decode cX11_playerIs 106 = .ok (.iload_n 1, 1) := by decide +kernel
theorem dX11_playerIs_107 : decode cX11_playerIs 107 = .ok (.iaload, 1) := by decide +kernel
theorem dX11_playerIs_108 : decode cX11_playerIs 108 = .ok (.ireturn, 1) := by decide +kernel
theorem dX11_playerIs_109 : decode cX11_playerIs 109 = .ok (.aload_n 0, 1) := by decide +kernel
theorem dX11_playerIs_110 : decode cX11_playerIs 110 = .ok (.getfield 37, 3) := by decide +kernel
theorem dX11_playerIs_113 : decode cX11_playerIs 113 = .ok (.iload_n 1, 1) := by decide +kernel
theorem dX11_playerIs_114 : decode cX11_playerIs 114 = .ok (.iaload, 1) := by decide +kernel
theorem dX11_playerIs_115 : decode cX11_playerIs 115 = .ok (.ireturn, 1) := by decide +kernel
theorem dX11_playerIs_116 : decode cX11_playerIs 116 = .ok (.aload_n 0, 1) := by decide +kernel
theorem dX11_playerIs_117 : decode cX11_playerIs 117 = .ok (.getfield 40, 3) := by decide +kernel
theorem dX11_playerIs_120 : decode cX11_playerIs 120 = .ok (.iload_n 1, 1) := by decide +kernel
theorem dX11_playerIs_121 : decode cX11_playerIs 121 = .ok (.baload, 1) := by decide +kernel
theorem dX11_playerIs_122 : decode cX11_playerIs 122 = .ok (.ifCond .eq 7, 3) := by decide +kernel
theorem dX11_playerIs_125 : decode cX11_playerIs 125 = .ok (.iconst 1, 1) := by decide +kernel
theorem dX11_playerIs_126 : decode cX11_playerIs 126 = .ok (.goto 4, 3) := by decide +kernel
theorem dX11_playerIs_129 : decode cX11_playerIs 129 = .ok (.iconst 0, 1) := by decide +kernel
theorem dX11_playerIs_130 : decode cX11_playerIs 130 = .ok (.ireturn, 1) := by decide +kernel
theorem dX11_playerIs_131 : decode cX11_playerIs 131 = .ok (.aload_n 0, 1) := by decide +kernel
theorem dX11_playerIs_132 : decode cX11_playerIs 132 = .ok (.iload_n 1, 1) := by decide +kernel
theorem dX11_playerIs_133 : decode cX11_playerIs 133 = .ok (.invokevirtual 315, 3) := by decide +kernel
theorem dX11_playerIs_136 : decode cX11_playerIs 136 = .ok (.ireturn, 1) := by decide +kernel
theorem dX11_playerIs_137 : decode cX11_playerIs 137 = .ok (.aload_n 0, 1) := by decide +kernel
theorem dX11_playerIs_138 : decode cX11_playerIs 138 = .ok (.iload_n 1, 1) := by decide +kernel
theorem dX11_playerIs_139 : decode cX11_playerIs 139 = .ok (.invokevirtual 356, 3) := by decide +kernel
theorem dX11_playerIs_142 : decode cX11_playerIs 142 = .ok (.ireturn, 1) := by decide +kernel
theorem dX11_playerIs_143 : decode cX11_playerIs 143 = .ok (.aload_n 0, 1) := by decide +kernel
theorem dX11_playerIs_144 : decode cX11_playerIs 144 = .ok (.iload_n 1, 1) := by decide +kernel
theorem dX11_playerIs_145 : decode cX11_playerIs 145 = .ok (.invokevirtual 359, 3) := by decide +kernel
theorem dX11_playerIs_148 : decode cX11_playerIs 148 = .ok (.ireturn, 1) := by decide +kernel
theorem dX11_playerIs_149 : decode cX11_playerIs 149 = .ok (.aload_n 0, 1) := by decide +kernel
theorem dX11_playerIs_150 : decode cX11_playerIs 150 = .ok (.getfield 57, 3) := by decide +kernel
theorem dX11_playerIs_153 : decode cX11_playerIs 153 = .ok (.iload_n 1, 1) := by decide +kernel
theorem dX11_playerIs_154 : decode cX11_playerIs 154 = .ok (.iaload, 1) := by decide +kernel
theorem dX11_playerIs_155 : decode cX11_playerIs 155 = .ok (.ireturn, 1) := by decide +kernel
theorem dX11_playerIs_156 : decode cX11_playerIs 156 = .ok (.aload_n 0, 1) := by decide +kernel
theorem dX11_playerIs_157 : decode cX11_playerIs 157 = .ok (.getfield 44, 3) := by decide +kernel
theorem dX11_playerIs_160 : decode cX11_playerIs 160 = .ok (.iload_n 1, 1) := by decide +kernel
theorem dX11_playerIs_161 : decode cX11_playerIs 161 = .ok (.iaload, 1) := by decide +kernel
theorem dX11_playerIs_162 : decode cX11_playerIs 162 = .ok (.ireturn, 1) := by decide +kernel
theorem dX11_team_0 : decode cX11_team 0 = .ok (.aload_n 0, 1) := by decide +kernel
theorem dX11_team_1 : decode cX11_team 1 = .ok (.aload_n 0, 1) := by decide +kernel
theorem dX11_team_2 : decode cX11_team 2 = .ok (.iload_n 1, 1) := by decide +kernel
theorem dX11_team_3 : decode cX11_team 3 = .ok (.iconst 0, 1) := by decide +kernel
theorem dX11_team_4 : decode cX11_team 4 = .ok (.iconst 1, 1) := by decide +kernel
theorem dX11_team_5 : decode cX11_team 5 = .ok (.invokevirtual 182, 3) := by decide +kernel
theorem dX11_team_8 : decode cX11_team 8 = .ok (.ifCond .eq 7, 3) := by decide +kernel
theorem dX11_team_11 : decode cX11_team 11 = .ok (.iconst 0, 1) := by decide +kernel
theorem dX11_team_12 : decode cX11_team 12 = .ok (.goto 4, 3) := by decide +kernel
theorem dX11_team_15 : decode cX11_team 15 = .ok (.iconst 1, 1) := by decide +kernel
theorem dX11_team_16 : decode cX11_team 16 = .ok (.invokevirtual 265, 3) := by decide +kernel
theorem dX11_team_19 : decode cX11_team 19 = .ok (.ifCond .eq 5, 3) := by decide +kernel
theorem dX11_team_22 : decode cX11_team 22 = .ok (.iconst (-1), 1) := by decide +kernel
theorem dX11_team_23 : decode cX11_team 23 = .ok (.ireturn, 1) := by decide +kernel
theorem dX11_team_24 : decode cX11_team 24 = .ok (.iconst 0, 1) := by decide +kernel
theorem dX11_team_25 : decode cX11_team 25 = .ok (.istore_n 2, 1) := by decide +kernel
theorem dX11_team_26 : decode cX11_team 26 = .ok (.iconst 0, 1) := by decide +kernel
theorem dX11_team_27 : decode cX11_team 27 = .ok (.istore_n 3, 1) := by decide +kernel
theorem dX11_team_28 : decode cX11_team 28 = .ok (.iload_n 3, 1) := by decide +kernel
theorem dX11_team_29 : decode cX11_team 29 = .ok (.aload_n 0, 1) := by decide +kernel
theorem dX11_team_30 : decode cX11_team 30 = .ok (.getfield 186, 3) := by decide +kernel
theorem dX11_team_33 : decode cX11_team 33 = .ok (.if_icmp .ge 32, 3) := by decide +kernel
theorem dX11_team_36 : decode cX11_team 36 = .ok (.iload_n 2, 1) := by decide +kernel
theorem dX11_team_37 : decode cX11_team 37 = .ok (.aload_n 0, 1) := by decide +kernel
theorem dX11_team_38 : decode cX11_team 38 = .ok (.getfield 27, 3) := by decide +kernel
theorem dX11_team_41 : decode cX11_team 41 = .ok (.iload_n 3, 1) := by decide +kernel
theorem dX11_team_42 : decode cX11_team 42 = .ok (.iaload, 1) := by decide +kernel
theorem dX11_team_43 : decode cX11_team 43 = .ok (.iload_n 1, 1) := by decide +kernel
theorem dX11_team_44 : decode cX11_team 44 = .ok (.if_icmp .ne 12, 3) := by decide +kernel
theorem dX11_team_47 : decode cX11_team 47 = .ok (.aload_n 0, 1) := by decide +kernel
theorem dX11_team_48 : decode cX11_team 48 = .ok (.getfield 34, 3) := by decide +kernel
theorem dX11_team_51 : decode cX11_team 51 = .ok (.iload_n 3, 1) := by decide +kernel
theorem dX11_team_52 : decode cX11_team 52 = .ok (.iaload, 1) := by decide +kernel
theorem dX11_team_53 : decode cX11_team 53 = .ok (.goto 4, 3) := by decide +kernel
theorem dX11_team_56 : decode cX11_team 56 = .ok (.iconst 0, 1) := by decide +kernel
theorem dX11_team_57 : decode cX11_team 57 = .ok (.iadd, 1) := by decide +kernel
theorem dX11_team_58 : decode cX11_team 58 = .ok (.istore_n 2, 1) := by decide +kernel
theorem dX11_team_59 : decode cX11_team 59 = .ok (.iinc 3 1, 3) := by decide +kernel
theorem dX11_team_62 : decode cX11_team 62 = .ok (.goto (-34), 3) := by decide +kernel
theorem dX11_team_65 : decode cX11_team 65 = .ok (.iload_n 2, 1) := by decide +kernel
theorem dX11_team_66 : decode cX11_team 66 = .ok (.ireturn, 1) := by decide +kernel
theorem dX11_entry_0 : decode cX11_entry 0 = .ok (.aload_n 0, 1) := by decide +kernel
theorem dX11_entry_1 : decode cX11_entry 1 = .ok (.aload_n 0, 1) := by decide +kernel
theorem dX11_entry_2 : decode cX11_entry 2 = .ok (.iload_n 1, 1) := by decide +kernel
theorem dX11_entry_3 : decode cX11_entry 3 = .ok (.iconst 0, 1) := by decide +kernel
theorem dX11_entry_4 : decode cX11_entry 4 = .ok (.aload_n 0, 1) := by decide +kernel
theorem dX11_entry_5 : decode cX11_entry 5 = .ok (.getfield 306, 3) := by decide +kernel
theorem dX11_entry_8 : decode cX11_entry 8 = .ok (.iconst 1, 1) := by decide +kernel
theorem dX11_entry_9 : decode cX11_entry 9 = .ok (.isub, 1) := by decide +kernel
theorem dX11_entry_10 : decode cX11_entry 10 = .ok (.invokevirtual 182, 3) := by decide +kernel
theorem dX11_entry_13 : decode cX11_entry 13 = .ok (.ifCond .ne 7, 3) := by decide +kernel
theorem dX11_entry_16 : decode cX11_entry 16 = .ok (.iconst 1, 1) := by decide +kernel
theorem dX11_entry_17 : decode cX11_entry 17 = .ok (.goto 18, 3) := by decide +kernel
theorem dX11_entry_20 : decode cX11_entry 20 = .ok (.aload_n 0, 1) := by decide +kernel
theorem dX11_entry_21 : decode cX11_entry 21 = .ok (.iload_n 2, 1) := by decide +kernel
theorem dX11_entry_22 : decode cX11_entry 22 = .ok (.iconst 0, 1) := by decide +kernel
theorem dX11_entry_23 : decode cX11_entry 23 = .ok (.iconst 3, 1) := by decide +kernel
theorem dX11_entry_24 : decode cX11_entry 24 = .ok (.invokevirtual 182, 3) := by decide +kernel
theorem dX11_entry_27 : decode cX11_entry 27 = .ok (.ifCond .eq 7, 3) := by decide +kernel
theorem dX11_entry_30 : decode cX11_entry 30 = .ok (.iconst 0, 1) := by decide +kernel
theorem dX11_entry_31 : decode cX11_entry 31 = .ok (.goto 4, 3) := by decide +kernel
theorem dX11_entry_34 : decode cX11_entry 34 = .ok (.iconst 2, 1) := by decide +kernel
theorem dX11_entry_35 : decode cX11_entry 35 = .ok (.invokevirtual 265, 3) := by decide +kernel
theorem dX11_entry_38 : decode cX11_entry 38 = .ok (.ifCond .eq 5, 3) := by decide +kernel
theorem dX11_entry_41 : decode cX11_entry 41 = .ok (.iconst (-1), 1) := by decide +kernel
theorem dX11_entry_42 : decode cX11_entry 42 = .ok (.ireturn, 1) := by decide +kernel
theorem dX11_entry_43 : decode cX11_entry 43 = .ok (.aload_n 0, 1) := by decide +kernel
theorem dX11_entry_44 : decode cX11_entry 44 = .ok (.getfield 88, 3) := by decide +kernel
theorem dX11_entry_47 : decode cX11_entry 47 = .ok (.iconst 4, 1) := by decide +kernel
theorem dX11_entry_48 : decode cX11_entry 48 = .ok (.aload_n 0, 1) := by decide +kernel
theorem dX11_entry_49 : decode cX11_entry 49 = .ok (.getfield 306, 3) := by decide +kernel
theorem dX11_entry_52 : decode cX11_entry 52 = .ok (.iconst 1, 1) := by decide +kernel
theorem dX11_entry_53 : decode cX11_entry 53 = .ok (.isub, 1) := by decide +kernel
theorem dX11_entry_54 : decode cX11_entry 54 = .ok (.iload_n 1, 1) := by decide +kernel
theorem dX11_entry_55 : decode cX11_entry 55 = .ok (.isub, 1) := by decide +kernel
theorem dX11_entry_56 : decode cX11_entry 56 = .ok (.imul, 1) := by decide +kernel
theorem dX11_entry_57 : decode cX11_entry 57 = .ok (.iload_n 2, 1) := by decide +kernel
theorem dX11_entry_58 : decode cX11_entry 58 = .ok (.iadd, 1) := by decide +kernel
theorem dX11_entry_59 : decode cX11_entry 59 = .ok (.iaload, 1) := by decide +kernel
theorem dX11_entry_60 : decode cX11_entry 60 = .ok (.ireturn, 1) := by decide +kernel
theorem dX11_isReplayed_0 : decode cX11_isReplayed 0 = .ok (.aload_n 0, 1) := by decide +kernel
theorem dX11_isReplayed_1 : decode cX11_isReplayed 1 = .ok (.iconst 0, 1) := by decide +kernel
theorem dX11_isReplayed_2 : decode cX11_isReplayed 2 = .ok (.invokevirtual 265, 3) := by decide +kernel
theorem dX11_isReplayed_5 : decode cX11_isReplayed 5 = .ok (.pop, 1) := by decide +kernel
theorem dX11_isReplayed_6 : decode cX11_isReplayed 6 = .ok (.iconst 1, 1) := by decide +kernel
theorem dX11_isReplayed_7 : decode cX11_isReplayed 7 = .ok (.ireturn, 1) := by decide +kernel
theorem dX11_sum_0 : decode cX11_sum 0 = .ok (.aload_n 0, 1) := by decide +kernel
theorem dX11_sum_1 : decode cX11_sum 1 = .ok (.aload_n 0, 1) := by decide +kernel
theorem dX11_sum_2 : decode cX11_sum 2 = .ok (.iload_n 1, 1) := by decide +kernel
theorem dX11_sum_3 : decode cX11_sum 3 = .ok (.iconst 0, 1) := by decide +kernel
theorem dX11_sum_4 : decode cX11_sum 4 = .ok (.bipush 11, 2) := by decide +kernel
theorem dX11_sum_6 : decode cX11_sum 6 = .ok (.invokevirtual 182, 3) := by decide +kernel
theorem dX11_sum_9 : decode cX11_sum 9 = .ok (.ifCond .eq 7, 3) := by decide +kernel
theorem dX11_sum_12 : decode cX11_sum 12 = .ok (.iconst 0, 1) := by decide +kernel
theorem dX11_sum_13 : decode cX11_sum 13 = .ok (.goto 4, 3) := by decide +kernel
theorem dX11_sum_16 : decode cX11_sum 16 = .ok (.iconst 1, 1) := by decide +kernel
theorem dX11_sum_17 : decode cX11_sum 17 = .ok (.invokevirtual 265, 3) := by decide +kernel
theorem dX11_sum_20 : decode cX11_sum 20 = .ok (.ifCond .eq 5, 3) := by decide +kernel
theorem dX11_sum_23 : decode cX11_sum 23 = .ok (.iconst (-1), 1) := by decide +kernel
theorem dX11_sum_24 : decode cX11_sum 24 = .ok (.ireturn, 1) := by decide +kernel
theorem dX11_sum_25 : decode cX11_sum 25 = .ok (.iload_n 1, 1) := by decide +kernel
theorem dX11_sum_26 : decode cX11_sum 26 = .ok (.tableswitch 113 0 10 #[58, 63, 68, 73, 78, 83, 88, 93, 98, 103, 108], 58) := by decide +kernel
theorem dX11_sum_84 : decode cX11_sum 84 = .ok (.aload_n 0, 1) := by decide +kernel
theorem dX11_sum_85 : decode cX11_sum 85 = .ok (.getfield 75, 3) := by decide +kernel
theorem dX11_sum_88 : decode cX11_sum 88 = .ok (.ireturn, 1) := by decide +kernel
theorem dX11_sum_89 : decode cX11_sum 89 = .ok (.aload_n 0, 1) := by decide +kernel
theorem dX11_sum_90 : decode cX11_sum 90 = .ok (.invokevirtual 312, 3) := by decide +kernel
theorem dX11_sum_93 : decode cX11_sum 93 = .ok (.ireturn, 1) := by decide +kernel
theorem dX11_sum_94 : decode cX11_sum 94 = .ok (.aload_n 0, 1) := by decide +kernel
theorem dX11_sum_95 : decode cX11_sum 95 = .ok (.invokevirtual 275, 3) := by decide +kernel
theorem dX11_sum_98 : decode cX11_sum 98 = .ok (.ireturn, 1) := by decide +kernel
theorem dX11_sum_99 : decode cX11_sum 99 = .ok (.aload_n 0, 1) := by decide +kernel
theorem dX11_sum_100 : decode cX11_sum 100 = .ok (.invokevirtual 344, 3) := by decide +kernel
theorem dX11_sum_103 : decode cX11_sum 103 = .ok (.ireturn, 1) := by decide +kernel
theorem dX11_sum_104 : decode cX11_sum 104 = .ok (.aload_n 0, 1) := by decide +kernel
theorem dX11_sum_105 : decode cX11_sum 105 = .ok (.getfield 300, 3) := by decide +kernel
theorem dX11_sum_108 : decode cX11_sum 108 = .ok (.ireturn, 1) := by decide +kernel
theorem dX11_sum_109 : decode cX11_sum 109 = .ok (.aload_n 0, 1) := by decide +kernel
theorem dX11_sum_110 : decode cX11_sum 110 = .ok (.getfield 303, 3) := by decide +kernel
theorem dX11_sum_113 : decode cX11_sum 113 = .ok (.ireturn, 1) := by decide +kernel
theorem dX11_sum_114 : decode cX11_sum 114 = .ok (.aload_n 0, 1) := by decide +kernel
theorem dX11_sum_115 : decode cX11_sum 115 = .ok (.getfield 322, 3) := by decide +kernel
theorem dX11_sum_118 : decode cX11_sum 118 = .ok (.ireturn, 1) := by decide +kernel
theorem dX11_sum_119 : decode cX11_sum 119 = .ok (.aload_n 0, 1) := by decide +kernel
theorem dX11_sum_120 : decode cX11_sum 120 = .ok (.getfield 306, 3) := by decide +kernel
theorem dX11_sum_123 : decode cX11_sum 123 = .ok (.ireturn, 1) := by decide +kernel
theorem dX11_sum_124 : decode cX11_sum 124 = .ok (.aload_n 0, 1) := by decide +kernel
theorem dX11_sum_125 : decode cX11_sum 125 = .ok (.getfield 362, 3) := by decide +kernel
theorem dX11_sum_128 : decode cX11_sum 128 = .ok (.ireturn, 1) := by decide +kernel
theorem dX11_sum_129 : decode cX11_sum 129 = .ok (.aload_n 0, 1) := by decide +kernel
theorem dX11_sum_130 : decode cX11_sum 130 = .ok (.getfield 78, 3) := by decide +kernel
theorem dX11_sum_133 : decode cX11_sum 133 = .ok (.ireturn, 1) := by decide +kernel
theorem dX11_sum_134 : decode cX11_sum 134 = .ok (.aload_n 0, 1) := by decide +kernel
theorem dX11_sum_135 : decode cX11_sum 135 = .ok (.getfield 387, 3) := by decide +kernel
theorem dX11_sum_138 : decode cX11_sum 138 = .ok (.ireturn, 1) := by decide +kernel
theorem dX11_sum_139 : decode cX11_sum 139 = .ok (.aload_n 0, 1) := by decide +kernel
theorem dX11_sum_140 : decode cX11_sum 140 = .ok (.getfield 318, 3) := by decide +kernel
theorem dX11_sum_143 : decode cX11_sum 143 = .ok (.ireturn, 1) := by decide +kernel
