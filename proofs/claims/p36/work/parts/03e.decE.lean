theorem dL_cell_0 : decode cL_cell 0 = .ok (.iload_n 1, 1) := by decide +kernel
theorem dL_cell_1 : decode cL_cell 1 = .ok (.aload_n 0, 1) := by decide +kernel
theorem dL_cell_2 : decode cL_cell 2 = .ok (.arraylength, 1) := by decide +kernel
theorem dL_cell_3 : decode cL_cell 3 = .ok (.if_icmp .ge 9, 3) := by decide +kernel
theorem dL_cell_6 : decode cL_cell 6 = .ok (.aload_n 0, 1) := by decide +kernel
theorem dL_cell_7 : decode cL_cell 7 = .ok (.iload_n 1, 1) := by decide +kernel
theorem dL_cell_8 : decode cL_cell 8 = .ok (.iaload, 1) := by decide +kernel
theorem dL_cell_9 : decode cL_cell 9 = .ok (.goto 11, 3) := by decide +kernel
theorem dL_cell_12 : decode cL_cell 12 = .ok (.ldc 7, 2) := by decide +kernel
theorem dL_cell_14 : decode cL_cell 14 = .ok (.iload_n 1, 1) := by decide +kernel
theorem dL_cell_15 : decode cL_cell 15 = .ok (.imul, 1) := by decide +kernel
theorem dL_cell_16 : decode cL_cell 16 = .ok (.sipush 16123, 3) := by decide +kernel
theorem dL_cell_19 : decode cL_cell 19 = .ok (.iadd, 1) := by decide +kernel
theorem dL_cell_20 : decode cL_cell 20 = .ok (.ireturn, 1) := by decide +kernel
theorem dL_low_0 : decode cL_low 0 = .ok (.iload_n 0, 1) := by decide +kernel
theorem dL_low_1 : decode cL_low 1 = .ok (.ldc 8, 2) := by decide +kernel
theorem dL_low_3 : decode cL_low 3 = .ok (.iand, 1) := by decide +kernel
theorem dL_low_4 : decode cL_low 4 = .ok (.iload_n 1, 1) := by decide +kernel
theorem dL_low_5 : decode cL_low 5 = .ok (.irem, 1) := by decide +kernel
theorem dL_low_6 : decode cL_low 6 = .ok (.ireturn, 1) := by decide +kernel
theorem dL_does_0 : decode cL_does 0 = .ok (.iload_n 1, 1) := by decide +kernel
theorem dL_does_1 : decode cL_does 1 = .ok (.ifCond .ne 19, 3) := by decide +kernel
theorem dL_does_4 : decode cL_does 4 = .ok (.aload_n 0, 1) := by decide +kernel
theorem dL_does_5 : decode cL_does 5 = .ok (.iload_n 2, 1) := by decide +kernel
theorem dL_does_6 : decode cL_does 6 = .ok (.iload_n 3, 1) := by decide +kernel
theorem dL_does_7 : decode cL_does 7 = .ok (.iload 4, 2) := by decide +kernel
theorem dL_does_9 : decode cL_does 9 = .ok (.iload 5, 2) := by decide +kernel
theorem dL_does_11 : decode cL_does 11 = .ok (.iload 6, 2) := by decide +kernel
theorem dL_does_13 : decode cL_does 13 = .ok (.invokevirtual 9, 3) := by decide +kernel
theorem dL_does_16 : decode cL_does 16 = .ok (.i2l, 1) := by decide +kernel
theorem dL_does_17 : decode cL_does 17 = .ok (.goto 517, 3) := by decide +kernel
theorem dL_does_20 : decode cL_does 20 = .ok (.iload_n 1, 1) := by decide +kernel
theorem dL_does_21 : decode cL_does 21 = .ok (.iconst 1, 1) := by decide +kernel
theorem dL_does_22 : decode cL_does 22 = .ok (.if_icmp .ne 13, 3) := by decide +kernel
theorem dL_does_25 : decode cL_does 25 = .ok (.aload_n 0, 1) := by decide +kernel
theorem dL_does_26 : decode cL_does 26 = .ok (.iload_n 2, 1) := by decide +kernel
theorem dL_does_27 : decode cL_does 27 = .ok (.iload_n 3, 1) := by decide +kernel
theorem dL_does_28 : decode cL_does 28 = .ok (.invokevirtual 15, 3) := by decide +kernel
theorem dL_does_31 : decode cL_does 31 = .ok (.i2l, 1) := by decide +kernel
theorem dL_does_32 : decode cL_does 32 = .ok (.goto 502, 3) := by decide +kernel
theorem dL_does_35 : decode cL_does 35 = .ok (.iload_n 1, 1) := by decide +kernel
theorem dL_does_36 : decode cL_does 36 = .ok (.iconst 2, 1) := by decide +kernel
theorem dL_does_37 : decode cL_does 37 = .ok (.if_icmp .ne 15, 3) := by decide +kernel
theorem dL_does_40 : decode cL_does 40 = .ok (.aload_n 0, 1) := by decide +kernel
theorem dL_does_41 : decode cL_does 41 = .ok (.iload_n 2, 1) := by decide +kernel
theorem dL_does_42 : decode cL_does 42 = .ok (.iload_n 3, 1) := by decide +kernel
theorem dL_does_43 : decode cL_does 43 = .ok (.iload 4, 2) := by decide +kernel
theorem dL_does_45 : decode cL_does 45 = .ok (.invokevirtual 19, 3) := by decide +kernel
theorem dL_does_48 : decode cL_does 48 = .ok (.i2l, 1) := by decide +kernel
theorem dL_does_49 : decode cL_does 49 = .ok (.goto 485, 3) := by decide +kernel
theorem dL_does_52 : decode cL_does 52 = .ok (.iload_n 1, 1) := by decide +kernel
theorem dL_does_53 : decode cL_does 53 = .ok (.iconst 3, 1) := by decide +kernel
theorem dL_does_54 : decode cL_does 54 = .ok (.if_icmp .ne 12, 3) := by decide +kernel
theorem dL_does_57 : decode cL_does 57 = .ok (.aload_n 0, 1) := by decide +kernel
theorem dL_does_58 : decode cL_does 58 = .ok (.iload_n 2, 1) := by decide +kernel
theorem dL_does_59 : decode cL_does 59 = .ok (.invokevirtual 23, 3) := by decide +kernel
theorem dL_does_62 : decode cL_does 62 = .ok (.i2l, 1) := by decide +kernel
theorem dL_does_63 : decode cL_does 63 = .ok (.goto 471, 3) := by decide +kernel
theorem dL_does_66 : decode cL_does 66 = .ok (.iload_n 1, 1) := by decide +kernel
theorem dL_does_67 : decode cL_does 67 = .ok (.iconst 4, 1) := by decide +kernel
theorem dL_does_68 : decode cL_does 68 = .ok (.if_icmp .ne 12, 3) := by decide +kernel
theorem dL_does_71 : decode cL_does 71 = .ok (.aload_n 0, 1) := by decide +kernel
theorem dL_does_72 : decode cL_does 72 = .ok (.iload_n 2, 1) := by decide +kernel
theorem dL_does_73 : decode cL_does 73 = .ok (.invokevirtual 27, 3) := by decide +kernel
theorem dL_does_76 : decode cL_does 76 = .ok (.i2l, 1) := by decide +kernel
theorem dL_does_77 : decode cL_does 77 = .ok (.goto 457, 3) := by decide +kernel
theorem dL_does_80 : decode cL_does 80 = .ok (.iload_n 1, 1) := by decide +kernel
theorem dL_does_81 : decode cL_does 81 = .ok (.iconst 5, 1) := by decide +kernel
theorem dL_does_82 : decode cL_does 82 = .ok (.if_icmp .ne 12, 3) := by decide +kernel
theorem dL_does_85 : decode cL_does 85 = .ok (.aload_n 0, 1) := by decide +kernel
theorem dL_does_86 : decode cL_does 86 = .ok (.iload_n 2, 1) := by decide +kernel
theorem dL_does_87 : decode cL_does 87 = .ok (.invokevirtual 30, 3) := by decide +kernel
theorem dL_does_90 : decode cL_does 90 = .ok (.i2l, 1) := by decide +kernel
theorem dL_does_91 : decode cL_does 91 = .ok (.goto 443, 3) := by decide +kernel
theorem dL_does_94 : decode cL_does 94 = .ok (.iload_n 1, 1) := by decide +kernel
theorem dL_does_95 : decode cL_does 95 = .ok (.bipush 6, 2) := by decide +kernel
theorem dL_does_97 : decode cL_does 97 = .ok (.if_icmp .ne 11, 3) := by decide +kernel
theorem dL_does_100 : decode cL_does 100 = .ok (.aload_n 0, 1) := by decide +kernel
theorem dL_does_101 : decode cL_does 101 = .ok (.invokevirtual 33, 3) := by decide +kernel
theorem dL_does_104 : decode cL_does 104 = .ok (.i2l, 1) := by decide +kernel
theorem dL_does_105 : decode cL_does 105 = .ok (.goto 429, 3) := by decide +kernel
theorem dL_does_108 : decode cL_does 108 = .ok (.iload_n 1, 1) := by decide +kernel
theorem dL_does_109 : decode cL_does 109 = .ok (.bipush 7, 2) := by decide +kernel
theorem dL_does_111 : decode cL_does 111 = .ok (.if_icmp .ne 11, 3) := by decide +kernel
theorem dL_does_114 : decode cL_does 114 = .ok (.aload_n 0, 1) := by decide +kernel
theorem dL_does_115 : decode cL_does 115 = .ok (.invokevirtual 37, 3) := by decide +kernel
theorem dL_does_118 : decode cL_does 118 = .ok (.i2l, 1) := by decide +kernel
theorem dL_does_119 : decode cL_does 119 = .ok (.goto 415, 3) := by decide +kernel
theorem dL_does_122 : decode cL_does 122 = .ok (.iload_n 1, 1) := by decide +kernel
theorem dL_does_123 : decode cL_does 123 = .ok (.bipush 8, 2) := by decide +kernel
theorem dL_does_125 : decode cL_does 125 = .ok (.if_icmp .ne 11, 3) := by decide +kernel
theorem dL_does_128 : decode cL_does 128 = .ok (.aload_n 0, 1) := by decide +kernel
theorem dL_does_129 : decode cL_does 129 = .ok (.invokevirtual 40, 3) := by decide +kernel
theorem dL_does_132 : decode cL_does 132 = .ok (.i2l, 1) := by decide +kernel
theorem dL_does_133 : decode cL_does 133 = .ok (.goto 401, 3) := by decide +kernel
theorem dL_does_136 : decode cL_does 136 = .ok (.iload_n 1, 1) := by decide +kernel
theorem dL_does_137 : decode cL_does 137 = .ok (.bipush 9, 2) := by decide +kernel
theorem dL_does_139 : decode cL_does 139 = .ok (.if_icmp .ne 12, 3) := by decide +kernel
theorem dL_does_142 : decode cL_does 142 = .ok (.aload_n 0, 1) := by decide +kernel
theorem dL_does_143 : decode cL_does 143 = .ok (.iload_n 2, 1) := by decide +kernel
theorem dL_does_144 : decode cL_does 144 = .ok (.invokevirtual 43, 3) := by decide +kernel
theorem dL_does_147 : decode cL_does 147 = .ok (.i2l, 1) := by decide +kernel
theorem dL_does_148 : decode cL_does 148 = .ok (.goto 386, 3) := by decide +kernel
theorem dL_does_151 : decode cL_does 151 = .ok (.iload_n 1, 1) := by decide +kernel
theorem dL_does_152 : decode cL_does 152 = .ok (.bipush 10, 2) := by decide +kernel
theorem dL_does_154 : decode cL_does 154 = .ok (.if_icmp .ne 11, 3) := by decide +kernel
theorem dL_does_157 : decode cL_does 157 = .ok (.aload_n 0, 1) := by decide +kernel
theorem dL_does_158 : decode cL_does 158 = .ok (.invokevirtual 46, 3) := by decide +kernel
theorem dL_does_161 : decode cL_does 161 = .ok (.i2l, 1) := by decide +kernel
theorem dL_does_162 : decode cL_does 162 = .ok (.goto 372, 3) := by decide +kernel
theorem dL_does_165 : decode cL_does 165 = .ok (.iload_n 1, 1) := by decide +kernel
theorem dL_does_166 : decode cL_does 166 = .ok (.bipush 11, 2) := by decide +kernel
theorem dL_does_168 : decode cL_does 168 = .ok (.if_icmp .ne 13, 3) := by decide +kernel
theorem dL_does_171 : decode cL_does 171 = .ok (.aload_n 0, 1) := by decide +kernel
theorem dL_does_172 : decode cL_does 172 = .ok (.iload_n 2, 1) := by decide +kernel
theorem dL_does_173 : decode cL_does 173 = .ok (.i2c, 1) := by decide +kernel
theorem dL_does_174 : decode cL_does 174 = .ok (.invokevirtual 49, 3) := by decide +kernel
theorem dL_does_177 : decode cL_does 177 = .ok (.i2l, 1) := by decide +kernel
theorem dL_does_178 : decode cL_does 178 = .ok (.goto 356, 3) := by decide +kernel
theorem dL_does_181 : decode cL_does 181 = .ok (.iload_n 1, 1) := by decide +kernel
theorem dL_does_182 : decode cL_does 182 = .ok (.bipush 12, 2) := by decide +kernel
theorem dL_does_184 : decode cL_does 184 = .ok (.if_icmp .ne 11, 3) := by decide +kernel
theorem dL_does_187 : decode cL_does 187 = .ok (.aload_n 0, 1) := by decide +kernel
theorem dL_does_188 : decode cL_does 188 = .ok (.invokevirtual 53, 3) := by decide +kernel
theorem dL_does_191 : decode cL_does 191 = .ok (.i2l, 1) := by decide +kernel
theorem dL_does_192 : decode cL_does 192 = .ok (.goto 342, 3) := by decide +kernel
theorem dL_does_195 : decode cL_does 195 = .ok (.iload_n 1, 1) := by decide +kernel
theorem dL_does_196 : decode cL_does 196 = .ok (.bipush 13, 2) := by decide +kernel
theorem dL_does_198 : decode cL_does 198 = .ok (.if_icmp .ne 11, 3) := by decide +kernel
theorem dL_does_201 : decode cL_does 201 = .ok (.aload_n 0, 1) := by decide +kernel
theorem dL_does_202 : decode cL_does 202 = .ok (.invokevirtual 56, 3) := by decide +kernel
theorem dL_does_205 : decode cL_does 205 = .ok (.i2l, 1) := by decide +kernel
theorem dL_does_206 : decode cL_does 206 = .ok (.goto 328, 3) := by decide +kernel
theorem dL_does_209 : decode cL_does 209 = .ok (.iload_n 1, 1) := by decide +kernel
theorem dL_does_210 : decode cL_does 210 = .ok (.bipush 14, 2) := by decide +kernel
theorem dL_does_212 : decode cL_does 212 = .ok (.if_icmp .ne 19, 3) := by decide +kernel
theorem dL_does_215 : decode cL_does 215 = .ok (.aload_n 0, 1) := by decide +kernel
theorem dL_does_216 : decode cL_does 216 = .ok (.invokevirtual 59, 3) := by decide +kernel
theorem dL_does_219 : decode cL_does 219 = .ok (.ifCond .eq 7, 3) := by decide +kernel
theorem dL_does_222 : decode cL_does 222 = .ok (.iconst 1, 1) := by decide +kernel
theorem dL_does_223 : decode cL_does 223 = .ok (.goto 4, 3) := by decide +kernel
theorem dL_does_226 : decode cL_does 226 = .ok (.iconst 0, 1) := by decide +kernel
theorem dL_does_227 : decode cL_does 227 = .ok (.i2l, 1) := by decide +kernel
theorem dL_does_228 : decode cL_does 228 = .ok (.goto 306, 3) := by decide +kernel
theorem dL_does_231 : decode cL_does 231 = .ok (.iload_n 1, 1) := by decide +kernel
theorem dL_does_232 : decode cL_does 232 = .ok (.bipush 15, 2) := by decide +kernel
theorem dL_does_234 : decode cL_does 234 = .ok (.if_icmp .ne 12, 3) := by decide +kernel
theorem dL_does_237 : decode cL_does 237 = .ok (.aload_n 0, 1) := by decide +kernel
theorem dL_does_238 : decode cL_does 238 = .ok (.iload_n 2, 1) := by decide +kernel
theorem dL_does_239 : decode cL_does 239 = .ok (.invokevirtual 63, 3) := by decide +kernel
theorem dL_does_242 : decode cL_does 242 = .ok (.i2l, 1) := by decide +kernel
theorem dL_does_243 : decode cL_does 243 = .ok (.goto 291, 3) := by decide +kernel
theorem dL_does_246 : decode cL_does 246 = .ok (.iload_n 1, 1) := by decide +kernel
theorem dL_does_247 : decode cL_does 247 = .ok (.bipush 16, 2) := by decide +kernel
theorem dL_does_249 : decode cL_does 249 = .ok (.if_icmp .ne 11, 3) := by decide +kernel
theorem dL_does_252 : decode cL_does 252 = .ok (.aload_n 0, 1) := by decide +kernel
theorem dL_does_253 : decode cL_does 253 = .ok (.invokevirtual 66, 3) := by decide +kernel
theorem dL_does_256 : decode cL_does 256 = .ok (.i2l, 1) := by decide +kernel
theorem dL_does_257 : decode cL_does 257 = .ok (.goto 277, 3) := by decide +kernel
theorem dL_does_260 : decode cL_does 260 = .ok (.iload_n 1, 1) := by decide +kernel
theorem dL_does_261 : decode cL_does 261 = .ok (.bipush 17, 2) := by decide +kernel
theorem dL_does_263 : decode cL_does 263 = .ok (.if_icmp .ne 12, 3) := by decide +kernel
theorem dL_does_266 : decode cL_does 266 = .ok (.aload_n 0, 1) := by decide +kernel
theorem dL_does_267 : decode cL_does 267 = .ok (.iload_n 2, 1) := by decide +kernel
theorem dL_does_268 : decode cL_does 268 = .ok (.invokevirtual 69, 3) := by decide +kernel
theorem dL_does_271 : decode cL_does 271 = .ok (.i2l, 1) := by decide +kernel
theorem dL_does_272 : decode cL_does 272 = .ok (.goto 262, 3) := by decide +kernel
theorem dL_does_275 : decode cL_does 275 = .ok (.iload_n 1, 1) := by decide +kernel
theorem dL_does_276 : decode cL_does 276 = .ok (.bipush 18, 2) := by decide +kernel
theorem dL_does_278 : decode cL_does 278 = .ok (.if_icmp .ne 13, 3) := by decide +kernel
theorem dL_does_281 : decode cL_does 281 = .ok (.aload_n 0, 1) := by decide +kernel
theorem dL_does_282 : decode cL_does 282 = .ok (.iload_n 2, 1) := by decide +kernel
theorem dL_does_283 : decode cL_does 283 = .ok (.iload_n 3, 1) := by decide +kernel
theorem dL_does_284 : decode cL_does 284 = .ok (.invokevirtual 72, 3) := by decide +kernel
theorem dL_does_287 : decode cL_does 287 = .ok (.i2l, 1) := by decide +kernel
theorem dL_does_288 : decode cL_does 288 = .ok (.goto 246, 3) := by decide +kernel
theorem dL_does_291 : decode cL_does 291 = .ok (.iload_n 1, 1) := by decide +kernel
theorem dL_does_292 : decode cL_does 292 = .ok (.bipush 19, 2) := by decide +kernel
theorem dL_does_294 : decode cL_does 294 = .ok (.if_icmp .ne 13, 3) := by decide +kernel
theorem dL_does_297 : decode cL_does 297 = .ok (.aload_n 0, 1) := by decide +kernel
theorem dL_does_298 : decode cL_does 298 = .ok (.iload_n 2, 1) := by decide +kernel
theorem dL_does_299 : decode cL_does 299 = .ok (.iload_n 3, 1) := by decide +kernel
theorem dL_does_300 : decode cL_does 300 = .ok (.invokevirtual 75, 3) := by decide +kernel
theorem dL_does_303 : decode cL_does 303 = .ok (.i2l, 1) := by decide +kernel
theorem dL_does_304 : decode cL_does 304 = .ok (.goto 230, 3) := by decide +kernel
theorem dL_does_307 : decode cL_does 307 = .ok (.iload_n 1, 1) := by decide +kernel
theorem dL_does_308 : decode cL_does 308 = .ok (.bipush 20, 2) := by decide +kernel
theorem dL_does_310 : decode cL_does 310 = .ok (.if_icmp .ne 20, 3) := by decide +kernel
theorem dL_does_313 : decode cL_does 313 = .ok (.aload_n 0, 1) := by decide +kernel
theorem dL_does_314 : decode cL_does 314 = .ok (.iload_n 2, 1) := by decide +kernel
theorem dL_does_315 : decode cL_does 315 = .ok (.invokevirtual 78, 3) := by decide +kernel
theorem dL_does_318 : decode cL_does 318 = .ok (.ifCond .eq 7, 3) := by decide +kernel
theorem dL_does_321 : decode cL_does 321 = .ok (.iconst 1, 1) := by decide +kernel
theorem dL_does_322 : decode cL_does 322 = .ok (.goto 4, 3) := by decide +kernel
theorem dL_does_325 : decode cL_does 325 = .ok (.iconst 0, 1) := by decide +kernel
theorem dL_does_326 : decode cL_does 326 = .ok (.i2l, 1) := by decide +kernel
theorem dL_does_327 : decode cL_does 327 = .ok (.goto 207, 3) := by decide +kernel
theorem dL_does_330 : decode cL_does 330 = .ok (.iload_n 1, 1) := by decide +kernel
theorem dL_does_331 : decode cL_does 331 = .ok (.bipush 21, 2) := by decide +kernel
theorem dL_does_333 : decode cL_does 333 = .ok (.if_icmp .ne 15, 3) := by decide +kernel
theorem dL_does_336 : decode cL_does 336 = .ok (.aload_n 0, 1) := by decide +kernel
theorem dL_does_337 : decode cL_does 337 = .ok (.iload_n 2, 1) := by decide +kernel
theorem dL_does_338 : decode cL_does 338 = .ok (.iload_n 3, 1) := by decide +kernel
theorem dL_does_339 : decode cL_does 339 = .ok (.iload 4, 2) := by decide +kernel
theorem dL_does_341 : decode cL_does 341 = .ok (.invokevirtual 82, 3) := by decide +kernel
theorem dL_does_344 : decode cL_does 344 = .ok (.i2l, 1) := by decide +kernel
theorem dL_does_345 : decode cL_does 345 = .ok (.goto 189, 3) := by decide +kernel
theorem dL_does_348 : decode cL_does 348 = .ok (.iload_n 1, 1) := by decide +kernel
theorem dL_does_349 : decode cL_does 349 = .ok (.bipush 22, 2) := by decide +kernel
theorem dL_does_351 : decode cL_does 351 = .ok (.if_icmp .ne 21, 3) := by decide +kernel
theorem dL_does_354 : decode cL_does 354 = .ok (.aload_n 0, 1) := by decide +kernel
theorem dL_does_355 : decode cL_does 355 = .ok (.iload_n 2, 1) := by decide +kernel
theorem dL_does_356 : decode cL_does 356 = .ok (.iload_n 3, 1) := by decide +kernel
theorem dL_does_357 : decode cL_does 357 = .ok (.invokevirtual 85, 3) := by decide +kernel
theorem dL_does_360 : decode cL_does 360 = .ok (.ifCond .eq 7, 3) := by decide +kernel
theorem dL_does_363 : decode cL_does 363 = .ok (.iconst 1, 1) := by decide +kernel
theorem dL_does_364 : decode cL_does 364 = .ok (.goto 4, 3) := by decide +kernel
theorem dL_does_367 : decode cL_does 367 = .ok (.iconst 0, 1) := by decide +kernel
theorem dL_does_368 : decode cL_does 368 = .ok (.i2l, 1) := by decide +kernel
theorem dL_does_369 : decode cL_does 369 = .ok (.goto 165, 3) := by decide +kernel
theorem dL_does_372 : decode cL_does 372 = .ok (.iload_n 1, 1) := by decide +kernel
theorem dL_does_373 : decode cL_does 373 = .ok (.bipush 23, 2) := by decide +kernel
theorem dL_does_375 : decode cL_does 375 = .ok (.if_icmp .ne 15, 3) := by decide +kernel
theorem dL_does_378 : decode cL_does 378 = .ok (.aload_n 0, 1) := by decide +kernel
theorem dL_does_379 : decode cL_does 379 = .ok (.iload_n 2, 1) := by decide +kernel
theorem dL_does_380 : decode cL_does 380 = .ok (.iload_n 3, 1) := by decide +kernel
theorem dL_does_381 : decode cL_does 381 = .ok (.iload 4, 2) := by decide +kernel
theorem dL_does_383 : decode cL_does 383 = .ok (.invokevirtual 89, 3) := by decide +kernel
theorem dL_does_386 : decode cL_does 386 = .ok (.i2l, 1) := by decide +kernel
theorem dL_does_387 : decode cL_does 387 = .ok (.goto 147, 3) := by decide +kernel
theorem dL_does_390 : decode cL_does 390 = .ok (.iload_n 1, 1) := by decide +kernel
theorem dL_does_391 : decode cL_does 391 = .ok (.bipush 24, 2) := by decide +kernel
theorem dL_does_393 : decode cL_does 393 = .ok (.if_icmp .ne 10, 3) := by decide +kernel
theorem dL_does_396 : decode cL_does 396 = .ok (.aload_n 0, 1) := by decide +kernel
theorem dL_does_397 : decode cL_does 397 = .ok (.invokevirtual 92, 3) := by decide +kernel
theorem dL_does_400 : decode cL_does 400 = .ok (.goto 134, 3) := by decide +kernel
theorem dL_does_403 : decode cL_does 403 = .ok (.iload_n 1, 1) := by decide +kernel
theorem dL_does_404 : decode cL_does 404 = .ok (.bipush 25, 2) := by decide +kernel
theorem dL_does_406 : decode cL_does 406 = .ok (.if_icmp .ne 13, 3) := by decide +kernel
theorem dL_does_409 : decode cL_does 409 = .ok (.aload_n 0, 1) := by decide +kernel
theorem dL_does_410 : decode cL_does 410 = .ok (.iload_n 2, 1) := by decide +kernel
theorem dL_does_411 : decode cL_does 411 = .ok (.iload_n 3, 1) := by decide +kernel
theorem dL_does_412 : decode cL_does 412 = .ok (.invokevirtual 96, 3) := by decide +kernel
theorem dL_does_415 : decode cL_does 415 = .ok (.i2l, 1) := by decide +kernel
theorem dL_does_416 : decode cL_does 416 = .ok (.goto 118, 3) := by decide +kernel
theorem dL_does_419 : decode cL_does 419 = .ok (.iload_n 1, 1) := by decide +kernel
theorem dL_does_420 : decode cL_does 420 = .ok (.bipush 26, 2) := by decide +kernel
theorem dL_does_422 : decode cL_does 422 = .ok (.if_icmp .ne 22, 3) := by decide +kernel
theorem dL_does_425 : decode cL_does 425 = .ok (.aload_n 0, 1) := by decide +kernel
theorem dL_does_426 : decode cL_does 426 = .ok (.iload_n 2, 1) := by decide +kernel
theorem dL_does_427 : decode cL_does 427 = .ok (.iload_n 3, 1) := by decide +kernel
theorem dL_does_428 : decode cL_does 428 = .ok (.iconst 1, 1) := by decide +kernel
theorem dL_does_429 : decode cL_does 429 = .ok (.if_icmp .ne 7, 3) := by decide +kernel
theorem dL_does_432 : decode cL_does 432 = .ok (.iconst 1, 1) := by decide +kernel
theorem dL_does_433 : decode cL_does 433 = .ok (.goto 4, 3) := by decide +kernel
theorem dL_does_436 : decode cL_does 436 = .ok (.iconst 0, 1) := by decide +kernel
theorem dL_does_437 : decode cL_does 437 = .ok (.invokevirtual 99, 3) := by decide +kernel
theorem dL_does_440 : decode cL_does 440 = .ok (.i2l, 1) := by decide +kernel
theorem dL_does_441 : decode cL_does 441 = .ok (.goto 93, 3) := by decide +kernel
theorem dL_does_444 : decode cL_does 444 = .ok (.iload_n 1, 1) := by decide +kernel
theorem dL_does_445 : decode cL_does 445 = .ok (.bipush 27, 2) := by decide +kernel
theorem dL_does_447 : decode cL_does 447 = .ok (.if_icmp .ne 12, 3) := by decide +kernel
theorem dL_does_450 : decode cL_does 450 = .ok (.aload_n 0, 1) := by decide +kernel
theorem dL_does_451 : decode cL_does 451 = .ok (.iload_n 2, 1) := by decide +kernel
theorem dL_does_452 : decode cL_does 452 = .ok (.invokevirtual 103, 3) := by decide +kernel
theorem dL_does_455 : decode cL_does 455 = .ok (.i2l, 1) := by decide +kernel
theorem dL_does_456 : decode cL_does 456 = .ok (.goto 78, 3) := by decide +kernel
theorem dL_does_459 : decode cL_does 459 = .ok (.iload_n 1, 1) := by decide +kernel
theorem dL_does_460 : decode cL_does 460 = .ok (.bipush 28, 2) := by decide +kernel
theorem dL_does_462 : decode cL_does 462 = .ok (.if_icmp .ne 13, 3) := by decide +kernel
theorem dL_does_465 : decode cL_does 465 = .ok (.aload_n 0, 1) := by decide +kernel
theorem dL_does_466 : decode cL_does 466 = .ok (.iload_n 2, 1) := by decide +kernel
theorem dL_does_467 : decode cL_does 467 = .ok (.iload_n 3, 1) := by decide +kernel
theorem dL_does_468 : decode cL_does 468 = .ok (.invokevirtual 106, 3) := by decide +kernel
theorem dL_does_471 : decode cL_does 471 = .ok (.i2l, 1) := by decide +kernel
theorem dL_does_472 : decode cL_does 472 = .ok (.goto 62, 3) := by decide +kernel
theorem dL_does_475 : decode cL_does 475 = .ok (.iload_n 1, 1) := by decide +kernel
theorem dL_does_476 : decode cL_does 476 = .ok (.bipush 29, 2) := by decide +kernel
theorem dL_does_478 : decode cL_does 478 = .ok (.if_icmp .ne 12, 3) := by decide +kernel
theorem dL_does_481 : decode cL_does 481 = .ok (.aload_n 0, 1) := by decide +kernel
theorem dL_does_482 : decode cL_does 482 = .ok (.iload_n 2, 1) := by decide +kernel
theorem dL_does_483 : decode cL_does 483 = .ok (.invokevirtual 109, 3) := by decide +kernel
theorem dL_does_486 : decode cL_does 486 = .ok (.i2l, 1) := by decide +kernel
theorem dL_does_487 : decode cL_does 487 = .ok (.goto 47, 3) := by decide +kernel
theorem dL_does_490 : decode cL_does 490 = .ok (.iload_n 1, 1) := by decide +kernel
theorem dL_does_491 : decode cL_does 491 = .ok (.bipush 30, 2) := by decide +kernel
theorem dL_does_493 : decode cL_does 493 = .ok (.if_icmp .ne 13, 3) := by decide +kernel
theorem dL_does_496 : decode cL_does 496 = .ok (.aload_n 0, 1) := by decide +kernel
theorem dL_does_497 : decode cL_does 497 = .ok (.iload_n 2, 1) := by decide +kernel
theorem dL_does_498 : decode cL_does 498 = .ok (.iload_n 3, 1) := by decide +kernel
theorem dL_does_499 : decode cL_does 499 = .ok (.invokevirtual 112, 3) := by decide +kernel
theorem dL_does_502 : decode cL_does 502 = .ok (.i2l, 1) := by decide +kernel
theorem dL_does_503 : decode cL_does 503 = .ok (.goto 31, 3) := by decide +kernel
theorem dL_does_506 : decode cL_does 506 = .ok (.iload_n 1, 1) := by decide +kernel
theorem dL_does_507 : decode cL_does 507 = .ok (.bipush 31, 2) := by decide +kernel
theorem dL_does_509 : decode cL_does 509 = .ok (.if_icmp .ne 19, 3) := by decide +kernel
theorem dL_does_512 : decode cL_does 512 = .ok (.aload_n 0, 1) := by decide +kernel
theorem dL_does_513 : decode cL_does 513 = .ok (.invokevirtual 115, 3) := by decide +kernel
theorem dL_does_516 : decode cL_does 516 = .ok (.ifCond .eq 7, 3) := by decide +kernel
theorem dL_does_519 : decode cL_does 519 = .ok (.iconst 1, 1) := by decide +kernel
theorem dL_does_520 : decode cL_does 520 = .ok (.goto 4, 3) := by decide +kernel
theorem dL_does_523 : decode cL_does 523 = .ok (.iconst 0, 1) := by decide +kernel
theorem dL_does_524 : decode cL_does 524 = .ok (.i2l, 1) := by decide +kernel
theorem dL_does_525 : decode cL_does 525 = .ok (.goto 9, 3) := by decide +kernel
theorem dL_does_528 : decode cL_does 528 = .ok (.aload_n 0, 1) := by decide +kernel
theorem dL_does_529 : decode cL_does 529 = .ok (.iload_n 2, 1) := by decide +kernel
theorem dL_does_530 : decode cL_does 530 = .ok (.invokevirtual 118, 3) := by decide +kernel
theorem dL_does_533 : decode cL_does 533 = .ok (.i2l, 1) := by decide +kernel
theorem dL_does_534 : decode cL_does 534 = .ok (.lreturn, 1) := by decide +kernel
theorem dL_does_535 : decode cL_does 535 = .ok (.astore 7, 2) := by decide +kernel
theorem dL_does_537 : decode cL_does 537 = .ok (.ldc2_w 123, 3) := by decide +kernel
theorem dL_does_540 : decode cL_does 540 = .ok (.lreturn, 1) := by decide +kernel
theorem dL_does_541 : decode cL_does 541 = .ok (.astore 7, 2) := by decide +kernel
theorem dL_does_543 : decode cL_does 543 = .ok (.ldc2_w 127, 3) := by decide +kernel
theorem dL_does_546 : decode cL_does 546 = .ok (.lreturn, 1) := by decide +kernel
theorem dL_does_547 : decode cL_does 547 = .ok (.astore 7, 2) := by decide +kernel
theorem dL_does_549 : decode cL_does 549 = .ok (.ldc2_w 131, 3) := by decide +kernel
theorem dL_does_552 : decode cL_does 552 = .ok (.lreturn, 1) := by decide +kernel
theorem dL_ask_0 : decode cL_ask 0 = .ok (.aload_n 0, 1) := by decide +kernel
theorem dL_ask_1 : decode cL_ask 1 = .ok (.iload_n 1, 1) := by decide +kernel
theorem dL_ask_2 : decode cL_ask 2 = .ok (.iload_n 2, 1) := by decide +kernel
theorem dL_ask_3 : decode cL_ask 3 = .ok (.iload_n 3, 1) := by decide +kernel
theorem dL_ask_4 : decode cL_ask 4 = .ok (.iconst 0, 1) := by decide +kernel
theorem dL_ask_5 : decode cL_ask 5 = .ok (.iconst 0, 1) := by decide +kernel
theorem dL_ask_6 : decode cL_ask 6 = .ok (.iconst 0, 1) := by decide +kernel
theorem dL_ask_7 : decode cL_ask 7 = .ok (.invokestatic 133, 3) := by decide +kernel
theorem dL_ask_10 : decode cL_ask 10 = .ok (.lreturn, 1) := by decide +kernel
theorem dL_tell_0 : decode cL_tell 0 = .ok (.bipush 62, 2) := by decide +kernel
theorem dL_tell_2 : decode cL_tell 2 = .ok (.newarray .long, 2) := by decide +kernel
theorem dL_tell_4 : decode cL_tell 4 = .ok (.astore_n 1, 1) := by decide +kernel
theorem dL_tell_5 : decode cL_tell 5 = .ok (.iconst 0, 1) := by decide +kernel
theorem dL_tell_6 : decode cL_tell 6 = .ok (.istore_n 2, 1) := by decide +kernel
theorem dL_tell_7 : decode cL_tell 7 = .ok (.iload_n 2, 1) := by decide +kernel
theorem dL_tell_8 : decode cL_tell 8 = .ok (.bipush 12, 2) := by decide +kernel
theorem dL_tell_10 : decode cL_tell 10 = .ok (.if_icmp .ge 20, 3) := by decide +kernel
theorem dL_tell_13 : decode cL_tell 13 = .ok (.aload_n 1, 1) := by decide +kernel
theorem dL_tell_14 : decode cL_tell 14 = .ok (.iload_n 2, 1) := by decide +kernel
theorem dL_tell_15 : decode cL_tell 15 = .ok (.aload_n 0, 1) := by decide +kernel
theorem dL_tell_16 : decode cL_tell 16 = .ok (.bipush 32, 2) := by decide +kernel
theorem dL_tell_18 : decode cL_tell 18 = .ok (.iload_n 2, 1) := by decide +kernel
theorem dL_tell_19 : decode cL_tell 19 = .ok (.iconst 0, 1) := by decide +kernel
theorem dL_tell_20 : decode cL_tell 20 = .ok (.invokestatic 139, 3) := by decide +kernel
theorem dL_tell_23 : decode cL_tell 23 = .ok (.lastore, 1) := by decide +kernel
theorem dL_tell_24 : decode cL_tell 24 = .ok (.iinc 2 1, 3) := by decide +kernel
theorem dL_tell_27 : decode cL_tell 27 = .ok (.goto (-20), 3) := by decide +kernel
theorem dL_tell_30 : decode cL_tell 30 = .ok (.iconst 0, 1) := by decide +kernel
theorem dL_tell_31 : decode cL_tell 31 = .ok (.istore_n 2, 1) := by decide +kernel
theorem dL_tell_32 : decode cL_tell 32 = .ok (.iload_n 2, 1) := by decide +kernel
theorem dL_tell_33 : decode cL_tell 33 = .ok (.bipush 30, 2) := by decide +kernel
theorem dL_tell_35 : decode cL_tell 35 = .ok (.if_icmp .ge 29, 3) := by decide +kernel
theorem dL_tell_38 : decode cL_tell 38 = .ok (.aload_n 1, 1) := by decide +kernel
theorem dL_tell_39 : decode cL_tell 39 = .ok (.bipush 12, 2) := by decide +kernel
theorem dL_tell_41 : decode cL_tell 41 = .ok (.iload_n 2, 1) := by decide +kernel
theorem dL_tell_42 : decode cL_tell 42 = .ok (.iadd, 1) := by decide +kernel
theorem dL_tell_43 : decode cL_tell 43 = .ok (.aload_n 0, 1) := by decide +kernel
theorem dL_tell_44 : decode cL_tell 44 = .ok (.bipush 28, 2) := by decide +kernel
theorem dL_tell_46 : decode cL_tell 46 = .ok (.iload_n 2, 1) := by decide +kernel
theorem dL_tell_47 : decode cL_tell 47 = .ok (.bipush 10, 2) := by decide +kernel
theorem dL_tell_49 : decode cL_tell 49 = .ok (.idiv, 1) := by decide +kernel
theorem dL_tell_50 : decode cL_tell 50 = .ok (.iload_n 2, 1) := by decide +kernel
theorem dL_tell_51 : decode cL_tell 51 = .ok (.bipush 10, 2) := by decide +kernel
theorem dL_tell_53 : decode cL_tell 53 = .ok (.irem, 1) := by decide +kernel
theorem dL_tell_54 : decode cL_tell 54 = .ok (.invokestatic 139, 3) := by decide +kernel
theorem dL_tell_57 : decode cL_tell 57 = .ok (.lastore, 1) := by decide +kernel
theorem dL_tell_58 : decode cL_tell 58 = .ok (.iinc 2 1, 3) := by decide +kernel
theorem dL_tell_61 : decode cL_tell 61 = .ok (.goto (-29), 3) := by decide +kernel
theorem dL_tell_64 : decode cL_tell 64 = .ok (.aload_n 1, 1) := by decide +kernel
theorem dL_tell_65 : decode cL_tell 65 = .ok (.bipush 42, 2) := by decide +kernel
theorem dL_tell_67 : decode cL_tell 67 = .ok (.aload_n 0, 1) := by decide +kernel
theorem dL_tell_68 : decode cL_tell 68 = .ok (.bipush 24, 2) := by decide +kernel
theorem dL_tell_70 : decode cL_tell 70 = .ok (.iconst 0, 1) := by decide +kernel
theorem dL_tell_71 : decode cL_tell 71 = .ok (.iconst 0, 1) := by decide +kernel
theorem dL_tell_72 : decode cL_tell 72 = .ok (.invokestatic 139, 3) := by decide +kernel
theorem dL_tell_75 : decode cL_tell 75 = .ok (.lastore, 1) := by decide +kernel
theorem dL_tell_76 : decode cL_tell 76 = .ok (.aload_n 1, 1) := by decide +kernel
theorem dL_tell_77 : decode cL_tell 77 = .ok (.bipush 43, 2) := by decide +kernel
theorem dL_tell_79 : decode cL_tell 79 = .ok (.aload_n 0, 1) := by decide +kernel
theorem dL_tell_80 : decode cL_tell 80 = .ok (.bipush 15, 2) := by decide +kernel
theorem dL_tell_82 : decode cL_tell 82 = .ok (.iconst 0, 1) := by decide +kernel
theorem dL_tell_83 : decode cL_tell 83 = .ok (.iconst 0, 1) := by decide +kernel
theorem dL_tell_84 : decode cL_tell 84 = .ok (.invokestatic 139, 3) := by decide +kernel
theorem dL_tell_87 : decode cL_tell 87 = .ok (.lastore, 1) := by decide +kernel
theorem dL_tell_88 : decode cL_tell 88 = .ok (.iconst 0, 1) := by decide +kernel
theorem dL_tell_89 : decode cL_tell 89 = .ok (.istore_n 2, 1) := by decide +kernel
theorem dL_tell_90 : decode cL_tell 90 = .ok (.iload_n 2, 1) := by decide +kernel
theorem dL_tell_91 : decode cL_tell 91 = .ok (.bipush 18, 2) := by decide +kernel
theorem dL_tell_93 : decode cL_tell 93 = .ok (.if_icmp .ge 53, 3) := by decide +kernel
theorem dL_tell_96 : decode cL_tell 96 = .ok (.aload_n 1, 1) := by decide +kernel
theorem dL_tell_97 : decode cL_tell 97 = .ok (.bipush 44, 2) := by decide +kernel
theorem dL_tell_99 : decode cL_tell 99 = .ok (.iload_n 2, 1) := by decide +kernel
theorem dL_tell_100 : decode cL_tell 100 = .ok (.iadd, 1) := by decide +kernel
theorem dL_tell_101 : decode cL_tell 101 = .ok (.iload_n 2, 1) := by decide +kernel
theorem dL_tell_102 : decode cL_tell 102 = .ok (.bipush 9, 2) := by decide +kernel
theorem dL_tell_104 : decode cL_tell 104 = .ok (.if_icmp .ge 23, 3) := by decide +kernel
theorem dL_tell_107 : decode cL_tell 107 = .ok (.aload_n 0, 1) := by decide +kernel
theorem dL_tell_108 : decode cL_tell 108 = .ok (.bipush 26, 2) := by decide +kernel
theorem dL_tell_110 : decode cL_tell 110 = .ok (.bipush 13, 2) := by decide +kernel
theorem dL_tell_112 : decode cL_tell 112 = .ok (.iload_n 2, 1) := by decide +kernel
theorem dL_tell_113 : decode cL_tell 113 = .ok (.iconst 4, 1) := by decide +kernel
theorem dL_tell_114 : decode cL_tell 114 = .ok (.irem, 1) := by decide +kernel
theorem dL_tell_115 : decode cL_tell 115 = .ok (.imul, 1) := by decide +kernel
theorem dL_tell_116 : decode cL_tell 116 = .ok (.iload_n 2, 1) := by decide +kernel
theorem dL_tell_117 : decode cL_tell 117 = .ok (.iconst 4, 1) := by decide +kernel
theorem dL_tell_118 : decode cL_tell 118 = .ok (.idiv, 1) := by decide +kernel
theorem dL_tell_119 : decode cL_tell 119 = .ok (.iadd, 1) := by decide +kernel
theorem dL_tell_120 : decode cL_tell 120 = .ok (.iconst 0, 1) := by decide +kernel
theorem dL_tell_121 : decode cL_tell 121 = .ok (.invokestatic 139, 3) := by decide +kernel
theorem dL_tell_124 : decode cL_tell 124 = .ok (.goto 15, 3) := by decide +kernel
theorem dL_tell_127 : decode cL_tell 127 = .ok (.aload_n 0, 1) := by decide +kernel
theorem dL_tell_128 : decode cL_tell 128 = .ok (.bipush 25, 2) := by decide +kernel
theorem dL_tell_130 : decode cL_tell 130 = .ok (.iload_n 2, 1) := by decide +kernel
theorem dL_tell_131 : decode cL_tell 131 = .ok (.iconst 3, 1) := by decide +kernel
theorem dL_tell_132 : decode cL_tell 132 = .ok (.irem, 1) := by decide +kernel
theorem dL_tell_133 : decode cL_tell 133 = .ok (.iconst 5, 1) := by decide +kernel
theorem dL_tell_134 : decode cL_tell 134 = .ok (.iload_n 2, 1) := by decide +kernel
theorem dL_tell_135 : decode cL_tell 135 = .ok (.imul, 1) := by decide +kernel
theorem dL_tell_136 : decode cL_tell 136 = .ok (.invokestatic 139, 3) := by decide +kernel
theorem dL_tell_139 : decode cL_tell 139 = .ok (.lastore, 1) := by decide +kernel
theorem dL_tell_140 : decode cL_tell 140 = .ok (.iinc 2 1, 3) := by decide +kernel
theorem dL_tell_143 : decode cL_tell 143 = .ok (.goto (-53), 3) := by decide +kernel
theorem dL_tell_146 : decode cL_tell 146 = .ok (.aload_n 1, 1) := by decide +kernel
theorem dL_tell_147 : decode cL_tell 147 = .ok (.areturn, 1) := by decide +kernel
theorem dL_same_0 : decode cL_same 0 = .ok (.iconst 0, 1) := by decide +kernel
theorem dL_same_1 : decode cL_same 1 = .ok (.istore_n 2, 1) := by decide +kernel
theorem dL_same_2 : decode cL_same 2 = .ok (.iload_n 2, 1) := by decide +kernel
theorem dL_same_3 : decode cL_same 3 = .ok (.bipush 62, 2) := by decide +kernel
theorem dL_same_5 : decode cL_same 5 = .ok (.if_icmp .ge 21, 3) := by decide +kernel
theorem dL_same_8 : decode cL_same 8 = .ok (.aload_n 0, 1) := by decide +kernel
theorem dL_same_9 : decode cL_same 9 = .ok (.iload_n 2, 1) := by decide +kernel
theorem dL_same_10 : decode cL_same 10 = .ok (.laload, 1) := by decide +kernel
theorem dL_same_11 : decode cL_same 11 = .ok (.aload_n 1, 1) := by decide +kernel
theorem dL_same_12 : decode cL_same 12 = .ok (.iload_n 2, 1) := by decide +kernel
theorem dL_same_13 : decode cL_same 13 = .ok (.laload, 1) := by decide +kernel
theorem dL_same_14 : decode cL_same 14 = .ok (.lcmp, 1) := by decide +kernel
theorem dL_same_15 : decode cL_same 15 = .ok (.ifCond .eq 5, 3) := by decide +kernel
theorem dL_same_18 : decode cL_same 18 = .ok (.iconst 0, 1) := by decide +kernel
theorem dL_same_19 : decode cL_same 19 = .ok (.ireturn, 1) := by decide +kernel
theorem dL_same_20 : decode cL_same 20 = .ok (.iinc 2 1, 3) := by decide +kernel
theorem dL_same_23 : decode cL_same 23 = .ok (.goto (-21), 3) := by decide +kernel
theorem dL_same_26 : decode cL_same 26 = .ok (.iconst 1, 1) := by decide +kernel
theorem dL_same_27 : decode cL_same 27 = .ok (.ireturn, 1) := by decide +kernel
theorem dL_balances_0 : decode cL_balances 0 = .ok (.iconst 3, 1) := by decide +kernel
theorem dL_balances_1 : decode cL_balances 1 = .ok (.istore_n 2, 1) := by decide +kernel
theorem dL_balances_2 : decode cL_balances 2 = .ok (.aload_n 0, 1) := by decide +kernel
theorem dL_balances_3 : decode cL_balances 3 = .ok (.bipush 32, 2) := by decide +kernel
theorem dL_balances_5 : decode cL_balances 5 = .ok (.iconst 1, 1) := by decide +kernel
theorem dL_balances_6 : decode cL_balances 6 = .ok (.iconst 0, 1) := by decide +kernel
theorem dL_balances_7 : decode cL_balances 7 = .ok (.invokestatic 139, 3) := by decide +kernel
theorem dL_balances_10 : decode cL_balances 10 = .ok (.aload_n 0, 1) := by decide +kernel
theorem dL_balances_11 : decode cL_balances 11 = .ok (.bipush 32, 2) := by decide +kernel
theorem dL_balances_13 : decode cL_balances 13 = .ok (.iconst 2, 1) := by decide +kernel
theorem dL_balances_14 : decode cL_balances 14 = .ok (.iconst 0, 1) := by decide +kernel
theorem dL_balances_15 : decode cL_balances 15 = .ok (.invokestatic 139, 3) := by decide +kernel
theorem dL_balances_18 : decode cL_balances 18 = .ok (.ladd, 1) := by decide +kernel
theorem dL_balances_19 : decode cL_balances 19 = .ok (.aload_n 0, 1) := by decide +kernel
theorem dL_balances_20 : decode cL_balances 20 = .ok (.bipush 32, 2) := by decide +kernel
theorem dL_balances_22 : decode cL_balances 22 = .ok (.iconst 4, 1) := by decide +kernel
theorem dL_balances_23 : decode cL_balances 23 = .ok (.iconst 0, 1) := by decide +kernel
theorem dL_balances_24 : decode cL_balances 24 = .ok (.invokestatic 139, 3) := by decide +kernel
theorem dL_balances_27 : decode cL_balances 27 = .ok (.ladd, 1) := by decide +kernel
theorem dL_balances_28 : decode cL_balances 28 = .ok (.lstore_n 3, 1) := by decide +kernel
theorem dL_balances_29 : decode cL_balances 29 = .ok (.lconst 0, 1) := by decide +kernel
theorem dL_balances_30 : decode cL_balances 30 = .ok (.lstore 5, 2) := by decide +kernel
theorem dL_balances_32 : decode cL_balances 32 = .ok (.lconst 0, 1) := by decide +kernel
theorem dL_balances_33 : decode cL_balances 33 = .ok (.lstore 7, 2) := by decide +kernel
theorem dL_balances_35 : decode cL_balances 35 = .ok (.lconst 0, 1) := by decide +kernel
theorem dL_balances_36 : decode cL_balances 36 = .ok (.lstore 9, 2) := by decide +kernel
theorem dL_balances_38 : decode cL_balances 38 = .ok (.iconst 0, 1) := by decide +kernel
theorem dL_balances_39 : decode cL_balances 39 = .ok (.istore 11, 2) := by decide +kernel
theorem dL_balances_41 : decode cL_balances 41 = .ok (.iload 11, 2) := by decide +kernel
theorem dL_balances_43 : decode cL_balances 43 = .ok (.iload_n 2, 1) := by decide +kernel
theorem dL_balances_44 : decode cL_balances 44 = .ok (.if_icmp .ge 68, 3) := by decide +kernel
theorem dL_balances_47 : decode cL_balances 47 = .ok (.lload_n 3, 1) := by decide +kernel
theorem dL_balances_48 : decode cL_balances 48 = .ok (.aload_n 0, 1) := by decide +kernel
theorem dL_balances_49 : decode cL_balances 49 = .ok (.bipush 28, 2) := by decide +kernel
theorem dL_balances_51 : decode cL_balances 51 = .ok (.iload 11, 2) := by decide +kernel
theorem dL_balances_53 : decode cL_balances 53 = .ok (.iconst 5, 1) := by decide +kernel
theorem dL_balances_54 : decode cL_balances 54 = .ok (.invokestatic 139, 3) := by decide +kernel
theorem dL_balances_57 : decode cL_balances 57 = .ok (.ladd, 1) := by decide +kernel
theorem dL_balances_58 : decode cL_balances 58 = .ok (.lstore_n 3, 1) := by decide +kernel
theorem dL_balances_59 : decode cL_balances 59 = .ok (.lload 5, 2) := by decide +kernel
theorem dL_balances_61 : decode cL_balances 61 = .ok (.aload_n 0, 1) := by decide +kernel
theorem dL_balances_62 : decode cL_balances 62 = .ok (.bipush 28, 2) := by decide +kernel
theorem dL_balances_64 : decode cL_balances 64 = .ok (.iload 11, 2) := by decide +kernel
theorem dL_balances_66 : decode cL_balances 66 = .ok (.iconst 2, 1) := by decide +kernel
theorem dL_balances_67 : decode cL_balances 67 = .ok (.invokestatic 139, 3) := by decide +kernel
theorem dL_balances_70 : decode cL_balances 70 = .ok (.ladd, 1) := by decide +kernel
theorem dL_balances_71 : decode cL_balances 71 = .ok (.lstore 5, 2) := by decide +kernel
theorem dL_balances_73 : decode cL_balances 73 = .ok (.lload 7, 2) := by decide +kernel
theorem dL_balances_75 : decode cL_balances 75 = .ok (.aload_n 0, 1) := by decide +kernel
theorem dL_balances_76 : decode cL_balances 76 = .ok (.bipush 28, 2) := by decide +kernel
theorem dL_balances_78 : decode cL_balances 78 = .ok (.iload 11, 2) := by decide +kernel
theorem dL_balances_80 : decode cL_balances 80 = .ok (.bipush 9, 2) := by decide +kernel
theorem dL_balances_82 : decode cL_balances 82 = .ok (.invokestatic 139, 3) := by decide +kernel
theorem dL_balances_85 : decode cL_balances 85 = .ok (.ladd, 1) := by decide +kernel
theorem dL_balances_86 : decode cL_balances 86 = .ok (.lstore 7, 2) := by decide +kernel
theorem dL_balances_88 : decode cL_balances 88 = .ok (.lload 9, 2) := by decide +kernel
theorem dL_balances_90 : decode cL_balances 90 = .ok (.lconst 1, 1) := by decide +kernel
theorem dL_balances_91 : decode cL_balances 91 = .ok (.aload_n 0, 1) := by decide +kernel
theorem dL_balances_92 : decode cL_balances 92 = .ok (.bipush 28, 2) := by decide +kernel
theorem dL_balances_94 : decode cL_balances 94 = .ok (.iload 11, 2) := by decide +kernel
theorem dL_balances_96 : decode cL_balances 96 = .ok (.bipush 7, 2) := by decide +kernel
theorem dL_balances_98 : decode cL_balances 98 = .ok (.invokestatic 139, 3) := by decide +kernel
theorem dL_balances_101 : decode cL_balances 101 = .ok (.l2i, 1) := by decide +kernel
theorem dL_balances_102 : decode cL_balances 102 = .ok (.lshl, 1) := by decide +kernel
theorem dL_balances_103 : decode cL_balances 103 = .ok (.lor, 1) := by decide +kernel
theorem dL_balances_104 : decode cL_balances 104 = .ok (.lstore 9, 2) := by decide +kernel
theorem dL_balances_106 : decode cL_balances 106 = .ok (.iinc 11 1, 3) := by decide +kernel
theorem dL_balances_109 : decode cL_balances 109 = .ok (.goto (-68), 3) := by decide +kernel
theorem dL_balances_112 : decode cL_balances 112 = .ok (.lload_n 3, 1) := by decide +kernel
theorem dL_balances_113 : decode cL_balances 113 = .ok (.iload_n 1, 1) := by decide +kernel
theorem dL_balances_114 : decode cL_balances 114 = .ok (.i2l, 1) := by decide +kernel
theorem dL_balances_115 : decode cL_balances 115 = .ok (.lcmp, 1) := by decide +kernel
theorem dL_balances_116 : decode cL_balances 116 = .ok (.ifCond .eq 9, 3) := by decide +kernel
theorem dL_balances_119 : decode cL_balances 119 = .ok (.lload_n 3, 1) := by decide +kernel
theorem dL_balances_120 : decode cL_balances 120 = .ok (.lconst 0, 1) := by decide +kernel
theorem dL_balances_121 : decode cL_balances 121 = .ok (.lcmp, 1) := by decide +kernel
theorem dL_balances_122 : decode cL_balances 122 = .ok (.ifCond .ne 73, 3) := by decide +kernel
theorem dL_balances_125 : decode cL_balances 125 = .ok (.lload 5, 2) := by decide +kernel
theorem dL_balances_127 : decode cL_balances 127 = .ok (.lconst 0, 1) := by decide +kernel
theorem dL_balances_128 : decode cL_balances 128 = .ok (.lcmp, 1) := by decide +kernel
theorem dL_balances_129 : decode cL_balances 129 = .ok (.ifCond .ne 66, 3) := by decide +kernel
theorem dL_balances_132 : decode cL_balances 132 = .ok (.lload 9, 2) := by decide +kernel
theorem dL_balances_134 : decode cL_balances 134 = .ok (.ldc2_w 143, 3) := by decide +kernel
theorem dL_balances_137 : decode cL_balances 137 = .ok (.lcmp, 1) := by decide +kernel
theorem dL_balances_138 : decode cL_balances 138 = .ok (.ifCond .ne 57, 3) := by decide +kernel
theorem dL_balances_141 : decode cL_balances 141 = .ok (.lload 7, 2) := by decide +kernel
theorem dL_balances_143 : decode cL_balances 143 = .ok (.aload_n 0, 1) := by decide +kernel
theorem dL_balances_144 : decode cL_balances 144 = .ok (.bipush 32, 2) := by decide +kernel
theorem dL_balances_146 : decode cL_balances 146 = .ok (.bipush 8, 2) := by decide +kernel
theorem dL_balances_148 : decode cL_balances 148 = .ok (.iconst 0, 1) := by decide +kernel
theorem dL_balances_149 : decode cL_balances 149 = .ok (.invokestatic 139, 3) := by decide +kernel
theorem dL_balances_152 : decode cL_balances 152 = .ok (.lcmp, 1) := by decide +kernel
theorem dL_balances_153 : decode cL_balances 153 = .ok (.ifCond .ne 42, 3) := by decide +kernel
theorem dL_balances_156 : decode cL_balances 156 = .ok (.aload_n 0, 1) := by decide +kernel
theorem dL_balances_157 : decode cL_balances 157 = .ok (.bipush 29, 2) := by decide +kernel
theorem dL_balances_159 : decode cL_balances 159 = .ok (.iconst 0, 1) := by decide +kernel
theorem dL_balances_160 : decode cL_balances 160 = .ok (.iconst 0, 1) := by decide +kernel
theorem dL_balances_161 : decode cL_balances 161 = .ok (.invokestatic 139, 3) := by decide +kernel
theorem dL_balances_164 : decode cL_balances 164 = .ok (.aload_n 0, 1) := by decide +kernel
theorem dL_balances_165 : decode cL_balances 165 = .ok (.bipush 29, 2) := by decide +kernel
theorem dL_balances_167 : decode cL_balances 167 = .ok (.iconst 1, 1) := by decide +kernel
theorem dL_balances_168 : decode cL_balances 168 = .ok (.iconst 0, 1) := by decide +kernel
theorem dL_balances_169 : decode cL_balances 169 = .ok (.invokestatic 139, 3) := by decide +kernel
theorem dL_balances_172 : decode cL_balances 172 = .ok (.ladd, 1) := by decide +kernel
theorem dL_balances_173 : decode cL_balances 173 = .ok (.lconst 0, 1) := by decide +kernel
theorem dL_balances_174 : decode cL_balances 174 = .ok (.lcmp, 1) := by decide +kernel
theorem dL_balances_175 : decode cL_balances 175 = .ok (.ifCond .ne 20, 3) := by decide +kernel
theorem dL_balances_178 : decode cL_balances 178 = .ok (.aload_n 0, 1) := by decide +kernel
theorem dL_balances_179 : decode cL_balances 179 = .ok (.bipush 31, 2) := by decide +kernel
theorem dL_balances_181 : decode cL_balances 181 = .ok (.iconst 0, 1) := by decide +kernel
theorem dL_balances_182 : decode cL_balances 182 = .ok (.iconst 0, 1) := by decide +kernel
theorem dL_balances_183 : decode cL_balances 183 = .ok (.invokestatic 139, 3) := by decide +kernel
theorem dL_balances_186 : decode cL_balances 186 = .ok (.lconst 1, 1) := by decide +kernel
theorem dL_balances_187 : decode cL_balances 187 = .ok (.lcmp, 1) := by decide +kernel
theorem dL_balances_188 : decode cL_balances 188 = .ok (.ifCond .ne 7, 3) := by decide +kernel
theorem dL_balances_191 : decode cL_balances 191 = .ok (.iconst 1, 1) := by decide +kernel
theorem dL_balances_192 : decode cL_balances 192 = .ok (.goto 4, 3) := by decide +kernel
theorem dL_balances_195 : decode cL_balances 195 = .ok (.iconst 0, 1) := by decide +kernel
theorem dL_balances_196 : decode cL_balances 196 = .ok (.istore 11, 2) := by decide +kernel
theorem dL_balances_198 : decode cL_balances 198 = .ok (.iload 11, 2) := by decide +kernel
theorem dL_balances_200 : decode cL_balances 200 = .ok (.aload_n 0, 1) := by decide +kernel
theorem dL_balances_201 : decode cL_balances 201 = .ok (.bipush 32, 2) := by decide +kernel
theorem dL_balances_203 : decode cL_balances 203 = .ok (.iconst 5, 1) := by decide +kernel
theorem dL_balances_204 : decode cL_balances 204 = .ok (.iconst 0, 1) := by decide +kernel
theorem dL_balances_205 : decode cL_balances 205 = .ok (.invokestatic 139, 3) := by decide +kernel
theorem dL_balances_208 : decode cL_balances 208 = .ok (.lconst 0, 1) := by decide +kernel
theorem dL_balances_209 : decode cL_balances 209 = .ok (.lcmp, 1) := by decide +kernel
theorem dL_balances_210 : decode cL_balances 210 = .ok (.ifCond .gt 29, 3) := by decide +kernel
theorem dL_balances_213 : decode cL_balances 213 = .ok (.aload_n 0, 1) := by decide +kernel
theorem dL_balances_214 : decode cL_balances 214 = .ok (.bipush 14, 2) := by decide +kernel
theorem dL_balances_216 : decode cL_balances 216 = .ok (.iconst 0, 1) := by decide +kernel
theorem dL_balances_217 : decode cL_balances 217 = .ok (.iconst 0, 1) := by decide +kernel
theorem dL_balances_218 : decode cL_balances 218 = .ok (.invokestatic 139, 3) := by decide +kernel
theorem dL_balances_221 : decode cL_balances 221 = .ok (.lconst 1, 1) := by decide +kernel
theorem dL_balances_222 : decode cL_balances 222 = .ok (.lcmp, 1) := by decide +kernel
theorem dL_balances_223 : decode cL_balances 223 = .ok (.ifCond .ne 20, 3) := by decide +kernel
theorem dL_balances_226 : decode cL_balances 226 = .ok (.aload_n 0, 1) := by decide +kernel
theorem dL_balances_227 : decode cL_balances 227 = .ok (.bipush 32, 2) := by decide +kernel
theorem dL_balances_229 : decode cL_balances 229 = .ok (.iconst 4, 1) := by decide +kernel
theorem dL_balances_230 : decode cL_balances 230 = .ok (.iconst 0, 1) := by decide +kernel
theorem dL_balances_231 : decode cL_balances 231 = .ok (.invokestatic 139, 3) := by decide +kernel
theorem dL_balances_234 : decode cL_balances 234 = .ok (.lconst 0, 1) := by decide +kernel
theorem dL_balances_235 : decode cL_balances 235 = .ok (.lcmp, 1) := by decide +kernel
theorem dL_balances_236 : decode cL_balances 236 = .ok (.ifCond .ne 7, 3) := by decide +kernel
theorem dL_balances_239 : decode cL_balances 239 = .ok (.iconst 1, 1) := by decide +kernel
theorem dL_balances_240 : decode cL_balances 240 = .ok (.goto 4, 3) := by decide +kernel
theorem dL_balances_243 : decode cL_balances 243 = .ok (.iconst 0, 1) := by decide +kernel
theorem dL_balances_244 : decode cL_balances 244 = .ok (.iand, 1) := by decide +kernel
theorem dL_balances_245 : decode cL_balances 245 = .ok (.istore 11, 2) := by decide +kernel
theorem dL_balances_247 : decode cL_balances 247 = .ok (.iload 11, 2) := by decide +kernel
theorem dL_balances_249 : decode cL_balances 249 = .ok (.ifCond .eq 90, 3) := by decide +kernel
theorem dL_balances_252 : decode cL_balances 252 = .ok (.aload_n 0, 1) := by decide +kernel
theorem dL_balances_253 : decode cL_balances 253 = .ok (.bipush 14, 2) := by decide +kernel
theorem dL_balances_255 : decode cL_balances 255 = .ok (.iconst 0, 1) := by decide +kernel
theorem dL_balances_256 : decode cL_balances 256 = .ok (.iconst 0, 1) := by decide +kernel
theorem dL_balances_257 : decode cL_balances 257 = .ok (.invokestatic 139, 3) := by decide +kernel
theorem dL_balances_260 : decode cL_balances 260 = .ok (.lconst 1, 1) := by decide +kernel
theorem dL_balances_261 : decode cL_balances 261 = .ok (.lcmp, 1) := by decide +kernel
theorem dL_balances_262 : decode cL_balances 262 = .ok (.ifCond .ne 7, 3) := by decide +kernel
theorem dL_balances_265 : decode cL_balances 265 = .ok (.iconst 1, 1) := by decide +kernel
theorem dL_balances_266 : decode cL_balances 266 = .ok (.goto 4, 3) := by decide +kernel
theorem dL_balances_269 : decode cL_balances 269 = .ok (.iconst 0, 1) := by decide +kernel
theorem dL_balances_270 : decode cL_balances 270 = .ok (.aload_n 0, 1) := by decide +kernel
theorem dL_balances_271 : decode cL_balances 271 = .ok (.bipush 15, 2) := by decide +kernel
theorem dL_balances_273 : decode cL_balances 273 = .ok (.iconst 1, 1) := by decide +kernel
theorem dL_balances_274 : decode cL_balances 274 = .ok (.iconst 0, 1) := by decide +kernel
theorem dL_balances_275 : decode cL_balances 275 = .ok (.invokestatic 139, 3) := by decide +kernel
theorem dL_balances_278 : decode cL_balances 278 = .ok (.lconst 0, 1) := by decide +kernel
theorem dL_balances_279 : decode cL_balances 279 = .ok (.lcmp, 1) := by decide +kernel
theorem dL_balances_280 : decode cL_balances 280 = .ok (.ifCond .lt 7, 3) := by decide +kernel
theorem dL_balances_283 : decode cL_balances 283 = .ok (.iconst 1, 1) := by decide +kernel
theorem dL_balances_284 : decode cL_balances 284 = .ok (.goto 4, 3) := by decide +kernel
theorem dL_balances_287 : decode cL_balances 287 = .ok (.iconst 0, 1) := by decide +kernel
theorem dL_balances_288 : decode cL_balances 288 = .ok (.if_icmp .ne 51, 3) := by decide +kernel
theorem dL_balances_291 : decode cL_balances 291 = .ok (.aload_n 0, 1) := by decide +kernel
theorem dL_balances_292 : decode cL_balances 292 = .ok (.bipush 15, 2) := by decide +kernel
theorem dL_balances_294 : decode cL_balances 294 = .ok (.iconst 1, 1) := by decide +kernel
theorem dL_balances_295 : decode cL_balances 295 = .ok (.iconst 0, 1) := by decide +kernel
theorem dL_balances_296 : decode cL_balances 296 = .ok (.invokestatic 139, 3) := by decide +kernel
theorem dL_balances_299 : decode cL_balances 299 = .ok (.aload_n 0, 1) := by decide +kernel
theorem dL_balances_300 : decode cL_balances 300 = .ok (.bipush 15, 2) := by decide +kernel
theorem dL_balances_302 : decode cL_balances 302 = .ok (.iconst 2, 1) := by decide +kernel
theorem dL_balances_303 : decode cL_balances 303 = .ok (.iconst 0, 1) := by decide +kernel
theorem dL_balances_304 : decode cL_balances 304 = .ok (.invokestatic 139, 3) := by decide +kernel
theorem dL_balances_307 : decode cL_balances 307 = .ok (.lcmp, 1) := by decide +kernel
theorem dL_balances_308 : decode cL_balances 308 = .ok (.ifCond .gt 31, 3) := by decide +kernel
theorem dL_balances_311 : decode cL_balances 311 = .ok (.ldc2_w 145, 3) := by decide +kernel
theorem dL_balances_314 : decode cL_balances 314 = .ok (.aload_n 0, 1) := by decide +kernel
theorem dL_balances_315 : decode cL_balances 315 = .ok (.bipush 15, 2) := by decide +kernel
theorem dL_balances_317 : decode cL_balances 317 = .ok (.iconst 2, 1) := by decide +kernel
theorem dL_balances_318 : decode cL_balances 318 = .ok (.iconst 0, 1) := by decide +kernel
theorem dL_balances_319 : decode cL_balances 319 = .ok (.invokestatic 139, 3) := by decide +kernel
theorem dL_balances_322 : decode cL_balances 322 = .ok (.lmul, 1) := by decide +kernel
theorem dL_balances_323 : decode cL_balances 323 = .ok (.aload_n 0, 1) := by decide +kernel
theorem dL_balances_324 : decode cL_balances 324 = .ok (.bipush 32, 2) := by decide +kernel
theorem dL_balances_326 : decode cL_balances 326 = .ok (.iconst 2, 1) := by decide +kernel
theorem dL_balances_327 : decode cL_balances 327 = .ok (.iconst 0, 1) := by decide +kernel
theorem dL_balances_328 : decode cL_balances 328 = .ok (.invokestatic 139, 3) := by decide +kernel
theorem dL_balances_331 : decode cL_balances 331 = .ok (.lcmp, 1) := by decide +kernel
theorem dL_balances_332 : decode cL_balances 332 = .ok (.ifCond .gt 7, 3) := by decide +kernel
theorem dL_balances_335 : decode cL_balances 335 = .ok (.iconst 1, 1) := by decide +kernel
theorem dL_balances_336 : decode cL_balances 336 = .ok (.goto 4, 3) := by decide +kernel
theorem dL_balances_339 : decode cL_balances 339 = .ok (.iconst 0, 1) := by decide +kernel
theorem dL_balances_340 : decode cL_balances 340 = .ok (.ireturn, 1) := by decide +kernel
theorem dL_plans_0 : decode cL_plans 0 = .ok (.aload_n 0, 1) := by decide +kernel
theorem dL_plans_1 : decode cL_plans 1 = .ok (.bipush 18, 2) := by decide +kernel
theorem dL_plans_3 : decode cL_plans 3 = .ok (.iload_n 1, 1) := by decide +kernel
theorem dL_plans_4 : decode cL_plans 4 = .ok (.iconst 0, 1) := by decide +kernel
theorem dL_plans_5 : decode cL_plans 5 = .ok (.invokestatic 139, 3) := by decide +kernel
theorem dL_plans_8 : decode cL_plans 8 = .ok (.lstore_n 2, 1) := by decide +kernel
theorem dL_plans_9 : decode cL_plans 9 = .ok (.aload_n 0, 1) := by decide +kernel
theorem dL_plans_10 : decode cL_plans 10 = .ok (.bipush 18, 2) := by decide +kernel
theorem dL_plans_12 : decode cL_plans 12 = .ok (.iload_n 1, 1) := by decide +kernel
theorem dL_plans_13 : decode cL_plans 13 = .ok (.iconst 1, 1) := by decide +kernel
theorem dL_plans_14 : decode cL_plans 14 = .ok (.invokestatic 139, 3) := by decide +kernel
theorem dL_plans_17 : decode cL_plans 17 = .ok (.lstore 4, 2) := by decide +kernel
theorem dL_plans_19 : decode cL_plans 19 = .ok (.lload_n 2, 1) := by decide +kernel
theorem dL_plans_20 : decode cL_plans 20 = .ok (.lconst 0, 1) := by decide +kernel
theorem dL_plans_21 : decode cL_plans 21 = .ok (.lcmp, 1) := by decide +kernel
theorem dL_plans_22 : decode cL_plans 22 = .ok (.ifCond .ge 7, 3) := by decide +kernel
theorem dL_plans_25 : decode cL_plans 25 = .ok (.iconst 1, 1) := by decide +kernel
theorem dL_plans_26 : decode cL_plans 26 = .ok (.goto 4, 3) := by decide +kernel
theorem dL_plans_29 : decode cL_plans 29 = .ok (.iconst 0, 1) := by decide +kernel
theorem dL_plans_30 : decode cL_plans 30 = .ok (.lload 4, 2) := by decide +kernel
theorem dL_plans_32 : decode cL_plans 32 = .ok (.lconst 0, 1) := by decide +kernel
theorem dL_plans_33 : decode cL_plans 33 = .ok (.lcmp, 1) := by decide +kernel
theorem dL_plans_34 : decode cL_plans 34 = .ok (.ifCond .ge 7, 3) := by decide +kernel
theorem dL_plans_37 : decode cL_plans 37 = .ok (.iconst 1, 1) := by decide +kernel
theorem dL_plans_38 : decode cL_plans 38 = .ok (.goto 4, 3) := by decide +kernel
theorem dL_plans_41 : decode cL_plans 41 = .ok (.iconst 0, 1) := by decide +kernel
theorem dL_plans_42 : decode cL_plans 42 = .ok (.if_icmp .ne 7, 3) := by decide +kernel
theorem dL_plans_45 : decode cL_plans 45 = .ok (.iconst 1, 1) := by decide +kernel
theorem dL_plans_46 : decode cL_plans 46 = .ok (.goto 4, 3) := by decide +kernel
theorem dL_plans_49 : decode cL_plans 49 = .ok (.iconst 0, 1) := by decide +kernel
theorem dL_plans_50 : decode cL_plans 50 = .ok (.istore 6, 2) := by decide +kernel
theorem dL_plans_52 : decode cL_plans 52 = .ok (.ldc2_w 147, 3) := by decide +kernel
theorem dL_plans_55 : decode cL_plans 55 = .ok (.lstore 7, 2) := by decide +kernel
theorem dL_plans_57 : decode cL_plans 57 = .ok (.lconst 0, 1) := by decide +kernel
theorem dL_plans_58 : decode cL_plans 58 = .ok (.lstore 9, 2) := by decide +kernel
theorem dL_plans_60 : decode cL_plans 60 = .ok (.iconst 0, 1) := by decide +kernel
theorem dL_plans_61 : decode cL_plans 61 = .ok (.istore 11, 2) := by decide +kernel
theorem dL_plans_63 : decode cL_plans 63 = .ok (.iload 11, 2) := by decide +kernel
theorem dL_plans_65 : decode cL_plans 65 = .ok (.lload_n 2, 1) := by decide +kernel
theorem dL_plans_66 : decode cL_plans 66 = .ok (.l2i, 1) := by decide +kernel
theorem dL_plans_67 : decode cL_plans 67 = .ok (.if_icmp .ge 120, 3) := by decide +kernel
theorem dL_plans_70 : decode cL_plans 70 = .ok (.aload_n 0, 1) := by decide +kernel
theorem dL_plans_71 : decode cL_plans 71 = .ok (.bipush 19, 2) := by decide +kernel
theorem dL_plans_73 : decode cL_plans 73 = .ok (.iload_n 1, 1) := by decide +kernel
theorem dL_plans_74 : decode cL_plans 74 = .ok (.iload 11, 2) := by decide +kernel
theorem dL_plans_76 : decode cL_plans 76 = .ok (.invokestatic 139, 3) := by decide +kernel
theorem dL_plans_79 : decode cL_plans 79 = .ok (.lstore 12, 2) := by decide +kernel
theorem dL_plans_81 : decode cL_plans 81 = .ok (.lload 12, 2) := by decide +kernel
theorem dL_plans_83 : decode cL_plans 83 = .ok (.lload 7, 2) := by decide +kernel
theorem dL_plans_85 : decode cL_plans 85 = .ok (.lcmp, 1) := by decide +kernel
theorem dL_plans_86 : decode cL_plans 86 = .ok (.ifCond .ne 10, 3) := by decide +kernel
theorem dL_plans_89 : decode cL_plans 89 = .ok (.lload 9, 2) := by decide +kernel
theorem dL_plans_91 : decode cL_plans 91 = .ok (.lconst 1, 1) := by decide +kernel
theorem dL_plans_92 : decode cL_plans 92 = .ok (.ladd, 1) := by decide +kernel
theorem dL_plans_93 : decode cL_plans 93 = .ok (.goto 4, 3) := by decide +kernel
theorem dL_plans_96 : decode cL_plans 96 = .ok (.lconst 1, 1) := by decide +kernel
theorem dL_plans_97 : decode cL_plans 97 = .ok (.lstore 9, 2) := by decide +kernel
theorem dL_plans_99 : decode cL_plans 99 = .ok (.iload 6, 2) := by decide +kernel
theorem dL_plans_101 : decode cL_plans 101 = .ok (.lload 12, 2) := by decide +kernel
theorem dL_plans_103 : decode cL_plans 103 = .ok (.lload 7, 2) := by decide +kernel
theorem dL_plans_105 : decode cL_plans 105 = .ok (.lcmp, 1) := by decide +kernel
theorem dL_plans_106 : decode cL_plans 106 = .ok (.ifCond .lt 54, 3) := by decide +kernel
theorem dL_plans_109 : decode cL_plans 109 = .ok (.lload 9, 2) := by decide +kernel
theorem dL_plans_111 : decode cL_plans 111 = .ok (.aload_n 0, 1) := by decide +kernel
theorem dL_plans_112 : decode cL_plans 112 = .ok (.bipush 25, 2) := by decide +kernel
theorem dL_plans_114 : decode cL_plans 114 = .ok (.iload_n 1, 1) := by decide +kernel
theorem dL_plans_115 : decode cL_plans 115 = .ok (.lload 12, 2) := by decide +kernel
theorem dL_plans_117 : decode cL_plans 117 = .ok (.l2i, 1) := by decide +kernel
theorem dL_plans_118 : decode cL_plans 118 = .ok (.invokestatic 139, 3) := by decide +kernel
theorem dL_plans_121 : decode cL_plans 121 = .ok (.lcmp, 1) := by decide +kernel
theorem dL_plans_122 : decode cL_plans 122 = .ok (.ifCond .gt 38, 3) := by decide +kernel
theorem dL_plans_125 : decode cL_plans 125 = .ok (.lload 9, 2) := by decide +kernel
theorem dL_plans_127 : decode cL_plans 127 = .ok (.aload_n 0, 1) := by decide +kernel
theorem dL_plans_128 : decode cL_plans 128 = .ok (.bipush 26, 2) := by decide +kernel
theorem dL_plans_130 : decode cL_plans 130 = .ok (.lload 12, 2) := by decide +kernel
theorem dL_plans_132 : decode cL_plans 132 = .ok (.l2i, 1) := by decide +kernel
theorem dL_plans_133 : decode cL_plans 133 = .ok (.iconst 0, 1) := by decide +kernel
theorem dL_plans_134 : decode cL_plans 134 = .ok (.invokestatic 139, 3) := by decide +kernel
theorem dL_plans_137 : decode cL_plans 137 = .ok (.ladd, 1) := by decide +kernel
theorem dL_plans_138 : decode cL_plans 138 = .ok (.aload_n 0, 1) := by decide +kernel
theorem dL_plans_139 : decode cL_plans 139 = .ok (.bipush 26, 2) := by decide +kernel
theorem dL_plans_141 : decode cL_plans 141 = .ok (.lload 12, 2) := by decide +kernel
theorem dL_plans_143 : decode cL_plans 143 = .ok (.l2i, 1) := by decide +kernel
theorem dL_plans_144 : decode cL_plans 144 = .ok (.iconst 1, 1) := by decide +kernel
theorem dL_plans_145 : decode cL_plans 145 = .ok (.invokestatic 139, 3) := by decide +kernel
theorem dL_plans_148 : decode cL_plans 148 = .ok (.ladd, 1) := by decide +kernel
theorem dL_plans_149 : decode cL_plans 149 = .ok (.ldc2_w 149, 3) := by decide +kernel
theorem dL_plans_152 : decode cL_plans 152 = .ok (.lcmp, 1) := by decide +kernel
theorem dL_plans_153 : decode cL_plans 153 = .ok (.ifCond .gt 7, 3) := by decide +kernel
theorem dL_plans_156 : decode cL_plans 156 = .ok (.iconst 1, 1) := by decide +kernel
theorem dL_plans_157 : decode cL_plans 157 = .ok (.goto 4, 3) := by decide +kernel
theorem dL_plans_160 : decode cL_plans 160 = .ok (.iconst 0, 1) := by decide +kernel
theorem dL_plans_161 : decode cL_plans 161 = .ok (.iand, 1) := by decide +kernel
theorem dL_plans_162 : decode cL_plans 162 = .ok (.istore 6, 2) := by decide +kernel
theorem dL_plans_164 : decode cL_plans 164 = .ok (.lload 4, 2) := by decide +kernel
theorem dL_plans_166 : decode cL_plans 166 = .ok (.lload 12, 2) := by decide +kernel
theorem dL_plans_168 : decode cL_plans 168 = .ok (.ldc2_w 151, 3) := by decide +kernel
theorem dL_plans_171 : decode cL_plans 171 = .ok (.lrem, 1) := by decide +kernel
theorem dL_plans_172 : decode cL_plans 172 = .ok (.lconst 1, 1) := by decide +kernel
theorem dL_plans_173 : decode cL_plans 173 = .ok (.ladd, 1) := by decide +kernel
theorem dL_plans_174 : decode cL_plans 174 = .ok (.lsub, 1) := by decide +kernel
theorem dL_plans_175 : decode cL_plans 175 = .ok (.lstore 4, 2) := by decide +kernel
theorem dL_plans_177 : decode cL_plans 177 = .ok (.lload 12, 2) := by decide +kernel
theorem dL_plans_179 : decode cL_plans 179 = .ok (.lstore 7, 2) := by decide +kernel
theorem dL_plans_181 : decode cL_plans 181 = .ok (.iinc 11 1, 3) := by decide +kernel
theorem dL_plans_184 : decode cL_plans 184 = .ok (.goto (-121), 3) := by decide +kernel
theorem dL_plans_187 : decode cL_plans 187 = .ok (.iload 6, 2) := by decide +kernel
theorem dL_plans_189 : decode cL_plans 189 = .ok (.ifCond .eq 46, 3) := by decide +kernel
theorem dL_plans_192 : decode cL_plans 192 = .ok (.lload_n 2, 1) := by decide +kernel
theorem dL_plans_193 : decode cL_plans 193 = .ok (.lconst 0, 1) := by decide +kernel
theorem dL_plans_194 : decode cL_plans 194 = .ok (.lcmp, 1) := by decide +kernel
theorem dL_plans_195 : decode cL_plans 195 = .ok (.ifCond .lt 10, 3) := by decide +kernel
theorem dL_plans_198 : decode cL_plans 198 = .ok (.lload 4, 2) := by decide +kernel
theorem dL_plans_200 : decode cL_plans 200 = .ok (.lconst 0, 1) := by decide +kernel
theorem dL_plans_201 : decode cL_plans 201 = .ok (.lcmp, 1) := by decide +kernel
theorem dL_plans_202 : decode cL_plans 202 = .ok (.ifCond .ne 33, 3) := by decide +kernel
theorem dL_plans_205 : decode cL_plans 205 = .ok (.aload_n 0, 1) := by decide +kernel
theorem dL_plans_206 : decode cL_plans 206 = .ok (.bipush 19, 2) := by decide +kernel
theorem dL_plans_208 : decode cL_plans 208 = .ok (.iload_n 1, 1) := by decide +kernel
theorem dL_plans_209 : decode cL_plans 209 = .ok (.lload_n 2, 1) := by decide +kernel
theorem dL_plans_210 : decode cL_plans 210 = .ok (.lconst 0, 1) := by decide +kernel
theorem dL_plans_211 : decode cL_plans 211 = .ok (.lcmp, 1) := by decide +kernel
theorem dL_plans_212 : decode cL_plans 212 = .ok (.ifCond .ge 7, 3) := by decide +kernel
theorem dL_plans_215 : decode cL_plans 215 = .ok (.iconst 0, 1) := by decide +kernel
theorem dL_plans_216 : decode cL_plans 216 = .ok (.goto 5, 3) := by decide +kernel
theorem dL_plans_219 : decode cL_plans 219 = .ok (.lload_n 2, 1) := by decide +kernel
theorem dL_plans_220 : decode cL_plans 220 = .ok (.l2i, 1) := by decide +kernel
theorem dL_plans_221 : decode cL_plans 221 = .ok (.invokestatic 139, 3) := by decide +kernel
theorem dL_plans_224 : decode cL_plans 224 = .ok (.ldc2_w 147, 3) := by decide +kernel
theorem dL_plans_227 : decode cL_plans 227 = .ok (.lcmp, 1) := by decide +kernel
theorem dL_plans_228 : decode cL_plans 228 = .ok (.ifCond .ne 7, 3) := by decide +kernel
theorem dL_plans_231 : decode cL_plans 231 = .ok (.iconst 1, 1) := by decide +kernel
theorem dL_plans_232 : decode cL_plans 232 = .ok (.goto 4, 3) := by decide +kernel
theorem dL_plans_235 : decode cL_plans 235 = .ok (.iconst 0, 1) := by decide +kernel
theorem dL_plans_236 : decode cL_plans 236 = .ok (.ireturn, 1) := by decide +kernel
theorem dL_looks_0 : decode cL_looks 0 = .ok (.bipush 13, 2) := by decide +kernel
theorem dL_looks_2 : decode cL_looks 2 = .ok (.iload_n 1, 1) := by decide +kernel
theorem dL_looks_3 : decode cL_looks 3 = .ok (.iconst 4, 1) := by decide +kernel
theorem dL_looks_4 : decode cL_looks 4 = .ok (.invokestatic 153, 3) := by decide +kernel
theorem dL_looks_7 : decode cL_looks 7 = .ok (.imul, 1) := by decide +kernel
theorem dL_looks_8 : decode cL_looks 8 = .ok (.iload_n 1, 1) := by decide +kernel
theorem dL_looks_9 : decode cL_looks 9 = .ok (.iconst 3, 1) := by decide +kernel
theorem dL_looks_10 : decode cL_looks 10 = .ok (.ishr, 1) := by decide +kernel
theorem dL_looks_11 : decode cL_looks 11 = .ok (.iload_n 2, 1) := by decide +kernel
theorem dL_looks_12 : decode cL_looks 12 = .ok (.invokestatic 153, 3) := by decide +kernel
theorem dL_looks_15 : decode cL_looks 15 = .ok (.iadd, 1) := by decide +kernel
theorem dL_looks_16 : decode cL_looks 16 = .ok (.istore_n 3, 1) := by decide +kernel
theorem dL_looks_17 : decode cL_looks 17 = .ok (.aload_n 0, 1) := by decide +kernel
theorem dL_looks_18 : decode cL_looks 18 = .ok (.bipush 32, 2) := by decide +kernel
theorem dL_looks_20 : decode cL_looks 20 = .ok (.iconst 2, 1) := by decide +kernel
theorem dL_looks_21 : decode cL_looks 21 = .ok (.iconst 0, 1) := by decide +kernel
theorem dL_looks_22 : decode cL_looks 22 = .ok (.invokestatic 139, 3) := by decide +kernel
theorem dL_looks_25 : decode cL_looks 25 = .ok (.ldc2_w 156, 3) := by decide +kernel
theorem dL_looks_28 : decode cL_looks 28 = .ok (.lcmp, 1) := by decide +kernel
theorem dL_looks_29 : decode cL_looks 29 = .ok (.ifCond .le 26, 3) := by decide +kernel
theorem dL_looks_32 : decode cL_looks 32 = .ok (.aload_n 0, 1) := by decide +kernel
theorem dL_looks_33 : decode cL_looks 33 = .ok (.bipush 16, 2) := by decide +kernel
theorem dL_looks_35 : decode cL_looks 35 = .ok (.iconst 0, 1) := by decide +kernel
theorem dL_looks_36 : decode cL_looks 36 = .ok (.iconst 0, 1) := by decide +kernel
theorem dL_looks_37 : decode cL_looks 37 = .ok (.invokestatic 139, 3) := by decide +kernel
theorem dL_looks_40 : decode cL_looks 40 = .ok (.ldc2_w 131, 3) := by decide +kernel
theorem dL_looks_43 : decode cL_looks 43 = .ok (.lcmp, 1) := by decide +kernel
theorem dL_looks_44 : decode cL_looks 44 = .ok (.ifCond .ne 7, 3) := by decide +kernel
theorem dL_looks_47 : decode cL_looks 47 = .ok (.iconst 1, 1) := by decide +kernel
theorem dL_looks_48 : decode cL_looks 48 = .ok (.goto 32, 3) := by decide +kernel
theorem dL_looks_51 : decode cL_looks 51 = .ok (.iconst 0, 1) := by decide +kernel
theorem dL_looks_52 : decode cL_looks 52 = .ok (.goto 28, 3) := by decide +kernel
theorem dL_looks_55 : decode cL_looks 55 = .ok (.aload_n 0, 1) := by decide +kernel
theorem dL_looks_56 : decode cL_looks 56 = .ok (.bipush 16, 2) := by decide +kernel
theorem dL_looks_58 : decode cL_looks 58 = .ok (.iconst 0, 1) := by decide +kernel
theorem dL_looks_59 : decode cL_looks 59 = .ok (.iconst 0, 1) := by decide +kernel
theorem dL_looks_60 : decode cL_looks 60 = .ok (.invokestatic 139, 3) := by decide +kernel
theorem dL_looks_63 : decode cL_looks 63 = .ok (.aload_n 0, 1) := by decide +kernel
theorem dL_looks_64 : decode cL_looks 64 = .ok (.bipush 15, 2) := by decide +kernel
theorem dL_looks_66 : decode cL_looks 66 = .ok (.iconst 0, 1) := by decide +kernel
theorem dL_looks_67 : decode cL_looks 67 = .ok (.iconst 0, 1) := by decide +kernel
theorem dL_looks_68 : decode cL_looks 68 = .ok (.invokestatic 139, 3) := by decide +kernel
theorem dL_looks_71 : decode cL_looks 71 = .ok (.lcmp, 1) := by decide +kernel
theorem dL_looks_72 : decode cL_looks 72 = .ok (.ifCond .ne 7, 3) := by decide +kernel
theorem dL_looks_75 : decode cL_looks 75 = .ok (.iconst 1, 1) := by decide +kernel
theorem dL_looks_76 : decode cL_looks 76 = .ok (.goto 4, 3) := by decide +kernel
theorem dL_looks_79 : decode cL_looks 79 = .ok (.iconst 0, 1) := by decide +kernel
theorem dL_looks_80 : decode cL_looks 80 = .ok (.istore 4, 2) := by decide +kernel
theorem dL_looks_82 : decode cL_looks 82 = .ok (.aload_n 0, 1) := by decide +kernel
theorem dL_looks_83 : decode cL_looks 83 = .ok (.bipush 26, 2) := by decide +kernel
theorem dL_looks_85 : decode cL_looks 85 = .ok (.iload_n 3, 1) := by decide +kernel
theorem dL_looks_86 : decode cL_looks 86 = .ok (.iconst 0, 1) := by decide +kernel
theorem dL_looks_87 : decode cL_looks 87 = .ok (.invokestatic 139, 3) := by decide +kernel
theorem dL_looks_90 : decode cL_looks 90 = .ok (.aload_n 0, 1) := by decide +kernel
theorem dL_looks_91 : decode cL_looks 91 = .ok (.bipush 26, 2) := by decide +kernel
theorem dL_looks_93 : decode cL_looks 93 = .ok (.iload_n 3, 1) := by decide +kernel
theorem dL_looks_94 : decode cL_looks 94 = .ok (.iconst 1, 1) := by decide +kernel
theorem dL_looks_95 : decode cL_looks 95 = .ok (.invokestatic 139, 3) := by decide +kernel
theorem dL_looks_98 : decode cL_looks 98 = .ok (.ladd, 1) := by decide +kernel
theorem dL_looks_99 : decode cL_looks 99 = .ok (.lstore 5, 2) := by decide +kernel
theorem dL_looks_101 : decode cL_looks 101 = .ok (.iload 4, 2) := by decide +kernel
theorem dL_looks_103 : decode cL_looks 103 = .ok (.lload 5, 2) := by decide +kernel
theorem dL_looks_105 : decode cL_looks 105 = .ok (.ldc2_w 149, 3) := by decide +kernel
theorem dL_looks_108 : decode cL_looks 108 = .ok (.lcmp, 1) := by decide +kernel
theorem dL_looks_109 : decode cL_looks 109 = .ok (.ifCond .lt 16, 3) := by decide +kernel
theorem dL_looks_112 : decode cL_looks 112 = .ok (.aload_n 0, 1) := by decide +kernel
theorem dL_looks_113 : decode cL_looks 113 = .ok (.bipush 20, 2) := by decide +kernel
theorem dL_looks_115 : decode cL_looks 115 = .ok (.iload_n 3, 1) := by decide +kernel
theorem dL_looks_116 : decode cL_looks 116 = .ok (.iconst 0, 1) := by decide +kernel
theorem dL_looks_117 : decode cL_looks 117 = .ok (.invokestatic 139, 3) := by decide +kernel
theorem dL_looks_120 : decode cL_looks 120 = .ok (.lconst 0, 1) := by decide +kernel
theorem dL_looks_121 : decode cL_looks 121 = .ok (.lcmp, 1) := by decide +kernel
theorem dL_looks_122 : decode cL_looks 122 = .ok (.ifCond .ne 7, 3) := by decide +kernel
theorem dL_looks_125 : decode cL_looks 125 = .ok (.iconst 1, 1) := by decide +kernel
theorem dL_looks_126 : decode cL_looks 126 = .ok (.goto 4, 3) := by decide +kernel
theorem dL_looks_129 : decode cL_looks 129 = .ok (.iconst 0, 1) := by decide +kernel
theorem dL_looks_130 : decode cL_looks 130 = .ok (.iand, 1) := by decide +kernel
theorem dL_looks_131 : decode cL_looks 131 = .ok (.istore 4, 2) := by decide +kernel
theorem dL_looks_133 : decode cL_looks 133 = .ok (.iconst 0, 1) := by decide +kernel
theorem dL_looks_134 : decode cL_looks 134 = .ok (.istore 7, 2) := by decide +kernel
theorem dL_looks_136 : decode cL_looks 136 = .ok (.iload 7, 2) := by decide +kernel
theorem dL_looks_138 : decode cL_looks 138 = .ok (.iconst 3, 1) := by decide +kernel
theorem dL_looks_139 : decode cL_looks 139 = .ok (.if_icmp .ge 131, 3) := by decide +kernel
theorem dL_looks_142 : decode cL_looks 142 = .ok (.aload_n 0, 1) := by decide +kernel
theorem dL_looks_143 : decode cL_looks 143 = .ok (.bipush 21, 2) := by decide +kernel
theorem dL_looks_145 : decode cL_looks 145 = .ok (.iload 7, 2) := by decide +kernel
theorem dL_looks_147 : decode cL_looks 147 = .ok (.iload 7, 2) := by decide +kernel
theorem dL_looks_149 : decode cL_looks 149 = .ok (.iconst 1, 1) := by decide +kernel
theorem dL_looks_150 : decode cL_looks 150 = .ok (.iadd, 1) := by decide +kernel
theorem dL_looks_151 : decode cL_looks 151 = .ok (.iconst 3, 1) := by decide +kernel
theorem dL_looks_152 : decode cL_looks 152 = .ok (.irem, 1) := by decide +kernel
theorem dL_looks_153 : decode cL_looks 153 = .ok (.iload_n 3, 1) := by decide +kernel
theorem dL_looks_154 : decode cL_looks 154 = .ok (.iconst 0, 1) := by decide +kernel
theorem dL_looks_155 : decode cL_looks 155 = .ok (.iconst 0, 1) := by decide +kernel
theorem dL_looks_156 : decode cL_looks 156 = .ok (.invokestatic 133, 3) := by decide +kernel
theorem dL_looks_159 : decode cL_looks 159 = .ok (.lstore 8, 2) := by decide +kernel
theorem dL_looks_161 : decode cL_looks 161 = .ok (.aload_n 0, 1) := by decide +kernel
theorem dL_looks_162 : decode cL_looks 162 = .ok (.bipush 27, 2) := by decide +kernel
theorem dL_looks_164 : decode cL_looks 164 = .ok (.iload_n 3, 1) := by decide +kernel
theorem dL_looks_165 : decode cL_looks 165 = .ok (.iconst 0, 1) := by decide +kernel
theorem dL_looks_166 : decode cL_looks 166 = .ok (.invokestatic 139, 3) := by decide +kernel
theorem dL_looks_169 : decode cL_looks 169 = .ok (.aload_n 0, 1) := by decide +kernel
theorem dL_looks_170 : decode cL_looks 170 = .ok (.bipush 25, 2) := by decide +kernel
theorem dL_looks_172 : decode cL_looks 172 = .ok (.iload 7, 2) := by decide +kernel
theorem dL_looks_174 : decode cL_looks 174 = .ok (.iconst 1, 1) := by decide +kernel
theorem dL_looks_175 : decode cL_looks 175 = .ok (.iadd, 1) := by decide +kernel
theorem dL_looks_176 : decode cL_looks 176 = .ok (.iconst 3, 1) := by decide +kernel
theorem dL_looks_177 : decode cL_looks 177 = .ok (.irem, 1) := by decide +kernel
theorem dL_looks_178 : decode cL_looks 178 = .ok (.iload_n 3, 1) := by decide +kernel
theorem dL_looks_179 : decode cL_looks 179 = .ok (.invokestatic 139, 3) := by decide +kernel
theorem dL_looks_182 : decode cL_looks 182 = .ok (.ladd, 1) := by decide +kernel
theorem dL_looks_183 : decode cL_looks 183 = .ok (.aload_n 0, 1) := by decide +kernel
theorem dL_looks_184 : decode cL_looks 184 = .ok (.bipush 25, 2) := by decide +kernel
theorem dL_looks_186 : decode cL_looks 186 = .ok (.iload 7, 2) := by decide +kernel
theorem dL_looks_188 : decode cL_looks 188 = .ok (.iconst 2, 1) := by decide +kernel
theorem dL_looks_189 : decode cL_looks 189 = .ok (.iadd, 1) := by decide +kernel
theorem dL_looks_190 : decode cL_looks 190 = .ok (.iconst 3, 1) := by decide +kernel
theorem dL_looks_191 : decode cL_looks 191 = .ok (.irem, 1) := by decide +kernel
theorem dL_looks_192 : decode cL_looks 192 = .ok (.iload_n 3, 1) := by decide +kernel
theorem dL_looks_193 : decode cL_looks 193 = .ok (.invokestatic 139, 3) := by decide +kernel
theorem dL_looks_196 : decode cL_looks 196 = .ok (.ladd, 1) := by decide +kernel
theorem dL_looks_197 : decode cL_looks 197 = .ok (.lstore 10, 2) := by decide +kernel
theorem dL_looks_199 : decode cL_looks 199 = .ok (.iload 4, 2) := by decide +kernel
theorem dL_looks_201 : decode cL_looks 201 = .ok (.lload 8, 2) := by decide +kernel
theorem dL_looks_203 : decode cL_looks 203 = .ok (.lconst 0, 1) := by decide +kernel
theorem dL_looks_204 : decode cL_looks 204 = .ok (.lcmp, 1) := by decide +kernel
theorem dL_looks_205 : decode cL_looks 205 = .ok (.ifCond .lt 55, 3) := by decide +kernel
theorem dL_looks_208 : decode cL_looks 208 = .ok (.lload 8, 2) := by decide +kernel
theorem dL_looks_210 : decode cL_looks 210 = .ok (.ldc2_w 158, 3) := by decide +kernel
theorem dL_looks_213 : decode cL_looks 213 = .ok (.lcmp, 1) := by decide +kernel
theorem dL_looks_214 : decode cL_looks 214 = .ok (.ifCond .gt 46, 3) := by decide +kernel
theorem dL_looks_217 : decode cL_looks 217 = .ok (.lload 10, 2) := by decide +kernel
theorem dL_looks_219 : decode cL_looks 219 = .ok (.lconst 0, 1) := by decide +kernel
theorem dL_looks_220 : decode cL_looks 220 = .ok (.lcmp, 1) := by decide +kernel
theorem dL_looks_221 : decode cL_looks 221 = .ok (.ifCond .gt 10, 3) := by decide +kernel
theorem dL_looks_224 : decode cL_looks 224 = .ok (.lload 8, 2) := by decide +kernel
theorem dL_looks_226 : decode cL_looks 226 = .ok (.lconst 0, 1) := by decide +kernel
theorem dL_looks_227 : decode cL_looks 227 = .ok (.lcmp, 1) := by decide +kernel
theorem dL_looks_228 : decode cL_looks 228 = .ok (.ifCond .ne 32, 3) := by decide +kernel
theorem dL_looks_231 : decode cL_looks 231 = .ok (.aload_n 0, 1) := by decide +kernel
theorem dL_looks_232 : decode cL_looks 232 = .ok (.bipush 28, 2) := by decide +kernel
theorem dL_looks_234 : decode cL_looks 234 = .ok (.iload 7, 2) := by decide +kernel
theorem dL_looks_236 : decode cL_looks 236 = .ok (.iconst 1, 1) := by decide +kernel
theorem dL_looks_237 : decode cL_looks 237 = .ok (.iadd, 1) := by decide +kernel
theorem dL_looks_238 : decode cL_looks 238 = .ok (.iconst 3, 1) := by decide +kernel
theorem dL_looks_239 : decode cL_looks 239 = .ok (.irem, 1) := by decide +kernel
theorem dL_looks_240 : decode cL_looks 240 = .ok (.iconst 5, 1) := by decide +kernel
theorem dL_looks_241 : decode cL_looks 241 = .ok (.invokestatic 139, 3) := by decide +kernel
theorem dL_looks_244 : decode cL_looks 244 = .ok (.lconst 0, 1) := by decide +kernel
theorem dL_looks_245 : decode cL_looks 245 = .ok (.lcmp, 1) := by decide +kernel
theorem dL_looks_246 : decode cL_looks 246 = .ok (.ifCond .gt 10, 3) := by decide +kernel
theorem dL_looks_249 : decode cL_looks 249 = .ok (.lload 8, 2) := by decide +kernel
theorem dL_looks_251 : decode cL_looks 251 = .ok (.lconst 0, 1) := by decide +kernel
theorem dL_looks_252 : decode cL_looks 252 = .ok (.lcmp, 1) := by decide +kernel
theorem dL_looks_253 : decode cL_looks 253 = .ok (.ifCond .ne 7, 3) := by decide +kernel
theorem dL_looks_256 : decode cL_looks 256 = .ok (.iconst 1, 1) := by decide +kernel
theorem dL_looks_257 : decode cL_looks 257 = .ok (.goto 4, 3) := by decide +kernel
theorem dL_looks_260 : decode cL_looks 260 = .ok (.iconst 0, 1) := by decide +kernel
theorem dL_looks_261 : decode cL_looks 261 = .ok (.iand, 1) := by decide +kernel
theorem dL_looks_262 : decode cL_looks 262 = .ok (.istore 4, 2) := by decide +kernel
theorem dL_looks_264 : decode cL_looks 264 = .ok (.iinc 7 1, 3) := by decide +kernel
theorem dL_looks_267 : decode cL_looks 267 = .ok (.goto (-131), 3) := by decide +kernel
theorem dL_looks_270 : decode cL_looks 270 = .ok (.aload_n 0, 1) := by decide +kernel
theorem dL_looks_271 : decode cL_looks 271 = .ok (.bipush 17, 2) := by decide +kernel
theorem dL_looks_273 : decode cL_looks 273 = .ok (.iconst 1, 1) := by decide +kernel
theorem dL_looks_274 : decode cL_looks 274 = .ok (.iload_n 1, 1) := by decide +kernel
theorem dL_looks_275 : decode cL_looks 275 = .ok (.bipush 7, 2) := by decide +kernel
theorem dL_looks_277 : decode cL_looks 277 = .ok (.ishr, 1) := by decide +kernel
theorem dL_looks_278 : decode cL_looks 278 = .ok (.iload_n 2, 1) := by decide +kernel
theorem dL_looks_279 : decode cL_looks 279 = .ok (.invokestatic 153, 3) := by decide +kernel
theorem dL_looks_282 : decode cL_looks 282 = .ok (.iadd, 1) := by decide +kernel
theorem dL_looks_283 : decode cL_looks 283 = .ok (.iconst 0, 1) := by decide +kernel
theorem dL_looks_284 : decode cL_looks 284 = .ok (.invokestatic 139, 3) := by decide +kernel
theorem dL_looks_287 : decode cL_looks 287 = .ok (.lstore 7, 2) := by decide +kernel
theorem dL_looks_289 : decode cL_looks 289 = .ok (.iload 4, 2) := by decide +kernel
theorem dL_looks_291 : decode cL_looks 291 = .ok (.ifCond .eq 51, 3) := by decide +kernel
theorem dL_looks_294 : decode cL_looks 294 = .ok (.lload 7, 2) := by decide +kernel
theorem dL_looks_296 : decode cL_looks 296 = .ok (.lconst 0, 1) := by decide +kernel
theorem dL_looks_297 : decode cL_looks 297 = .ok (.lcmp, 1) := by decide +kernel
theorem dL_looks_298 : decode cL_looks 298 = .ok (.ifCond .lt 44, 3) := by decide +kernel
theorem dL_looks_301 : decode cL_looks 301 = .ok (.aload_n 0, 1) := by decide +kernel
theorem dL_looks_302 : decode cL_looks 302 = .ok (.bipush 14, 2) := by decide +kernel
theorem dL_looks_304 : decode cL_looks 304 = .ok (.iconst 0, 1) := by decide +kernel
theorem dL_looks_305 : decode cL_looks 305 = .ok (.iconst 0, 1) := by decide +kernel
theorem dL_looks_306 : decode cL_looks 306 = .ok (.invokestatic 139, 3) := by decide +kernel
theorem dL_looks_309 : decode cL_looks 309 = .ok (.lconst 0, 1) := by decide +kernel
theorem dL_looks_310 : decode cL_looks 310 = .ok (.lcmp, 1) := by decide +kernel
theorem dL_looks_311 : decode cL_looks 311 = .ok (.ifCond .eq 10, 3) := by decide +kernel
theorem dL_looks_314 : decode cL_looks 314 = .ok (.lload 7, 2) := by decide +kernel
theorem dL_looks_316 : decode cL_looks 316 = .ok (.lconst 0, 1) := by decide +kernel
theorem dL_looks_317 : decode cL_looks 317 = .ok (.lcmp, 1) := by decide +kernel
theorem dL_looks_318 : decode cL_looks 318 = .ok (.ifCond .le 24, 3) := by decide +kernel
theorem dL_looks_321 : decode cL_looks 321 = .ok (.aload_n 0, 1) := by decide +kernel
theorem dL_looks_322 : decode cL_looks 322 = .ok (.bipush 17, 2) := by decide +kernel
theorem dL_looks_324 : decode cL_looks 324 = .ok (.iload_n 2, 1) := by decide +kernel
theorem dL_looks_325 : decode cL_looks 325 = .ok (.iconst 1, 1) := by decide +kernel
theorem dL_looks_326 : decode cL_looks 326 = .ok (.iadd, 1) := by decide +kernel
theorem dL_looks_327 : decode cL_looks 327 = .ok (.iconst 0, 1) := by decide +kernel
theorem dL_looks_328 : decode cL_looks 328 = .ok (.invokestatic 139, 3) := by decide +kernel
theorem dL_looks_331 : decode cL_looks 331 = .ok (.ldc2_w 127, 3) := by decide +kernel
theorem dL_looks_334 : decode cL_looks 334 = .ok (.lcmp, 1) := by decide +kernel
theorem dL_looks_335 : decode cL_looks 335 = .ok (.ifCond .ne 7, 3) := by decide +kernel
theorem dL_looks_338 : decode cL_looks 338 = .ok (.iconst 1, 1) := by decide +kernel
theorem dL_looks_339 : decode cL_looks 339 = .ok (.goto 4, 3) := by decide +kernel
theorem dL_looks_342 : decode cL_looks 342 = .ok (.iconst 0, 1) := by decide +kernel
theorem dL_looks_343 : decode cL_looks 343 = .ok (.ireturn, 1) := by decide +kernel
theorem dL_acts_0 : decode cL_acts 0 = .ok (.bipush 13, 2) := by decide +kernel
theorem dL_acts_2 : decode cL_acts 2 = .ok (.iload_n 2, 1) := by decide +kernel
theorem dL_acts_3 : decode cL_acts 3 = .ok (.iconst 4, 1) := by decide +kernel
theorem dL_acts_4 : decode cL_acts 4 = .ok (.invokestatic 153, 3) := by decide +kernel
theorem dL_acts_7 : decode cL_acts 7 = .ok (.imul, 1) := by decide +kernel
theorem dL_acts_8 : decode cL_acts 8 = .ok (.iload_n 2, 1) := by decide +kernel
theorem dL_acts_9 : decode cL_acts 9 = .ok (.iconst 3, 1) := by decide +kernel
theorem dL_acts_10 : decode cL_acts 10 = .ok (.ishr, 1) := by decide +kernel
theorem dL_acts_11 : decode cL_acts 11 = .ok (.iload 4, 2) := by decide +kernel
theorem dL_acts_13 : decode cL_acts 13 = .ok (.iload_n 2, 1) := by decide +kernel
theorem dL_acts_14 : decode cL_acts 14 = .ok (.bipush 8, 2) := by decide +kernel
theorem dL_acts_16 : decode cL_acts 16 = .ok (.ishr, 1) := by decide +kernel
theorem dL_acts_17 : decode cL_acts 17 = .ok (.bipush 40, 2) := by decide +kernel
theorem dL_acts_19 : decode cL_acts 19 = .ok (.invokestatic 153, 3) := by decide +kernel
theorem dL_acts_22 : decode cL_acts 22 = .ok (.ifCond .ne 7, 3) := by decide +kernel
theorem dL_acts_25 : decode cL_acts 25 = .ok (.iconst 1, 1) := by decide +kernel
theorem dL_acts_26 : decode cL_acts 26 = .ok (.goto 4, 3) := by decide +kernel
theorem dL_acts_29 : decode cL_acts 29 = .ok (.iconst 0, 1) := by decide +kernel
theorem dL_acts_30 : decode cL_acts 30 = .ok (.iadd, 1) := by decide +kernel
theorem dL_acts_31 : decode cL_acts 31 = .ok (.invokestatic 153, 3) := by decide +kernel
theorem dL_acts_34 : decode cL_acts 34 = .ok (.iadd, 1) := by decide +kernel
theorem dL_acts_35 : decode cL_acts 35 = .ok (.istore 5, 2) := by decide +kernel
theorem dL_acts_37 : decode cL_acts 37 = .ok (.iload_n 3, 1) := by decide +kernel
theorem dL_acts_38 : decode cL_acts 38 = .ok (.tableswitch 306 0 19 #[94, 94, 94, 94, 103, 112, 121, 130, 139, 148, 177, 177, 177, 177, 177, 186, 232, 241, 250, 273], 94) := by decide +kernel
theorem dL_acts_132 : decode cL_acts 132 = .ok (.aload_n 0, 1) := by decide +kernel
theorem dL_acts_133 : decode cL_acts 133 = .ok (.iconst 3, 1) := by decide +kernel
theorem dL_acts_134 : decode cL_acts 134 = .ok (.iload 5, 2) := by decide +kernel
theorem dL_acts_136 : decode cL_acts 136 = .ok (.iconst 0, 1) := by decide +kernel
theorem dL_acts_137 : decode cL_acts 137 = .ok (.invokestatic 139, 3) := by decide +kernel
theorem dL_acts_140 : decode cL_acts 140 = .ok (.lreturn, 1) := by decide +kernel
theorem dL_acts_141 : decode cL_acts 141 = .ok (.aload_n 0, 1) := by decide +kernel
theorem dL_acts_142 : decode cL_acts 142 = .ok (.iconst 4, 1) := by decide +kernel
theorem dL_acts_143 : decode cL_acts 143 = .ok (.iload 5, 2) := by decide +kernel
theorem dL_acts_145 : decode cL_acts 145 = .ok (.iconst 0, 1) := by decide +kernel
theorem dL_acts_146 : decode cL_acts 146 = .ok (.invokestatic 139, 3) := by decide +kernel
theorem dL_acts_149 : decode cL_acts 149 = .ok (.lreturn, 1) := by decide +kernel
theorem dL_acts_150 : decode cL_acts 150 = .ok (.aload_n 0, 1) := by decide +kernel
theorem dL_acts_151 : decode cL_acts 151 = .ok (.iconst 5, 1) := by decide +kernel
theorem dL_acts_152 : decode cL_acts 152 = .ok (.iload 5, 2) := by decide +kernel
theorem dL_acts_154 : decode cL_acts 154 = .ok (.iconst 0, 1) := by decide +kernel
theorem dL_acts_155 : decode cL_acts 155 = .ok (.invokestatic 139, 3) := by decide +kernel
theorem dL_acts_158 : decode cL_acts 158 = .ok (.lreturn, 1) := by decide +kernel
theorem dL_acts_159 : decode cL_acts 159 = .ok (.aload_n 0, 1) := by decide +kernel
theorem dL_acts_160 : decode cL_acts 160 = .ok (.bipush 6, 2) := by decide +kernel
theorem dL_acts_162 : decode cL_acts 162 = .ok (.iconst 0, 1) := by decide +kernel
theorem dL_acts_163 : decode cL_acts 163 = .ok (.iconst 0, 1) := by decide +kernel
theorem dL_acts_164 : decode cL_acts 164 = .ok (.invokestatic 139, 3) := by decide +kernel
theorem dL_acts_167 : decode cL_acts 167 = .ok (.lreturn, 1) := by decide +kernel
theorem dL_acts_168 : decode cL_acts 168 = .ok (.aload_n 0, 1) := by decide +kernel
theorem dL_acts_169 : decode cL_acts 169 = .ok (.bipush 7, 2) := by decide +kernel
theorem dL_acts_171 : decode cL_acts 171 = .ok (.iconst 0, 1) := by decide +kernel
theorem dL_acts_172 : decode cL_acts 172 = .ok (.iconst 0, 1) := by decide +kernel
theorem dL_acts_173 : decode cL_acts 173 = .ok (.invokestatic 139, 3) := by decide +kernel
theorem dL_acts_176 : decode cL_acts 176 = .ok (.lreturn, 1) := by decide +kernel
theorem dL_acts_177 : decode cL_acts 177 = .ok (.aload_n 0, 1) := by decide +kernel
theorem dL_acts_178 : decode cL_acts 178 = .ok (.bipush 8, 2) := by decide +kernel
theorem dL_acts_180 : decode cL_acts 180 = .ok (.iconst 0, 1) := by decide +kernel
theorem dL_acts_181 : decode cL_acts 181 = .ok (.iconst 0, 1) := by decide +kernel
theorem dL_acts_182 : decode cL_acts 182 = .ok (.invokestatic 139, 3) := by decide +kernel
theorem dL_acts_185 : decode cL_acts 185 = .ok (.lreturn, 1) := by decide +kernel
theorem dL_acts_186 : decode cL_acts 186 = .ok (.aload_n 0, 1) := by decide +kernel
theorem dL_acts_187 : decode cL_acts 187 = .ok (.bipush 9, 2) := by decide +kernel
theorem dL_acts_189 : decode cL_acts 189 = .ok (.iload_n 2, 1) := by decide +kernel
theorem dL_acts_190 : decode cL_acts 190 = .ok (.bipush 30, 2) := by decide +kernel
theorem dL_acts_192 : decode cL_acts 192 = .ok (.invokestatic 153, 3) := by decide +kernel
theorem dL_acts_195 : decode cL_acts 195 = .ok (.ifCond .ne 7, 3) := by decide +kernel
theorem dL_acts_198 : decode cL_acts 198 = .ok (.iconst 0, 1) := by decide +kernel
theorem dL_acts_199 : decode cL_acts 199 = .ok (.goto 11, 3) := by decide +kernel
theorem dL_acts_202 : decode cL_acts 202 = .ok (.iconst 1, 1) := by decide +kernel
theorem dL_acts_203 : decode cL_acts 203 = .ok (.iload_n 2, 1) := by decide +kernel
theorem dL_acts_204 : decode cL_acts 204 = .ok (.bipush 20, 2) := by decide +kernel
theorem dL_acts_206 : decode cL_acts 206 = .ok (.invokestatic 153, 3) := by decide +kernel
theorem dL_acts_209 : decode cL_acts 209 = .ok (.iadd, 1) := by decide +kernel
theorem dL_acts_210 : decode cL_acts 210 = .ok (.iconst 0, 1) := by decide +kernel
theorem dL_acts_211 : decode cL_acts 211 = .ok (.invokestatic 139, 3) := by decide +kernel
theorem dL_acts_214 : decode cL_acts 214 = .ok (.lreturn, 1) := by decide +kernel
theorem dL_acts_215 : decode cL_acts 215 = .ok (.aload_n 0, 1) := by decide +kernel
theorem dL_acts_216 : decode cL_acts 216 = .ok (.bipush 10, 2) := by decide +kernel
theorem dL_acts_218 : decode cL_acts 218 = .ok (.iconst 0, 1) := by decide +kernel
theorem dL_acts_219 : decode cL_acts 219 = .ok (.iconst 0, 1) := by decide +kernel
theorem dL_acts_220 : decode cL_acts 220 = .ok (.invokestatic 139, 3) := by decide +kernel
theorem dL_acts_223 : decode cL_acts 223 = .ok (.lreturn, 1) := by decide +kernel
theorem dL_acts_224 : decode cL_acts 224 = .ok (.aload_n 0, 1) := by decide +kernel
theorem dL_acts_225 : decode cL_acts 225 = .ok (.bipush 11, 2) := by decide +kernel
theorem dL_acts_227 : decode cL_acts 227 = .ok (.iload_n 2, 1) := by decide +kernel
theorem dL_acts_228 : decode cL_acts 228 = .ok (.iconst 3, 1) := by decide +kernel
theorem dL_acts_229 : decode cL_acts 229 = .ok (.invokestatic 153, 3) := by decide +kernel
theorem dL_acts_232 : decode cL_acts 232 = .ok (.ifCond .ne 8, 3) := by decide +kernel
theorem dL_acts_235 : decode cL_acts 235 = .ok (.bipush 119, 2) := by decide +kernel
theorem dL_acts_237 : decode cL_acts 237 = .ok (.goto 28, 3) := by decide +kernel
theorem dL_acts_240 : decode cL_acts 240 = .ok (.iload_n 2, 1) := by decide +kernel
theorem dL_acts_241 : decode cL_acts 241 = .ok (.iconst 3, 1) := by decide +kernel
theorem dL_acts_242 : decode cL_acts 242 = .ok (.invokestatic 153, 3) := by decide +kernel
theorem dL_acts_245 : decode cL_acts 245 = .ok (.iconst 1, 1) := by decide +kernel
theorem dL_acts_246 : decode cL_acts 246 = .ok (.if_icmp .ne 8, 3) := by decide +kernel
theorem dL_acts_249 : decode cL_acts 249 = .ok (.bipush 108, 2) := by decide +kernel
theorem dL_acts_251 : decode cL_acts 251 = .ok (.goto 14, 3) := by decide +kernel
theorem dL_acts_254 : decode cL_acts 254 = .ok (.bipush 48, 2) := by decide +kernel
theorem dL_acts_256 : decode cL_acts 256 = .ok (.iload_n 2, 1) := by decide +kernel
theorem dL_acts_257 : decode cL_acts 257 = .ok (.iconst 2, 1) := by decide +kernel
theorem dL_acts_258 : decode cL_acts 258 = .ok (.ishr, 1) := by decide +kernel
theorem dL_acts_259 : decode cL_acts 259 = .ok (.bipush 60, 2) := by decide +kernel
theorem dL_acts_261 : decode cL_acts 261 = .ok (.invokestatic 153, 3) := by decide +kernel
theorem dL_acts_264 : decode cL_acts 264 = .ok (.iadd, 1) := by decide +kernel
theorem dL_acts_265 : decode cL_acts 265 = .ok (.iconst 0, 1) := by decide +kernel
theorem dL_acts_266 : decode cL_acts 266 = .ok (.invokestatic 139, 3) := by decide +kernel
theorem dL_acts_269 : decode cL_acts 269 = .ok (.lreturn, 1) := by decide +kernel
theorem dL_acts_270 : decode cL_acts 270 = .ok (.aload_n 0, 1) := by decide +kernel
theorem dL_acts_271 : decode cL_acts 271 = .ok (.bipush 13, 2) := by decide +kernel
theorem dL_acts_273 : decode cL_acts 273 = .ok (.iconst 0, 1) := by decide +kernel
theorem dL_acts_274 : decode cL_acts 274 = .ok (.iconst 0, 1) := by decide +kernel
theorem dL_acts_275 : decode cL_acts 275 = .ok (.invokestatic 139, 3) := by decide +kernel
theorem dL_acts_278 : decode cL_acts 278 = .ok (.lreturn, 1) := by decide +kernel
theorem dL_acts_279 : decode cL_acts 279 = .ok (.aload_n 0, 1) := by decide +kernel
theorem dL_acts_280 : decode cL_acts 280 = .ok (.bipush 12, 2) := by decide +kernel
theorem dL_acts_282 : decode cL_acts 282 = .ok (.iconst 0, 1) := by decide +kernel
theorem dL_acts_283 : decode cL_acts 283 = .ok (.iconst 0, 1) := by decide +kernel
theorem dL_acts_284 : decode cL_acts 284 = .ok (.invokestatic 139, 3) := by decide +kernel
theorem dL_acts_287 : decode cL_acts 287 = .ok (.lreturn, 1) := by decide +kernel
theorem dL_acts_288 : decode cL_acts 288 = .ok (.aload_n 0, 1) := by decide +kernel
theorem dL_acts_289 : decode cL_acts 289 = .ok (.bipush 23, 2) := by decide +kernel
theorem dL_acts_291 : decode cL_acts 291 = .ok (.iload_n 1, 1) := by decide +kernel
theorem dL_acts_292 : decode cL_acts 292 = .ok (.iconst 4, 1) := by decide +kernel
theorem dL_acts_293 : decode cL_acts 293 = .ok (.invokestatic 153, 3) := by decide +kernel
theorem dL_acts_296 : decode cL_acts 296 = .ok (.iload 5, 2) := by decide +kernel
theorem dL_acts_298 : decode cL_acts 298 = .ok (.iload_n 2, 1) := by decide +kernel
theorem dL_acts_299 : decode cL_acts 299 = .ok (.iconst 5, 1) := by decide +kernel
theorem dL_acts_300 : decode cL_acts 300 = .ok (.ishr, 1) := by decide +kernel
theorem dL_acts_301 : decode cL_acts 301 = .ok (.iconst 4, 1) := by decide +kernel
theorem dL_acts_302 : decode cL_acts 302 = .ok (.invokestatic 153, 3) := by decide +kernel
theorem dL_acts_305 : decode cL_acts 305 = .ok (.iconst 0, 1) := by decide +kernel
theorem dL_acts_306 : decode cL_acts 306 = .ok (.iconst 0, 1) := by decide +kernel
theorem dL_acts_307 : decode cL_acts 307 = .ok (.invokestatic 133, 3) := by decide +kernel
theorem dL_acts_310 : decode cL_acts 310 = .ok (.lreturn, 1) := by decide +kernel
theorem dL_acts_311 : decode cL_acts 311 = .ok (.aload_n 0, 1) := by decide +kernel
theorem dL_acts_312 : decode cL_acts 312 = .ok (.iconst 2, 1) := by decide +kernel
theorem dL_acts_313 : decode cL_acts 313 = .ok (.iload_n 2, 1) := by decide +kernel
theorem dL_acts_314 : decode cL_acts 314 = .ok (.ldc 160, 2) := by decide +kernel
theorem dL_acts_316 : decode cL_acts 316 = .ok (.invokestatic 153, 3) := by decide +kernel
theorem dL_acts_319 : decode cL_acts 319 = .ok (.iconst 1, 1) := by decide +kernel
theorem dL_acts_320 : decode cL_acts 320 = .ok (.iload_n 2, 1) := by decide +kernel
theorem dL_acts_321 : decode cL_acts 321 = .ok (.iconst 4, 1) := by decide +kernel
theorem dL_acts_322 : decode cL_acts 322 = .ok (.ishr, 1) := by decide +kernel
theorem dL_acts_323 : decode cL_acts 323 = .ok (.bipush 15, 2) := by decide +kernel
theorem dL_acts_325 : decode cL_acts 325 = .ok (.invokestatic 153, 3) := by decide +kernel
theorem dL_acts_328 : decode cL_acts 328 = .ok (.iadd, 1) := by decide +kernel
theorem dL_acts_329 : decode cL_acts 329 = .ok (.iconst 1, 1) := by decide +kernel
theorem dL_acts_330 : decode cL_acts 330 = .ok (.iload_n 1, 1) := by decide +kernel
theorem dL_acts_331 : decode cL_acts 331 = .ok (.sipush 200, 3) := by decide +kernel
theorem dL_acts_334 : decode cL_acts 334 = .ok (.invokestatic 153, 3) := by decide +kernel
theorem dL_acts_337 : decode cL_acts 337 = .ok (.iadd, 1) := by decide +kernel
theorem dL_acts_338 : decode cL_acts 338 = .ok (.iconst 0, 1) := by decide +kernel
theorem dL_acts_339 : decode cL_acts 339 = .ok (.iconst 0, 1) := by decide +kernel
theorem dL_acts_340 : decode cL_acts 340 = .ok (.invokestatic 133, 3) := by decide +kernel
theorem dL_acts_343 : decode cL_acts 343 = .ok (.lreturn, 1) := by decide +kernel
theorem dL_acts_344 : decode cL_acts 344 = .ok (.aload_n 0, 1) := by decide +kernel
theorem dL_acts_345 : decode cL_acts 345 = .ok (.iconst 1, 1) := by decide +kernel
theorem dL_acts_346 : decode cL_acts 346 = .ok (.iload_n 2, 1) := by decide +kernel
theorem dL_acts_347 : decode cL_acts 347 = .ok (.iconst 3, 1) := by decide +kernel
theorem dL_acts_348 : decode cL_acts 348 = .ok (.invokestatic 153, 3) := by decide +kernel
theorem dL_acts_351 : decode cL_acts 351 = .ok (.iload_n 2, 1) := by decide +kernel
theorem dL_acts_352 : decode cL_acts 352 = .ok (.iconst 2, 1) := by decide +kernel
theorem dL_acts_353 : decode cL_acts 353 = .ok (.ishr, 1) := by decide +kernel
theorem dL_acts_354 : decode cL_acts 354 = .ok (.iconst 5, 1) := by decide +kernel
theorem dL_acts_355 : decode cL_acts 355 = .ok (.invokestatic 153, 3) := by decide +kernel
theorem dL_acts_358 : decode cL_acts 358 = .ok (.invokestatic 139, 3) := by decide +kernel
theorem dL_acts_361 : decode cL_acts 361 = .ok (.lreturn, 1) := by decide +kernel
theorem dL_law_0 : decode cL_law 0 = .ok (.new 10, 3) := by decide +kernel
theorem dL_law_3 : decode cL_law 3 = .ok (.dup, 1) := by decide +kernel
theorem dL_law_4 : decode cL_law 4 = .ok (.invokespecial 161, 3) := by decide +kernel
theorem dL_law_7 : decode cL_law 7 = .ok (.astore_n 1, 1) := by decide +kernel
theorem dL_law_8 : decode cL_law 8 = .ok (.aload_n 0, 1) := by decide +kernel
theorem dL_law_9 : decode cL_law 9 = .ok (.iconst 0, 1) := by decide +kernel
theorem dL_law_10 : decode cL_law 10 = .ok (.invokestatic 162, 3) := by decide +kernel
theorem dL_law_13 : decode cL_law 13 = .ok (.istore_n 2, 1) := by decide +kernel
theorem dL_law_14 : decode cL_law 14 = .ok (.iconst 5, 1) := by decide +kernel
theorem dL_law_15 : decode cL_law 15 = .ok (.iload_n 2, 1) := by decide +kernel
theorem dL_law_16 : decode cL_law 16 = .ok (.bipush 9, 2) := by decide +kernel
theorem dL_law_18 : decode cL_law 18 = .ok (.invokestatic 153, 3) := by decide +kernel
theorem dL_law_21 : decode cL_law 21 = .ok (.iadd, 1) := by decide +kernel
theorem dL_law_22 : decode cL_law 22 = .ok (.istore_n 3, 1) := by decide +kernel
theorem dL_law_23 : decode cL_law 23 = .ok (.iload_n 2, 1) := by decide +kernel
theorem dL_law_24 : decode cL_law 24 = .ok (.iconst 4, 1) := by decide +kernel
theorem dL_law_25 : decode cL_law 25 = .ok (.ishr, 1) := by decide +kernel
theorem dL_law_26 : decode cL_law 26 = .ok (.iconst 4, 1) := by decide +kernel
theorem dL_law_27 : decode cL_law 27 = .ok (.invokestatic 153, 3) := by decide +kernel
theorem dL_law_30 : decode cL_law 30 = .ok (.istore 4, 2) := by decide +kernel
theorem dL_law_32 : decode cL_law 32 = .ok (.aload_n 1, 1) := by decide +kernel
theorem dL_law_33 : decode cL_law 33 = .ok (.iconst 0, 1) := by decide +kernel
theorem dL_law_34 : decode cL_law 34 = .ok (.iload_n 3, 1) := by decide +kernel
theorem dL_law_35 : decode cL_law 35 = .ok (.iconst 3, 1) := by decide +kernel
theorem dL_law_36 : decode cL_law 36 = .ok (.iload_n 2, 1) := by decide +kernel
theorem dL_law_37 : decode cL_law 37 = .ok (.bipush 6, 2) := by decide +kernel
theorem dL_law_39 : decode cL_law 39 = .ok (.ishr, 1) := by decide +kernel
theorem dL_law_40 : decode cL_law 40 = .ok (.iconst 2, 1) := by decide +kernel
theorem dL_law_41 : decode cL_law 41 = .ok (.invokestatic 153, 3) := by decide +kernel
theorem dL_law_44 : decode cL_law 44 = .ok (.iadd, 1) := by decide +kernel
theorem dL_law_45 : decode cL_law 45 = .ok (.iload 4, 2) := by decide +kernel
theorem dL_law_47 : decode cL_law 47 = .ok (.iload_n 2, 1) := by decide +kernel
theorem dL_law_48 : decode cL_law 48 = .ok (.bipush 8, 2) := by decide +kernel
theorem dL_law_50 : decode cL_law 50 = .ok (.ishr, 1) := by decide +kernel
theorem dL_law_51 : decode cL_law 51 = .ok (.bipush 31, 2) := by decide +kernel
theorem dL_law_53 : decode cL_law 53 = .ok (.invokestatic 153, 3) := by decide +kernel
theorem dL_law_56 : decode cL_law 56 = .ok (.iconst 1, 1) := by decide +kernel
theorem dL_law_57 : decode cL_law 57 = .ok (.iload_n 2, 1) := by decide +kernel
theorem dL_law_58 : decode cL_law 58 = .ok (.bipush 13, 2) := by decide +kernel
theorem dL_law_60 : decode cL_law 60 = .ok (.ishr, 1) := by decide +kernel
theorem dL_law_61 : decode cL_law 61 = .ok (.bipush 9, 2) := by decide +kernel
theorem dL_law_63 : decode cL_law 63 = .ok (.invokestatic 153, 3) := by decide +kernel
theorem dL_law_66 : decode cL_law 66 = .ok (.iadd, 1) := by decide +kernel
theorem dL_law_67 : decode cL_law 67 = .ok (.invokestatic 133, 3) := by decide +kernel
theorem dL_law_70 : decode cL_law 70 = .ok (.bipush 8, 2) := by decide +kernel
theorem dL_law_72 : decode cL_law 72 = .ok (.iload_n 3, 1) := by decide +kernel
theorem dL_law_73 : decode cL_law 73 = .ok (.imul, 1) := by decide +kernel
theorem dL_law_74 : decode cL_law 74 = .ok (.iload 4, 2) := by decide +kernel
theorem dL_law_76 : decode cL_law 76 = .ok (.iadd, 1) := by decide +kernel
theorem dL_law_77 : decode cL_law 77 = .ok (.i2l, 1) := by decide +kernel
theorem dL_law_78 : decode cL_law 78 = .ok (.lcmp, 1) := by decide +kernel
theorem dL_law_79 : decode cL_law 79 = .ok (.ifCond .ne 7, 3) := by decide +kernel
theorem dL_law_82 : decode cL_law 82 = .ok (.iconst 1, 1) := by decide +kernel
theorem dL_law_83 : decode cL_law 83 = .ok (.goto 4, 3) := by decide +kernel
theorem dL_law_86 : decode cL_law 86 = .ok (.iconst 0, 1) := by decide +kernel
theorem dL_law_87 : decode cL_law 87 = .ok (.istore 5, 2) := by decide +kernel
theorem dL_law_89 : decode cL_law 89 = .ok (.iconst 0, 1) := by decide +kernel
theorem dL_law_90 : decode cL_law 90 = .ok (.istore 6, 2) := by decide +kernel
theorem dL_law_92 : decode cL_law 92 = .ok (.iload 6, 2) := by decide +kernel
theorem dL_law_94 : decode cL_law 94 = .ok (.iconst 3, 1) := by decide +kernel
theorem dL_law_95 : decode cL_law 95 = .ok (.if_icmp .ge 56, 3) := by decide +kernel
theorem dL_law_98 : decode cL_law 98 = .ok (.iload 5, 2) := by decide +kernel
theorem dL_law_100 : decode cL_law 100 = .ok (.aload_n 1, 1) := by decide +kernel
theorem dL_law_101 : decode cL_law 101 = .ok (.iconst 1, 1) := by decide +kernel
theorem dL_law_102 : decode cL_law 102 = .ok (.iload 6, 2) := by decide +kernel
theorem dL_law_104 : decode cL_law 104 = .ok (.iconst 2, 1) := by decide +kernel
theorem dL_law_105 : decode cL_law 105 = .ok (.irem, 1) := by decide +kernel
theorem dL_law_106 : decode cL_law 106 = .ok (.iload 6, 2) := by decide +kernel
theorem dL_law_108 : decode cL_law 108 = .ok (.ifCond .ne 7, 3) := by decide +kernel
theorem dL_law_111 : decode cL_law 111 = .ok (.iconst 1, 1) := by decide +kernel
theorem dL_law_112 : decode cL_law 112 = .ok (.goto 15, 3) := by decide +kernel
theorem dL_law_115 : decode cL_law 115 = .ok (.iconst 1, 1) := by decide +kernel
theorem dL_law_116 : decode cL_law 116 = .ok (.iload_n 2, 1) := by decide +kernel
theorem dL_law_117 : decode cL_law 117 = .ok (.iload 6, 2) := by decide +kernel
theorem dL_law_119 : decode cL_law 119 = .ok (.iconst 3, 1) := by decide +kernel
theorem dL_law_120 : decode cL_law 120 = .ok (.iadd, 1) := by decide +kernel
theorem dL_law_121 : decode cL_law 121 = .ok (.ishr, 1) := by decide +kernel
theorem dL_law_122 : decode cL_law 122 = .ok (.iconst 3, 1) := by decide +kernel
theorem dL_law_123 : decode cL_law 123 = .ok (.invokestatic 153, 3) := by decide +kernel
theorem dL_law_126 : decode cL_law 126 = .ok (.iadd, 1) := by decide +kernel
theorem dL_law_127 : decode cL_law 127 = .ok (.invokestatic 139, 3) := by decide +kernel
theorem dL_law_130 : decode cL_law 130 = .ok (.iload 6, 2) := by decide +kernel
theorem dL_law_132 : decode cL_law 132 = .ok (.i2l, 1) := by decide +kernel
theorem dL_law_133 : decode cL_law 133 = .ok (.lcmp, 1) := by decide +kernel
theorem dL_law_134 : decode cL_law 134 = .ok (.ifCond .ne 7, 3) := by decide +kernel
theorem dL_law_137 : decode cL_law 137 = .ok (.iconst 1, 1) := by decide +kernel
theorem dL_law_138 : decode cL_law 138 = .ok (.goto 4, 3) := by decide +kernel
theorem dL_law_141 : decode cL_law 141 = .ok (.iconst 0, 1) := by decide +kernel
theorem dL_law_142 : decode cL_law 142 = .ok (.iand, 1) := by decide +kernel
theorem dL_law_143 : decode cL_law 143 = .ok (.istore 5, 2) := by decide +kernel
theorem dL_law_145 : decode cL_law 145 = .ok (.iinc 6 1, 3) := by decide +kernel
theorem dL_law_148 : decode cL_law 148 = .ok (.goto (-56), 3) := by decide +kernel
theorem dL_law_151 : decode cL_law 151 = .ok (.iload 5, 2) := by decide +kernel
theorem dL_law_153 : decode cL_law 153 = .ok (.aload_n 1, 1) := by decide +kernel
theorem dL_law_154 : decode cL_law 154 = .ok (.iconst 2, 1) := by decide +kernel
theorem dL_law_155 : decode cL_law 155 = .ok (.aload_n 0, 1) := by decide +kernel
theorem dL_law_156 : decode cL_law 156 = .ok (.iconst 1, 1) := by decide +kernel
theorem dL_law_157 : decode cL_law 157 = .ok (.invokestatic 162, 3) := by decide +kernel
theorem dL_law_160 : decode cL_law 160 = .ok (.ldc 160, 2) := by decide +kernel
theorem dL_law_162 : decode cL_law 162 = .ok (.invokestatic 153, 3) := by decide +kernel
theorem dL_law_165 : decode cL_law 165 = .ok (.bipush 6, 2) := by decide +kernel
theorem dL_law_167 : decode cL_law 167 = .ok (.aload_n 0, 1) := by decide +kernel
theorem dL_law_168 : decode cL_law 168 = .ok (.iconst 1, 1) := by decide +kernel
theorem dL_law_169 : decode cL_law 169 = .ok (.invokestatic 162, 3) := by decide +kernel
theorem dL_law_172 : decode cL_law 172 = .ok (.iconst 5, 1) := by decide +kernel
theorem dL_law_173 : decode cL_law 173 = .ok (.ishr, 1) := by decide +kernel
theorem dL_law_174 : decode cL_law 174 = .ok (.bipush 8, 2) := by decide +kernel
theorem dL_law_176 : decode cL_law 176 = .ok (.invokestatic 153, 3) := by decide +kernel
theorem dL_law_179 : decode cL_law 179 = .ok (.iadd, 1) := by decide +kernel
theorem dL_law_180 : decode cL_law 180 = .ok (.sipush 500, 3) := by decide +kernel
theorem dL_law_183 : decode cL_law 183 = .ok (.iconst 0, 1) := by decide +kernel
theorem dL_law_184 : decode cL_law 184 = .ok (.iconst 0, 1) := by decide +kernel
theorem dL_law_185 : decode cL_law 185 = .ok (.invokestatic 133, 3) := by decide +kernel
theorem dL_law_188 : decode cL_law 188 = .ok (.lconst 0, 1) := by decide +kernel
theorem dL_law_189 : decode cL_law 189 = .ok (.lcmp, 1) := by decide +kernel
theorem dL_law_190 : decode cL_law 190 = .ok (.ifCond .lt 7, 3) := by decide +kernel
theorem dL_law_193 : decode cL_law 193 = .ok (.iconst 1, 1) := by decide +kernel
theorem dL_law_194 : decode cL_law 194 = .ok (.goto 4, 3) := by decide +kernel
theorem dL_law_197 : decode cL_law 197 = .ok (.iconst 0, 1) := by decide +kernel
theorem dL_law_198 : decode cL_law 198 = .ok (.iand, 1) := by decide +kernel
theorem dL_law_199 : decode cL_law 199 = .ok (.istore 5, 2) := by decide +kernel
theorem dL_law_201 : decode cL_law 201 = .ok (.iconst 0, 1) := by decide +kernel
theorem dL_law_202 : decode cL_law 202 = .ok (.istore 6, 2) := by decide +kernel
theorem dL_law_204 : decode cL_law 204 = .ok (.iload 6, 2) := by decide +kernel
theorem dL_law_206 : decode cL_law 206 = .ok (.bipush 24, 2) := by decide +kernel
theorem dL_law_208 : decode cL_law 208 = .ok (.if_icmp .ge 181, 3) := by decide +kernel
theorem dL_law_211 : decode cL_law 211 = .ok (.iload 5, 2) := by decide +kernel
theorem dL_law_213 : decode cL_law 213 = .ok (.ifCond .eq 176, 3) := by decide +kernel
theorem dL_law_216 : decode cL_law 216 = .ok (.aload_n 0, 1) := by decide +kernel
theorem dL_law_217 : decode cL_law 217 = .ok (.iconst 2, 1) := by decide +kernel
theorem dL_law_218 : decode cL_law 218 = .ok (.iload 6, 2) := by decide +kernel
theorem dL_law_220 : decode cL_law 220 = .ok (.imul, 1) := by decide +kernel
theorem dL_law_221 : decode cL_law 221 = .ok (.iconst 2, 1) := by decide +kernel
theorem dL_law_222 : decode cL_law 222 = .ok (.iadd, 1) := by decide +kernel
theorem dL_law_223 : decode cL_law 223 = .ok (.invokestatic 162, 3) := by decide +kernel
theorem dL_law_226 : decode cL_law 226 = .ok (.istore 7, 2) := by decide +kernel
theorem dL_law_228 : decode cL_law 228 = .ok (.aload_n 0, 1) := by decide +kernel
theorem dL_law_229 : decode cL_law 229 = .ok (.iconst 2, 1) := by decide +kernel
theorem dL_law_230 : decode cL_law 230 = .ok (.iload 6, 2) := by decide +kernel
theorem dL_law_232 : decode cL_law 232 = .ok (.imul, 1) := by decide +kernel
theorem dL_law_233 : decode cL_law 233 = .ok (.iconst 3, 1) := by decide +kernel
theorem dL_law_234 : decode cL_law 234 = .ok (.iadd, 1) := by decide +kernel
theorem dL_law_235 : decode cL_law 235 = .ok (.invokestatic 162, 3) := by decide +kernel
theorem dL_law_238 : decode cL_law 238 = .ok (.istore 8, 2) := by decide +kernel
theorem dL_law_240 : decode cL_law 240 = .ok (.iload 7, 2) := by decide +kernel
theorem dL_law_242 : decode cL_law 242 = .ok (.iconst 4, 1) := by decide +kernel
theorem dL_law_243 : decode cL_law 243 = .ok (.ishr, 1) := by decide +kernel
theorem dL_law_244 : decode cL_law 244 = .ok (.bipush 27, 2) := by decide +kernel
theorem dL_law_246 : decode cL_law 246 = .ok (.invokestatic 153, 3) := by decide +kernel
theorem dL_law_249 : decode cL_law 249 = .ok (.istore 9, 2) := by decide +kernel
theorem dL_law_251 : decode cL_law 251 = .ok (.iload 9, 2) := by decide +kernel
theorem dL_law_253 : decode cL_law 253 = .ok (.bipush 21, 2) := by decide +kernel
theorem dL_law_255 : decode cL_law 255 = .ok (.if_icmp .ge 74, 3) := by decide +kernel
theorem dL_law_258 : decode cL_law 258 = .ok (.aload_n 1, 1) := by decide +kernel
theorem dL_law_259 : decode cL_law 259 = .ok (.invokestatic 166, 3) := by decide +kernel
theorem dL_law_262 : decode cL_law 262 = .ok (.astore 10, 2) := by decide +kernel
theorem dL_law_264 : decode cL_law 264 = .ok (.iload 9, 2) := by decide +kernel
theorem dL_law_266 : decode cL_law 266 = .ok (.bipush 19, 2) := by decide +kernel
theorem dL_law_268 : decode cL_law 268 = .ok (.if_icmp .le 18, 3) := by decide +kernel
theorem dL_law_271 : decode cL_law 271 = .ok (.aload 10, 2) := by decide +kernel
theorem dL_law_273 : decode cL_law 273 = .ok (.iconst 0, 1) := by decide +kernel
theorem dL_law_274 : decode cL_law 274 = .ok (.laload, 1) := by decide +kernel
theorem dL_law_275 : decode cL_law 275 = .ok (.lconst 0, 1) := by decide +kernel
theorem dL_law_276 : decode cL_law 276 = .ok (.lcmp, 1) := by decide +kernel
theorem dL_law_277 : decode cL_law 277 = .ok (.ifCond .ge 9, 3) := by decide +kernel
theorem dL_law_280 : decode cL_law 280 = .ok (.ldc2_w 131, 3) := by decide +kernel
theorem dL_law_283 : decode cL_law 283 = .ok (.goto 17, 3) := by decide +kernel
theorem dL_law_286 : decode cL_law 286 = .ok (.aload_n 1, 1) := by decide +kernel
theorem dL_law_287 : decode cL_law 287 = .ok (.iload 7, 2) := by decide +kernel
theorem dL_law_289 : decode cL_law 289 = .ok (.bipush 9, 2) := by decide +kernel
theorem dL_law_291 : decode cL_law 291 = .ok (.ishr, 1) := by decide +kernel
theorem dL_law_292 : decode cL_law 292 = .ok (.iload 8, 2) := by decide +kernel
theorem dL_law_294 : decode cL_law 294 = .ok (.iload 9, 2) := by decide +kernel
theorem dL_law_296 : decode cL_law 296 = .ok (.iload_n 3, 1) := by decide +kernel
theorem dL_law_297 : decode cL_law 297 = .ok (.invokestatic 170, 3) := by decide +kernel
theorem dL_law_300 : decode cL_law 300 = .ok (.ldc2_w 174, 3) := by decide +kernel
theorem dL_law_303 : decode cL_law 303 = .ok (.lcmp, 1) := by decide +kernel
theorem dL_law_304 : decode cL_law 304 = .ok (.ifCond .gt 15, 3) := by decide +kernel
theorem dL_law_307 : decode cL_law 307 = .ok (.aload 10, 2) := by decide +kernel
theorem dL_law_309 : decode cL_law 309 = .ok (.aload_n 1, 1) := by decide +kernel
theorem dL_law_310 : decode cL_law 310 = .ok (.invokestatic 166, 3) := by decide +kernel
theorem dL_law_313 : decode cL_law 313 = .ok (.invokestatic 176, 3) := by decide +kernel
theorem dL_law_316 : decode cL_law 316 = .ok (.ifCond .eq 7, 3) := by decide +kernel
theorem dL_law_319 : decode cL_law 319 = .ok (.iconst 1, 1) := by decide +kernel
theorem dL_law_320 : decode cL_law 320 = .ok (.goto 4, 3) := by decide +kernel
theorem dL_law_323 : decode cL_law 323 = .ok (.iconst 0, 1) := by decide +kernel
theorem dL_law_324 : decode cL_law 324 = .ok (.istore 5, 2) := by decide +kernel
theorem dL_law_326 : decode cL_law 326 = .ok (.goto 57, 3) := by decide +kernel
theorem dL_law_329 : decode cL_law 329 = .ok (.iload 9, 2) := by decide +kernel
theorem dL_law_331 : decode cL_law 331 = .ok (.bipush 23, 2) := by decide +kernel
theorem dL_law_333 : decode cL_law 333 = .ok (.if_icmp .ge 18, 3) := by decide +kernel
theorem dL_law_336 : decode cL_law 336 = .ok (.aload_n 1, 1) := by decide +kernel
theorem dL_law_337 : decode cL_law 337 = .ok (.iload 8, 2) := by decide +kernel
theorem dL_law_339 : decode cL_law 339 = .ok (.iconst 3, 1) := by decide +kernel
theorem dL_law_340 : decode cL_law 340 = .ok (.invokestatic 153, 3) := by decide +kernel
theorem dL_law_343 : decode cL_law 343 = .ok (.invokestatic 180, 3) := by decide +kernel
theorem dL_law_346 : decode cL_law 346 = .ok (.istore 5, 2) := by decide +kernel
theorem dL_law_348 : decode cL_law 348 = .ok (.goto 35, 3) := by decide +kernel
theorem dL_law_351 : decode cL_law 351 = .ok (.iload 9, 2) := by decide +kernel
theorem dL_law_353 : decode cL_law 353 = .ok (.bipush 25, 2) := by decide +kernel
theorem dL_law_355 : decode cL_law 355 = .ok (.if_icmp .ge 15, 3) := by decide +kernel
theorem dL_law_358 : decode cL_law 358 = .ok (.aload_n 1, 1) := by decide +kernel
theorem dL_law_359 : decode cL_law 359 = .ok (.iload 8, 2) := by decide +kernel
theorem dL_law_361 : decode cL_law 361 = .ok (.iload_n 3, 1) := by decide +kernel
theorem dL_law_362 : decode cL_law 362 = .ok (.invokestatic 184, 3) := by decide +kernel
theorem dL_law_365 : decode cL_law 365 = .ok (.istore 5, 2) := by decide +kernel
theorem dL_law_367 : decode cL_law 367 = .ok (.goto 16, 3) := by decide +kernel
theorem dL_law_370 : decode cL_law 370 = .ok (.aload_n 1, 1) := by decide +kernel
theorem dL_law_371 : decode cL_law 371 = .ok (.bipush 8, 2) := by decide +kernel
theorem dL_law_373 : decode cL_law 373 = .ok (.iload_n 3, 1) := by decide +kernel
theorem dL_law_374 : decode cL_law 374 = .ok (.imul, 1) := by decide +kernel
theorem dL_law_375 : decode cL_law 375 = .ok (.iload 4, 2) := by decide +kernel
theorem dL_law_377 : decode cL_law 377 = .ok (.iadd, 1) := by decide +kernel
theorem dL_law_378 : decode cL_law 378 = .ok (.invokestatic 188, 3) := by decide +kernel
theorem dL_law_381 : decode cL_law 381 = .ok (.istore 5, 2) := by decide +kernel
theorem dL_law_383 : decode cL_law 383 = .ok (.iinc 6 1, 3) := by decide +kernel
theorem dL_law_386 : decode cL_law 386 = .ok (.goto (-182), 3) := by decide +kernel
theorem dL_law_389 : decode cL_law 389 = .ok (.iload 5, 2) := by decide +kernel
theorem dL_law_391 : decode cL_law 391 = .ok (.ifCond .eq 29, 3) := by decide +kernel
theorem dL_law_394 : decode cL_law 394 = .ok (.aload_n 1, 1) := by decide +kernel
theorem dL_law_395 : decode cL_law 395 = .ok (.bipush 8, 2) := by decide +kernel
theorem dL_law_397 : decode cL_law 397 = .ok (.iload_n 3, 1) := by decide +kernel
theorem dL_law_398 : decode cL_law 398 = .ok (.imul, 1) := by decide +kernel
theorem dL_law_399 : decode cL_law 399 = .ok (.iload 4, 2) := by decide +kernel
theorem dL_law_401 : decode cL_law 401 = .ok (.iadd, 1) := by decide +kernel
theorem dL_law_402 : decode cL_law 402 = .ok (.invokestatic 188, 3) := by decide +kernel
theorem dL_law_405 : decode cL_law 405 = .ok (.ifCond .eq 15, 3) := by decide +kernel
theorem dL_law_408 : decode cL_law 408 = .ok (.aload_n 1, 1) := by decide +kernel
theorem dL_law_409 : decode cL_law 409 = .ok (.iconst 0, 1) := by decide +kernel
theorem dL_law_410 : decode cL_law 410 = .ok (.invokestatic 180, 3) := by decide +kernel
theorem dL_law_413 : decode cL_law 413 = .ok (.ifCond .eq 7, 3) := by decide +kernel
theorem dL_law_416 : decode cL_law 416 = .ok (.iconst 1, 1) := by decide +kernel
theorem dL_law_417 : decode cL_law 417 = .ok (.goto 4, 3) := by decide +kernel
theorem dL_law_420 : decode cL_law 420 = .ok (.iconst 0, 1) := by decide +kernel
theorem dL_law_421 : decode cL_law 421 = .ok (.ireturn, 1) := by decide +kernel
