/-! decode rows of the law -/
theorem dL_law_0 : decode cL_law 0 = .ok (.new 16, 3) := by decide +kernel
theorem dL_law_3 : decode cL_law 3 = .ok (.dup, 1) := by decide +kernel
theorem dL_law_4 : decode cL_law 4 = .ok (.invokespecial 192, 3) := by decide +kernel
theorem dL_law_7 : decode cL_law 7 = .ok (.astore_n 1, 1) := by decide +kernel
theorem dL_law_8 : decode cL_law 8 = .ok (.iconst 3, 1) := by decide +kernel
theorem dL_law_9 : decode cL_law 9 = .ok (.aload_n 0, 1) := by decide +kernel
theorem dL_law_10 : decode cL_law 10 = .ok (.iconst 0, 1) := by decide +kernel
theorem dL_law_11 : decode cL_law 11 = .ok (.iconst 4, 1) := by decide +kernel
theorem dL_law_12 : decode cL_law 12 = .ok (.invokestatic 159, 3) := by decide +kernel
theorem dL_law_15 : decode cL_law 15 = .ok (.iadd, 1) := by decide +kernel
theorem dL_law_16 : decode cL_law 16 = .ok (.istore_n 2, 1) := by decide +kernel
theorem dL_law_17 : decode cL_law 17 = .ok (.iconst 1, 1) := by decide +kernel
theorem dL_law_18 : decode cL_law 18 = .ok (.istore_n 3, 1) := by decide +kernel
theorem dL_law_19 : decode cL_law 19 = .ok (.iconst 0, 1) := by decide +kernel
theorem dL_law_20 : decode cL_law 20 = .ok (.istore 4, 2) := by decide +kernel
theorem dL_law_22 : decode cL_law 22 = .ok (.iload 4, 2) := by decide +kernel
theorem dL_law_24 : decode cL_law 24 = .ok (.iload_n 2, 1) := by decide +kernel
theorem dL_law_25 : decode cL_law 25 = .ok (.if_icmp .ge 34, 3) := by decide +kernel
theorem dL_law_28 : decode cL_law 28 = .ok (.iload_n 3, 1) := by decide +kernel
theorem dL_law_29 : decode cL_law 29 = .ok (.ifCond .eq 22, 3) := by decide +kernel
theorem dL_law_32 : decode cL_law 32 = .ok (.aload_n 1, 1) := by decide +kernel
theorem dL_law_33 : decode cL_law 33 = .ok (.iconst 0, 1) := by decide +kernel
theorem dL_law_34 : decode cL_law 34 = .ok (.iconst 0, 1) := by decide +kernel
theorem dL_law_35 : decode cL_law 35 = .ok (.iconst 0, 1) := by decide +kernel
theorem dL_law_36 : decode cL_law 36 = .ok (.iconst 0, 1) := by decide +kernel
theorem dL_law_37 : decode cL_law 37 = .ok (.iconst 0, 1) := by decide +kernel
theorem dL_law_38 : decode cL_law 38 = .ok (.iconst 0, 1) := by decide +kernel
theorem dL_law_39 : decode cL_law 39 = .ok (.invokestatic 132, 3) := by decide +kernel
theorem dL_law_42 : decode cL_law 42 = .ok (.iload 4, 2) := by decide +kernel
theorem dL_law_44 : decode cL_law 44 = .ok (.if_icmp .ne 7, 3) := by decide +kernel
theorem dL_law_47 : decode cL_law 47 = .ok (.iconst 1, 1) := by decide +kernel
theorem dL_law_48 : decode cL_law 48 = .ok (.goto 4, 3) := by decide +kernel
theorem dL_law_51 : decode cL_law 51 = .ok (.iconst 0, 1) := by decide +kernel
theorem dL_law_52 : decode cL_law 52 = .ok (.istore_n 3, 1) := by decide +kernel
theorem dL_law_53 : decode cL_law 53 = .ok (.iinc 4 1, 3) := by decide +kernel
theorem dL_law_56 : decode cL_law 56 = .ok (.goto (-34), 3) := by decide +kernel
theorem dL_law_59 : decode cL_law 59 = .ok (.iconst 2, 1) := by decide +kernel
theorem dL_law_60 : decode cL_law 60 = .ok (.aload_n 0, 1) := by decide +kernel
theorem dL_law_61 : decode cL_law 61 = .ok (.iconst 1, 1) := by decide +kernel
theorem dL_law_62 : decode cL_law 62 = .ok (.bipush 9, 2) := by decide +kernel
theorem dL_law_64 : decode cL_law 64 = .ok (.invokestatic 159, 3) := by decide +kernel
theorem dL_law_67 : decode cL_law 67 = .ok (.iadd, 1) := by decide +kernel
theorem dL_law_68 : decode cL_law 68 = .ok (.istore 4, 2) := by decide +kernel
theorem dL_law_70 : decode cL_law 70 = .ok (.iload 4, 2) := by decide +kernel
theorem dL_law_72 : decode cL_law 72 = .ok (.anewarray 193, 3) := by decide +kernel
theorem dL_law_75 : decode cL_law 75 = .ok (.astore 5, 2) := by decide +kernel
theorem dL_law_77 : decode cL_law 77 = .ok (.iconst 0, 1) := by decide +kernel
theorem dL_law_78 : decode cL_law 78 = .ok (.istore 6, 2) := by decide +kernel
theorem dL_law_80 : decode cL_law 80 = .ok (.iload 6, 2) := by decide +kernel
theorem dL_law_82 : decode cL_law 82 = .ok (.iload 4, 2) := by decide +kernel
theorem dL_law_84 : decode cL_law 84 = .ok (.if_icmp .ge 52, 3) := by decide +kernel
theorem dL_law_87 : decode cL_law 87 = .ok (.iload_n 3, 1) := by decide +kernel
theorem dL_law_88 : decode cL_law 88 = .ok (.ifCond .eq 48, 3) := by decide +kernel
theorem dL_law_91 : decode cL_law 91 = .ok (.aload 5, 2) := by decide +kernel
theorem dL_law_93 : decode cL_law 93 = .ok (.iload 6, 2) := by decide +kernel
theorem dL_law_95 : decode cL_law 95 = .ok (.aload_n 1, 1) := by decide +kernel
theorem dL_law_96 : decode cL_law 96 = .ok (.aload_n 0, 1) := by decide +kernel
theorem dL_law_97 : decode cL_law 97 = .ok (.bipush 10, 2) := by decide +kernel
theorem dL_law_99 : decode cL_law 99 = .ok (.bipush 25, 2) := by decide +kernel
theorem dL_law_101 : decode cL_law 101 = .ok (.iload 6, 2) := by decide +kernel
theorem dL_law_103 : decode cL_law 103 = .ok (.imul, 1) := by decide +kernel
theorem dL_law_104 : decode cL_law 104 = .ok (.iadd, 1) := by decide +kernel
theorem dL_law_105 : decode cL_law 105 = .ok (.iload_n 2, 1) := by decide +kernel
theorem dL_law_106 : decode cL_law 106 = .ok (.iload 6, 2) := by decide +kernel
theorem dL_law_108 : decode cL_law 108 = .ok (.invokestatic 195, 3) := by decide +kernel
theorem dL_law_111 : decode cL_law 111 = .ok (.aastore, 1) := by decide +kernel
theorem dL_law_112 : decode cL_law 112 = .ok (.aload 5, 2) := by decide +kernel
theorem dL_law_114 : decode cL_law 114 = .ok (.iload 6, 2) := by decide +kernel
theorem dL_law_116 : decode cL_law 116 = .ok (.aaload, 1) := by decide +kernel
theorem dL_law_117 : decode cL_law 117 = .ok (.bipush 10, 2) := by decide +kernel
theorem dL_law_119 : decode cL_law 119 = .ok (.iaload, 1) := by decide +kernel
theorem dL_law_120 : decode cL_law 120 = .ok (.iconst 1, 1) := by decide +kernel
theorem dL_law_121 : decode cL_law 121 = .ok (.if_icmp .ne 7, 3) := by decide +kernel
theorem dL_law_124 : decode cL_law 124 = .ok (.iconst 1, 1) := by decide +kernel
theorem dL_law_125 : decode cL_law 125 = .ok (.goto 4, 3) := by decide +kernel
theorem dL_law_128 : decode cL_law 128 = .ok (.iconst 0, 1) := by decide +kernel
theorem dL_law_129 : decode cL_law 129 = .ok (.istore_n 3, 1) := by decide +kernel
theorem dL_law_130 : decode cL_law 130 = .ok (.iinc 6 1, 3) := by decide +kernel
theorem dL_law_133 : decode cL_law 133 = .ok (.goto (-53), 3) := by decide +kernel
theorem dL_law_136 : decode cL_law 136 = .ok (.bipush 6, 2) := by decide +kernel
theorem dL_law_138 : decode cL_law 138 = .ok (.newarray .int, 2) := by decide +kernel
theorem dL_law_140 : decode cL_law 140 = .ok (.astore 6, 2) := by decide +kernel
theorem dL_law_142 : decode cL_law 142 = .ok (.bipush 6, 2) := by decide +kernel
theorem dL_law_144 : decode cL_law 144 = .ok (.newarray .int, 2) := by decide +kernel
theorem dL_law_146 : decode cL_law 146 = .ok (.dup, 1) := by decide +kernel
theorem dL_law_147 : decode cL_law 147 = .ok (.iconst 0, 1) := by decide +kernel
theorem dL_law_148 : decode cL_law 148 = .ok (.bipush 102, 2) := by decide +kernel
theorem dL_law_150 : decode cL_law 150 = .ok (.iastore, 1) := by decide +kernel
theorem dL_law_151 : decode cL_law 151 = .ok (.dup, 1) := by decide +kernel
theorem dL_law_152 : decode cL_law 152 = .ok (.iconst 1, 1) := by decide +kernel
theorem dL_law_153 : decode cL_law 153 = .ok (.bipush 102, 2) := by decide +kernel
theorem dL_law_155 : decode cL_law 155 = .ok (.iastore, 1) := by decide +kernel
theorem dL_law_156 : decode cL_law 156 = .ok (.dup, 1) := by decide +kernel
theorem dL_law_157 : decode cL_law 157 = .ok (.iconst 2, 1) := by decide +kernel
theorem dL_law_158 : decode cL_law 158 = .ok (.bipush 102, 2) := by decide +kernel
theorem dL_law_160 : decode cL_law 160 = .ok (.iastore, 1) := by decide +kernel
theorem dL_law_161 : decode cL_law 161 = .ok (.dup, 1) := by decide +kernel
theorem dL_law_162 : decode cL_law 162 = .ok (.iconst 3, 1) := by decide +kernel
theorem dL_law_163 : decode cL_law 163 = .ok (.bipush 102, 2) := by decide +kernel
theorem dL_law_165 : decode cL_law 165 = .ok (.iastore, 1) := by decide +kernel
theorem dL_law_166 : decode cL_law 166 = .ok (.dup, 1) := by decide +kernel
theorem dL_law_167 : decode cL_law 167 = .ok (.iconst 4, 1) := by decide +kernel
theorem dL_law_168 : decode cL_law 168 = .ok (.bipush 102, 2) := by decide +kernel
theorem dL_law_170 : decode cL_law 170 = .ok (.iastore, 1) := by decide +kernel
theorem dL_law_171 : decode cL_law 171 = .ok (.dup, 1) := by decide +kernel
theorem dL_law_172 : decode cL_law 172 = .ok (.iconst 5, 1) := by decide +kernel
theorem dL_law_173 : decode cL_law 173 = .ok (.bipush 102, 2) := by decide +kernel
theorem dL_law_175 : decode cL_law 175 = .ok (.iastore, 1) := by decide +kernel
theorem dL_law_176 : decode cL_law 176 = .ok (.astore 7, 2) := by decide +kernel
theorem dL_law_178 : decode cL_law 178 = .ok (.iconst 0, 1) := by decide +kernel
theorem dL_law_179 : decode cL_law 179 = .ok (.istore 8, 2) := by decide +kernel
theorem dL_law_181 : decode cL_law 181 = .ok (.iconst 0, 1) := by decide +kernel
theorem dL_law_182 : decode cL_law 182 = .ok (.istore 9, 2) := by decide +kernel
theorem dL_law_184 : decode cL_law 184 = .ok (.iconst 0, 1) := by decide +kernel
theorem dL_law_185 : decode cL_law 185 = .ok (.istore 10, 2) := by decide +kernel
theorem dL_law_187 : decode cL_law 187 = .ok (.iconst 0, 1) := by decide +kernel
theorem dL_law_188 : decode cL_law 188 = .ok (.istore 11, 2) := by decide +kernel
theorem dL_law_190 : decode cL_law 190 = .ok (.iconst 0, 1) := by decide +kernel
theorem dL_law_191 : decode cL_law 191 = .ok (.istore 12, 2) := by decide +kernel
theorem dL_law_193 : decode cL_law 193 = .ok (.iconst 0, 1) := by decide +kernel
theorem dL_law_194 : decode cL_law 194 = .ok (.istore 13, 2) := by decide +kernel
theorem dL_law_196 : decode cL_law 196 = .ok (.iload 13, 2) := by decide +kernel
theorem dL_law_198 : decode cL_law 198 = .ok (.bipush 9, 2) := by decide +kernel
theorem dL_law_200 : decode cL_law 200 = .ok (.if_icmp .ge 526, 3) := by decide +kernel
theorem dL_law_203 : decode cL_law 203 = .ok (.iload_n 3, 1) := by decide +kernel
theorem dL_law_204 : decode cL_law 204 = .ok (.ifCond .eq 522, 3) := by decide +kernel
theorem dL_law_207 : decode cL_law 207 = .ok (.sipush 300, 3) := by decide +kernel
theorem dL_law_210 : decode cL_law 210 = .ok (.iconst 5, 1) := by decide +kernel
theorem dL_law_211 : decode cL_law 211 = .ok (.iload 13, 2) := by decide +kernel
theorem dL_law_213 : decode cL_law 213 = .ok (.imul, 1) := by decide +kernel
theorem dL_law_214 : decode cL_law 214 = .ok (.iadd, 1) := by decide +kernel
theorem dL_law_215 : decode cL_law 215 = .ok (.istore 14, 2) := by decide +kernel
theorem dL_law_217 : decode cL_law 217 = .ok (.aload_n 0, 1) := by decide +kernel
theorem dL_law_218 : decode cL_law 218 = .ok (.iload 14, 2) := by decide +kernel
theorem dL_law_220 : decode cL_law 220 = .ok (.iconst 1, 1) := by decide +kernel
theorem dL_law_221 : decode cL_law 221 = .ok (.iadd, 1) := by decide +kernel
theorem dL_law_222 : decode cL_law 222 = .ok (.iload_n 2, 1) := by decide +kernel
theorem dL_law_223 : decode cL_law 223 = .ok (.invokestatic 159, 3) := by decide +kernel
theorem dL_law_226 : decode cL_law 226 = .ok (.istore 15, 2) := by decide +kernel
theorem dL_law_228 : decode cL_law 228 = .ok (.aload_n 0, 1) := by decide +kernel
theorem dL_law_229 : decode cL_law 229 = .ok (.iload 14, 2) := by decide +kernel
theorem dL_law_231 : decode cL_law 231 = .ok (.iconst 5, 1) := by decide +kernel
theorem dL_law_232 : decode cL_law 232 = .ok (.invokestatic 159, 3) := by decide +kernel
theorem dL_law_235 : decode cL_law 235 = .ok (.istore 16, 2) := by decide +kernel
theorem dL_law_237 : decode cL_law 237 = .ok (.iconst 0, 1) := by decide +kernel
theorem dL_law_238 : decode cL_law 238 = .ok (.istore 17, 2) := by decide +kernel
theorem dL_law_240 : decode cL_law 240 = .ok (.iconst 0, 1) := by decide +kernel
theorem dL_law_241 : decode cL_law 241 = .ok (.istore 18, 2) := by decide +kernel
theorem dL_law_243 : decode cL_law 243 = .ok (.iload 18, 2) := by decide +kernel
theorem dL_law_245 : decode cL_law 245 = .ok (.iload 8, 2) := by decide +kernel
theorem dL_law_247 : decode cL_law 247 = .ok (.if_icmp .ge 31, 3) := by decide +kernel
theorem dL_law_250 : decode cL_law 250 = .ok (.iload 17, 2) := by decide +kernel
theorem dL_law_252 : decode cL_law 252 = .ok (.ifCond .ne 13, 3) := by decide +kernel
theorem dL_law_255 : decode cL_law 255 = .ok (.aload 6, 2) := by decide +kernel
theorem dL_law_257 : decode cL_law 257 = .ok (.iload 18, 2) := by decide +kernel
theorem dL_law_259 : decode cL_law 259 = .ok (.iaload, 1) := by decide +kernel
theorem dL_law_260 : decode cL_law 260 = .ok (.iload 15, 2) := by decide +kernel
theorem dL_law_262 : decode cL_law 262 = .ok (.if_icmp .ne 7, 3) := by decide +kernel
theorem dL_law_265 : decode cL_law 265 = .ok (.iconst 1, 1) := by decide +kernel
theorem dL_law_266 : decode cL_law 266 = .ok (.goto 4, 3) := by decide +kernel
theorem dL_law_269 : decode cL_law 269 = .ok (.iconst 0, 1) := by decide +kernel
theorem dL_law_270 : decode cL_law 270 = .ok (.istore 17, 2) := by decide +kernel
theorem dL_law_272 : decode cL_law 272 = .ok (.iinc 18 1, 3) := by decide +kernel
theorem dL_law_275 : decode cL_law 275 = .ok (.goto (-32), 3) := by decide +kernel
theorem dL_law_278 : decode cL_law 278 = .ok (.iload 16, 2) := by decide +kernel
theorem dL_law_280 : decode cL_law 280 = .ok (.ifCond .ne 61, 3) := by decide +kernel
theorem dL_law_283 : decode cL_law 283 = .ok (.aload_n 1, 1) := by decide +kernel
theorem dL_law_284 : decode cL_law 284 = .ok (.bipush 9, 2) := by decide +kernel
theorem dL_law_286 : decode cL_law 286 = .ok (.iload 15, 2) := by decide +kernel
theorem dL_law_288 : decode cL_law 288 = .ok (.bipush 99, 2) := by decide +kernel
theorem dL_law_290 : decode cL_law 290 = .ok (.bipush 99, 2) := by decide +kernel
theorem dL_law_292 : decode cL_law 292 = .ok (.iconst 0, 1) := by decide +kernel
theorem dL_law_293 : decode cL_law 293 = .ok (.iconst 0, 1) := by decide +kernel
theorem dL_law_294 : decode cL_law 294 = .ok (.invokestatic 132, 3) := by decide +kernel
theorem dL_law_297 : decode cL_law 297 = .ok (.istore 18, 2) := by decide +kernel
theorem dL_law_299 : decode cL_law 299 = .ok (.iload 18, 2) := by decide +kernel
theorem dL_law_301 : decode cL_law 301 = .ok (.iload 17, 2) := by decide +kernel
theorem dL_law_303 : decode cL_law 303 = .ok (.ifCond .eq 9, 3) := by decide +kernel
theorem dL_law_306 : decode cL_law 306 = .ok (.sipush (-2003), 3) := by decide +kernel
theorem dL_law_309 : decode cL_law 309 = .ok (.goto 5, 3) := by decide +kernel
theorem dL_law_312 : decode cL_law 312 = .ok (.iload 8, 2) := by decide +kernel
theorem dL_law_314 : decode cL_law 314 = .ok (.if_icmp .ne 7, 3) := by decide +kernel
theorem dL_law_317 : decode cL_law 317 = .ok (.iconst 1, 1) := by decide +kernel
theorem dL_law_318 : decode cL_law 318 = .ok (.goto 4, 3) := by decide +kernel
theorem dL_law_321 : decode cL_law 321 = .ok (.iconst 0, 1) := by decide +kernel
theorem dL_law_322 : decode cL_law 322 = .ok (.istore_n 3, 1) := by decide +kernel
theorem dL_law_323 : decode cL_law 323 = .ok (.iload 18, 2) := by decide +kernel
theorem dL_law_325 : decode cL_law 325 = .ok (.ifCond .lt 13, 3) := by decide +kernel
theorem dL_law_328 : decode cL_law 328 = .ok (.aload 6, 2) := by decide +kernel
theorem dL_law_330 : decode cL_law 330 = .ok (.iload 8, 2) := by decide +kernel
theorem dL_law_332 : decode cL_law 332 = .ok (.iload 15, 2) := by decide +kernel
theorem dL_law_334 : decode cL_law 334 = .ok (.iastore, 1) := by decide +kernel
theorem dL_law_335 : decode cL_law 335 = .ok (.iinc 8 1, 3) := by decide +kernel
theorem dL_law_338 : decode cL_law 338 = .ok (.goto 268, 3) := by decide +kernel
theorem dL_law_341 : decode cL_law 341 = .ok (.iload 16, 2) := by decide +kernel
theorem dL_law_343 : decode cL_law 343 = .ok (.iconst 3, 1) := by decide +kernel
theorem dL_law_344 : decode cL_law 344 = .ok (.if_icmp .ge 108, 3) := by decide +kernel
theorem dL_law_347 : decode cL_law 347 = .ok (.iload 8, 2) := by decide +kernel
theorem dL_law_349 : decode cL_law 349 = .ok (.ifCond .le 103, 3) := by decide +kernel
theorem dL_law_352 : decode cL_law 352 = .ok (.aload_n 0, 1) := by decide +kernel
theorem dL_law_353 : decode cL_law 353 = .ok (.iload 14, 2) := by decide +kernel
theorem dL_law_355 : decode cL_law 355 = .ok (.iconst 2, 1) := by decide +kernel
theorem dL_law_356 : decode cL_law 356 = .ok (.iadd, 1) := by decide +kernel
theorem dL_law_357 : decode cL_law 357 = .ok (.iload 8, 2) := by decide +kernel
theorem dL_law_359 : decode cL_law 359 = .ok (.invokestatic 159, 3) := by decide +kernel
theorem dL_law_362 : decode cL_law 362 = .ok (.istore 18, 2) := by decide +kernel
theorem dL_law_364 : decode cL_law 364 = .ok (.ldc 199, 2) := by decide +kernel
theorem dL_law_366 : decode cL_law 366 = .ok (.aload_n 0, 1) := by decide +kernel
theorem dL_law_367 : decode cL_law 367 = .ok (.iload 14, 2) := by decide +kernel
theorem dL_law_369 : decode cL_law 369 = .ok (.iconst 3, 1) := by decide +kernel
theorem dL_law_370 : decode cL_law 370 = .ok (.iadd, 1) := by decide +kernel
theorem dL_law_371 : decode cL_law 371 = .ok (.iconst 5, 1) := by decide +kernel
theorem dL_law_372 : decode cL_law 372 = .ok (.invokestatic 159, 3) := by decide +kernel
theorem dL_law_375 : decode cL_law 375 = .ok (.invokevirtual 201, 3) := by decide +kernel
theorem dL_law_378 : decode cL_law 378 = .ok (.istore 19, 2) := by decide +kernel
theorem dL_law_380 : decode cL_law 380 = .ok (.aload_n 1, 1) := by decide +kernel
theorem dL_law_381 : decode cL_law 381 = .ok (.bipush 10, 2) := by decide +kernel
theorem dL_law_383 : decode cL_law 383 = .ok (.iload 18, 2) := by decide +kernel
theorem dL_law_385 : decode cL_law 385 = .ok (.iload 19, 2) := by decide +kernel
theorem dL_law_387 : decode cL_law 387 = .ok (.iconst 0, 1) := by decide +kernel
theorem dL_law_388 : decode cL_law 388 = .ok (.iconst 0, 1) := by decide +kernel
theorem dL_law_389 : decode cL_law 389 = .ok (.iconst 0, 1) := by decide +kernel
theorem dL_law_390 : decode cL_law 390 = .ok (.invokestatic 132, 3) := by decide +kernel
theorem dL_law_393 : decode cL_law 393 = .ok (.istore 20, 2) := by decide +kernel
theorem dL_law_395 : decode cL_law 395 = .ok (.iload 20, 2) := by decide +kernel
theorem dL_law_397 : decode cL_law 397 = .ok (.aload 7, 2) := by decide +kernel
theorem dL_law_399 : decode cL_law 399 = .ok (.iload 18, 2) := by decide +kernel
theorem dL_law_401 : decode cL_law 401 = .ok (.iaload, 1) := by decide +kernel
theorem dL_law_402 : decode cL_law 402 = .ok (.bipush 114, 2) := by decide +kernel
theorem dL_law_404 : decode cL_law 404 = .ok (.if_icmp .ne 9, 3) := by decide +kernel
theorem dL_law_407 : decode cL_law 407 = .ok (.sipush (-2003), 3) := by decide +kernel
theorem dL_law_410 : decode cL_law 410 = .ok (.goto 8, 3) := by decide +kernel
theorem dL_law_413 : decode cL_law 413 = .ok (.aload 7, 2) := by decide +kernel
theorem dL_law_415 : decode cL_law 415 = .ok (.iload 18, 2) := by decide +kernel
theorem dL_law_417 : decode cL_law 417 = .ok (.iaload, 1) := by decide +kernel
theorem dL_law_418 : decode cL_law 418 = .ok (.if_icmp .ne 7, 3) := by decide +kernel
theorem dL_law_421 : decode cL_law 421 = .ok (.iconst 1, 1) := by decide +kernel
theorem dL_law_422 : decode cL_law 422 = .ok (.goto 4, 3) := by decide +kernel
theorem dL_law_425 : decode cL_law 425 = .ok (.iconst 0, 1) := by decide +kernel
theorem dL_law_426 : decode cL_law 426 = .ok (.istore_n 3, 1) := by decide +kernel
theorem dL_law_427 : decode cL_law 427 = .ok (.aload 7, 2) := by decide +kernel
theorem dL_law_429 : decode cL_law 429 = .ok (.iload 18, 2) := by decide +kernel
theorem dL_law_431 : decode cL_law 431 = .ok (.aload 7, 2) := by decide +kernel
theorem dL_law_433 : decode cL_law 433 = .ok (.iload 18, 2) := by decide +kernel
theorem dL_law_435 : decode cL_law 435 = .ok (.iaload, 1) := by decide +kernel
theorem dL_law_436 : decode cL_law 436 = .ok (.bipush 114, 2) := by decide +kernel
theorem dL_law_438 : decode cL_law 438 = .ok (.if_icmp .ne 8, 3) := by decide +kernel
theorem dL_law_441 : decode cL_law 441 = .ok (.bipush 114, 2) := by decide +kernel
theorem dL_law_443 : decode cL_law 443 = .ok (.goto 5, 3) := by decide +kernel
theorem dL_law_446 : decode cL_law 446 = .ok (.iload 19, 2) := by decide +kernel
theorem dL_law_448 : decode cL_law 448 = .ok (.iastore, 1) := by decide +kernel
theorem dL_law_449 : decode cL_law 449 = .ok (.goto 157, 3) := by decide +kernel
theorem dL_law_452 : decode cL_law 452 = .ok (.iload 16, 2) := by decide +kernel
theorem dL_law_454 : decode cL_law 454 = .ok (.iconst 3, 1) := by decide +kernel
theorem dL_law_455 : decode cL_law 455 = .ok (.if_icmp .ne 111, 3) := by decide +kernel
theorem dL_law_458 : decode cL_law 458 = .ok (.aload_n 0, 1) := by decide +kernel
theorem dL_law_459 : decode cL_law 459 = .ok (.iload 14, 2) := by decide +kernel
theorem dL_law_461 : decode cL_law 461 = .ok (.iconst 2, 1) := by decide +kernel
theorem dL_law_462 : decode cL_law 462 = .ok (.iadd, 1) := by decide +kernel
theorem dL_law_463 : decode cL_law 463 = .ok (.iconst 2, 1) := by decide +kernel
theorem dL_law_464 : decode cL_law 464 = .ok (.invokestatic 159, 3) := by decide +kernel
theorem dL_law_467 : decode cL_law 467 = .ok (.ifCond .ne 7, 3) := by decide +kernel
theorem dL_law_470 : decode cL_law 470 = .ok (.iconst 1, 1) := by decide +kernel
theorem dL_law_471 : decode cL_law 471 = .ok (.goto 4, 3) := by decide +kernel
theorem dL_law_474 : decode cL_law 474 = .ok (.iconst 0, 1) := by decide +kernel
theorem dL_law_475 : decode cL_law 475 = .ok (.istore 18, 2) := by decide +kernel
theorem dL_law_477 : decode cL_law 477 = .ok (.iload 18, 2) := by decide +kernel
theorem dL_law_479 : decode cL_law 479 = .ok (.ifCond .eq 13, 3) := by decide +kernel
theorem dL_law_482 : decode cL_law 482 = .ok (.iload 11, 2) := by decide +kernel
theorem dL_law_484 : decode cL_law 484 = .ok (.iconst 1, 1) := by decide +kernel
theorem dL_law_485 : decode cL_law 485 = .ok (.iload 15, 2) := by decide +kernel
theorem dL_law_487 : decode cL_law 487 = .ok (.ishl, 1) := by decide +kernel
theorem dL_law_488 : decode cL_law 488 = .ok (.ior, 1) := by decide +kernel
theorem dL_law_489 : decode cL_law 489 = .ok (.goto 12, 3) := by decide +kernel
theorem dL_law_492 : decode cL_law 492 = .ok (.iload 11, 2) := by decide +kernel
theorem dL_law_494 : decode cL_law 494 = .ok (.iconst 1, 1) := by decide +kernel
theorem dL_law_495 : decode cL_law 495 = .ok (.iload 15, 2) := by decide +kernel
theorem dL_law_497 : decode cL_law 497 = .ok (.ishl, 1) := by decide +kernel
theorem dL_law_498 : decode cL_law 498 = .ok (.iconst (-1), 1) := by decide +kernel
theorem dL_law_499 : decode cL_law 499 = .ok (.ixor, 1) := by decide +kernel
theorem dL_law_500 : decode cL_law 500 = .ok (.iand, 1) := by decide +kernel
theorem dL_law_501 : decode cL_law 501 = .ok (.istore 11, 2) := by decide +kernel
theorem dL_law_503 : decode cL_law 503 = .ok (.iload 18, 2) := by decide +kernel
theorem dL_law_505 : decode cL_law 505 = .ok (.ifCond .eq 15, 3) := by decide +kernel
theorem dL_law_508 : decode cL_law 508 = .ok (.iload 12, 2) := by decide +kernel
theorem dL_law_510 : decode cL_law 510 = .ok (.iconst 1, 1) := by decide +kernel
theorem dL_law_511 : decode cL_law 511 = .ok (.iload 15, 2) := by decide +kernel
theorem dL_law_513 : decode cL_law 513 = .ok (.ishl, 1) := by decide +kernel
theorem dL_law_514 : decode cL_law 514 = .ok (.iconst (-1), 1) := by decide +kernel
theorem dL_law_515 : decode cL_law 515 = .ok (.ixor, 1) := by decide +kernel
theorem dL_law_516 : decode cL_law 516 = .ok (.iand, 1) := by decide +kernel
theorem dL_law_517 : decode cL_law 517 = .ok (.goto 10, 3) := by decide +kernel
theorem dL_law_520 : decode cL_law 520 = .ok (.iload 12, 2) := by decide +kernel
theorem dL_law_522 : decode cL_law 522 = .ok (.iconst 1, 1) := by decide +kernel
theorem dL_law_523 : decode cL_law 523 = .ok (.iload 15, 2) := by decide +kernel
theorem dL_law_525 : decode cL_law 525 = .ok (.ishl, 1) := by decide +kernel
theorem dL_law_526 : decode cL_law 526 = .ok (.ior, 1) := by decide +kernel
theorem dL_law_527 : decode cL_law 527 = .ok (.istore 12, 2) := by decide +kernel
theorem dL_law_529 : decode cL_law 529 = .ok (.aload_n 1, 1) := by decide +kernel
theorem dL_law_530 : decode cL_law 530 = .ok (.bipush 11, 2) := by decide +kernel
theorem dL_law_532 : decode cL_law 532 = .ok (.iload 15, 2) := by decide +kernel
theorem dL_law_534 : decode cL_law 534 = .ok (.iconst (-1), 1) := by decide +kernel
theorem dL_law_535 : decode cL_law 535 = .ok (.bipush 8, 2) := by decide +kernel
theorem dL_law_537 : decode cL_law 537 = .ok (.iload 18, 2) := by decide +kernel
theorem dL_law_539 : decode cL_law 539 = .ok (.invokestatic 100, 3) := by decide +kernel
theorem dL_law_542 : decode cL_law 542 = .ok (.iconst 0, 1) := by decide +kernel
theorem dL_law_543 : decode cL_law 543 = .ok (.invokestatic 132, 3) := by decide +kernel
theorem dL_law_546 : decode cL_law 546 = .ok (.iload 11, 2) := by decide +kernel
theorem dL_law_548 : decode cL_law 548 = .ok (.iload 12, 2) := by decide +kernel
theorem dL_law_550 : decode cL_law 550 = .ok (.ior, 1) := by decide +kernel
theorem dL_law_551 : decode cL_law 551 = .ok (.invokestatic 135, 3) := by decide +kernel
theorem dL_law_554 : decode cL_law 554 = .ok (.if_icmp .ne 7, 3) := by decide +kernel
theorem dL_law_557 : decode cL_law 557 = .ok (.iconst 1, 1) := by decide +kernel
theorem dL_law_558 : decode cL_law 558 = .ok (.goto 4, 3) := by decide +kernel
theorem dL_law_561 : decode cL_law 561 = .ok (.iconst 0, 1) := by decide +kernel
theorem dL_law_562 : decode cL_law 562 = .ok (.istore_n 3, 1) := by decide +kernel
theorem dL_law_563 : decode cL_law 563 = .ok (.goto 43, 3) := by decide +kernel
theorem dL_law_566 : decode cL_law 566 = .ok (.iload 16, 2) := by decide +kernel
theorem dL_law_568 : decode cL_law 568 = .ok (.iconst 4, 1) := by decide +kernel
theorem dL_law_569 : decode cL_law 569 = .ok (.if_icmp .ne 37, 3) := by decide +kernel
theorem dL_law_572 : decode cL_law 572 = .ok (.aload_n 1, 1) := by decide +kernel
theorem dL_law_573 : decode cL_law 573 = .ok (.bipush 12, 2) := by decide +kernel
theorem dL_law_575 : decode cL_law 575 = .ok (.iconst 0, 1) := by decide +kernel
theorem dL_law_576 : decode cL_law 576 = .ok (.iconst 0, 1) := by decide +kernel
theorem dL_law_577 : decode cL_law 577 = .ok (.iconst 0, 1) := by decide +kernel
theorem dL_law_578 : decode cL_law 578 = .ok (.iconst 0, 1) := by decide +kernel
theorem dL_law_579 : decode cL_law 579 = .ok (.iconst 0, 1) := by decide +kernel
theorem dL_law_580 : decode cL_law 580 = .ok (.invokestatic 132, 3) := by decide +kernel
theorem dL_law_583 : decode cL_law 583 = .ok (.iload 11, 2) := by decide +kernel
theorem dL_law_585 : decode cL_law 585 = .ok (.iload 12, 2) := by decide +kernel
theorem dL_law_587 : decode cL_law 587 = .ok (.ior, 1) := by decide +kernel
theorem dL_law_588 : decode cL_law 588 = .ok (.invokestatic 135, 3) := by decide +kernel
theorem dL_law_591 : decode cL_law 591 = .ok (.if_icmp .ne 7, 3) := by decide +kernel
theorem dL_law_594 : decode cL_law 594 = .ok (.iconst 1, 1) := by decide +kernel
theorem dL_law_595 : decode cL_law 595 = .ok (.goto 4, 3) := by decide +kernel
theorem dL_law_598 : decode cL_law 598 = .ok (.iconst 0, 1) := by decide +kernel
theorem dL_law_599 : decode cL_law 599 = .ok (.istore_n 3, 1) := by decide +kernel
theorem dL_law_600 : decode cL_law 600 = .ok (.iconst 0, 1) := by decide +kernel
theorem dL_law_601 : decode cL_law 601 = .ok (.istore 11, 2) := by decide +kernel
theorem dL_law_603 : decode cL_law 603 = .ok (.iconst 0, 1) := by decide +kernel
theorem dL_law_604 : decode cL_law 604 = .ok (.istore 12, 2) := by decide +kernel
theorem dL_law_606 : decode cL_law 606 = .ok (.iconst 0, 1) := by decide +kernel
theorem dL_law_607 : decode cL_law 607 = .ok (.istore 9, 2) := by decide +kernel
theorem dL_law_609 : decode cL_law 609 = .ok (.iconst 0, 1) := by decide +kernel
theorem dL_law_610 : decode cL_law 610 = .ok (.istore 10, 2) := by decide +kernel
theorem dL_law_612 : decode cL_law 612 = .ok (.iconst 0, 1) := by decide +kernel
theorem dL_law_613 : decode cL_law 613 = .ok (.istore 18, 2) := by decide +kernel
theorem dL_law_615 : decode cL_law 615 = .ok (.iload 18, 2) := by decide +kernel
theorem dL_law_617 : decode cL_law 617 = .ok (.iload 8, 2) := by decide +kernel
theorem dL_law_619 : decode cL_law 619 = .ok (.if_icmp .ge 61, 3) := by decide +kernel
theorem dL_law_622 : decode cL_law 622 = .ok (.iload 9, 2) := by decide +kernel
theorem dL_law_624 : decode cL_law 624 = .ok (.aload 7, 2) := by decide +kernel
theorem dL_law_626 : decode cL_law 626 = .ok (.iload 18, 2) := by decide +kernel
theorem dL_law_628 : decode cL_law 628 = .ok (.iaload, 1) := by decide +kernel
theorem dL_law_629 : decode cL_law 629 = .ok (.bipush 116, 2) := by decide +kernel
theorem dL_law_631 : decode cL_law 631 = .ok (.if_icmp .ne 13, 3) := by decide +kernel
theorem dL_law_634 : decode cL_law 634 = .ok (.iconst 1, 1) := by decide +kernel
theorem dL_law_635 : decode cL_law 635 = .ok (.aload 6, 2) := by decide +kernel
theorem dL_law_637 : decode cL_law 637 = .ok (.iload 18, 2) := by decide +kernel
theorem dL_law_639 : decode cL_law 639 = .ok (.iaload, 1) := by decide +kernel
theorem dL_law_640 : decode cL_law 640 = .ok (.ishl, 1) := by decide +kernel
theorem dL_law_641 : decode cL_law 641 = .ok (.goto 4, 3) := by decide +kernel
theorem dL_law_644 : decode cL_law 644 = .ok (.iconst 0, 1) := by decide +kernel
theorem dL_law_645 : decode cL_law 645 = .ok (.ior, 1) := by decide +kernel
theorem dL_law_646 : decode cL_law 646 = .ok (.istore 9, 2) := by decide +kernel
theorem dL_law_648 : decode cL_law 648 = .ok (.iload 10, 2) := by decide +kernel
theorem dL_law_650 : decode cL_law 650 = .ok (.aload 7, 2) := by decide +kernel
theorem dL_law_652 : decode cL_law 652 = .ok (.iload 18, 2) := by decide +kernel
theorem dL_law_654 : decode cL_law 654 = .ok (.iaload, 1) := by decide +kernel
theorem dL_law_655 : decode cL_law 655 = .ok (.bipush 117, 2) := by decide +kernel
theorem dL_law_657 : decode cL_law 657 = .ok (.if_icmp .ne 13, 3) := by decide +kernel
theorem dL_law_660 : decode cL_law 660 = .ok (.iconst 1, 1) := by decide +kernel
theorem dL_law_661 : decode cL_law 661 = .ok (.aload 6, 2) := by decide +kernel
theorem dL_law_663 : decode cL_law 663 = .ok (.iload 18, 2) := by decide +kernel
theorem dL_law_665 : decode cL_law 665 = .ok (.iaload, 1) := by decide +kernel
theorem dL_law_666 : decode cL_law 666 = .ok (.ishl, 1) := by decide +kernel
theorem dL_law_667 : decode cL_law 667 = .ok (.goto 4, 3) := by decide +kernel
theorem dL_law_670 : decode cL_law 670 = .ok (.iconst 0, 1) := by decide +kernel
theorem dL_law_671 : decode cL_law 671 = .ok (.ior, 1) := by decide +kernel
theorem dL_law_672 : decode cL_law 672 = .ok (.istore 10, 2) := by decide +kernel
theorem dL_law_674 : decode cL_law 674 = .ok (.iinc 18 1, 3) := by decide +kernel
theorem dL_law_677 : decode cL_law 677 = .ok (.goto (-62), 3) := by decide +kernel
theorem dL_law_680 : decode cL_law 680 = .ok (.iload_n 3, 1) := by decide +kernel
theorem dL_law_681 : decode cL_law 681 = .ok (.ifCond .eq 37, 3) := by decide +kernel
theorem dL_law_684 : decode cL_law 684 = .ok (.iload 13, 2) := by decide +kernel
theorem dL_law_686 : decode cL_law 686 = .ok (.iconst 3, 1) := by decide +kernel
theorem dL_law_687 : decode cL_law 687 = .ok (.irem, 1) := by decide +kernel
theorem dL_law_688 : decode cL_law 688 = .ok (.iconst 2, 1) := by decide +kernel
theorem dL_law_689 : decode cL_law 689 = .ok (.if_icmp .ne 25, 3) := by decide +kernel
theorem dL_law_692 : decode cL_law 692 = .ok (.aload_n 1, 1) := by decide +kernel
theorem dL_law_693 : decode cL_law 693 = .ok (.aload 5, 2) := by decide +kernel
theorem dL_law_695 : decode cL_law 695 = .ok (.iload 4, 2) := by decide +kernel
theorem dL_law_697 : decode cL_law 697 = .ok (.iload_n 2, 1) := by decide +kernel
theorem dL_law_698 : decode cL_law 698 = .ok (.aload 6, 2) := by decide +kernel
theorem dL_law_700 : decode cL_law 700 = .ok (.iload 9, 2) := by decide +kernel
theorem dL_law_702 : decode cL_law 702 = .ok (.iload 10, 2) := by decide +kernel
theorem dL_law_704 : decode cL_law 704 = .ok (.iload 11, 2) := by decide +kernel
theorem dL_law_706 : decode cL_law 706 = .ok (.iload 12, 2) := by decide +kernel
theorem dL_law_708 : decode cL_law 708 = .ok (.invokestatic 207, 3) := by decide +kernel
theorem dL_law_711 : decode cL_law 711 = .ok (.ifCond .eq 7, 3) := by decide +kernel
theorem dL_law_714 : decode cL_law 714 = .ok (.iconst 1, 1) := by decide +kernel
theorem dL_law_715 : decode cL_law 715 = .ok (.goto 4, 3) := by decide +kernel
theorem dL_law_718 : decode cL_law 718 = .ok (.iconst 0, 1) := by decide +kernel
theorem dL_law_719 : decode cL_law 719 = .ok (.istore_n 3, 1) := by decide +kernel
theorem dL_law_720 : decode cL_law 720 = .ok (.iinc 13 1, 3) := by decide +kernel
theorem dL_law_723 : decode cL_law 723 = .ok (.goto (-527), 3) := by decide +kernel
theorem dL_law_726 : decode cL_law 726 = .ok (.iload_n 3, 1) := by decide +kernel
theorem dL_law_727 : decode cL_law 727 = .ok (.ireturn, 1) := by decide +kernel
/-! the law, 5: one round of nine -/
def wB (ty : Nat → ClassId) (X : Nat → Nat) (g0 : Nat) (e0 : Nat) (z9_0 : Int32) (z9_1 : Int32) (z9_2 : Int32) (z9_3 : Int32) (z9_4 : Nat → Int32) (z9_5 : Nat → Option Nat) (z9_6 : Nat → Int32) (z9_7 : Nat → Int32) (z9_8 : Nat → Int32) (z9_9 : Nat → Int32) (z9_10 : Int32) (z9_11 : Int32) (z9_12 : Int32) (z9_13 : Int32) (z9_14 : Int32) (z9_15 : Int32) (z9_16 : Int32) (z9_17 : Int32) (z9_18 : Int32) (z9_19 : Int32) (z9_20 : Nat → Int64) (z9_21 : Nat → Int64) (z9_22 : Nat → Int32) (z9_23 : Nat → Int32) (z9_24 : Nat → Int32) (z9_25 : Nat → Int32) (z9_26 : Nat → Int32) (z9_27 : Nat → Int32) (z9_28 : Int32) (z9_29 : Int32) (z9_30 : Int32) (z9_31 : Int32) (z9_32 : Int32) (z9_33 : Int32) (z9_34 : Int32) (z9_35 : Int32) (z9_36 : Int32) (z9_37 : Int32) (z9_38 : Nat → Int32) (z9_39 : Nat → Int32) (z9_40 : Nat → Int32) (z9_41 : Nat → Int32) (z9_42 : Nat → Int32) (z9_43 : Nat → Int32) (z9_44 : Int32) (z9_45 : Nat → Int32) (z9_46 : Nat → Int32) (z9_47 : Nat → Int32) (z9_48 : Nat → Int32) (z9_49 : Nat → Int32) (z9_50 : Nat → Int32) (z9_51 : Nat → Int32) (z9_52 : Nat → Int32) (z9_53 : Nat → Int32) (z9_54 : Nat → Int32) (z9_55 : Nat → Int64) (z9_56 : Nat → Int64) (z9_57 : Int32) (z9_58 : Int32) (z9_59 : Nat → Int32) (z9_60 : Nat → Int64) (z9_61 : Nat) (z9_62 : Nat → Option Nat) (z9_63 : Nat → Int32) (t0 : Nat) (tf : Nat → Int32) : va_W := [((X 0), .inr (12, [.ref (X 1), .ref (X 8), .ref (X 20), .ref (X 39), .ref (X 41), .ref (X 43), .ref (X 45)])), ((X 1), .inr (8, [.ref (X 2), .int z9_0, .ref (X 3), .int z9_1, .ref (X 4), .ref (X 5), .int z9_2, .ref (X 6), .ref (X 7), .int z9_3])), ((X 2), .inl (ty 0, 6, .inl z9_4)), ((X 3), .inl (ty 4, 20, .inr (.inr (.inr (.inr z9_5))))), ((X 4), .inl (ty 0, 7, .inl z9_6)), ((X 5), .inl (ty 0, 7, .inl z9_7)), ((X 6), .inl (ty 0, 6, .inl z9_8)), ((X 7), .inl (ty 2, 6, .inl z9_9)), ((X 8), .inr (5, [.ref (X 1), .ref (X 9), .ref (X 10), .ref (X 12), .ref (X 14), .int z9_10, .ref (X 15), .ref (X 16), .ref (X 17), .int z9_11, .ref (X 18), .ref (X 19), .int z9_12, .int z9_13, .int z9_14, .int z9_15])), ((X 9), .inr (4, [.int z9_16, .int z9_17, .int z9_18, .int z9_19])), ((X 10), .inr (3, [.ref (X 11)])), ((X 11), .inl (ty 1, 6, .inr (.inl z9_20))), ((X 12), .inr (3, [.ref (X 13)])), ((X 13), .inl (ty 1, 6, .inr (.inl z9_21))), ((X 14), .inl (ty 0, 16, .inl z9_22)), ((X 15), .inl (ty 0, 300, .inl z9_23)), ((X 16), .inl (ty 0, 300, .inl z9_24)), ((X 17), .inl (ty 0, 20, .inl z9_25)), ((X 18), .inl (ty 0, 384, .inl z9_26)), ((X 19), .inl (ty 0, 384, .inl z9_27)), ((X 20), .inr (11, [.ref (X 1), .ref (X 8), .ref (X 21), .ref (X 28), .ref (X 35), .int z9_28, .ref (X 36), .ref (X 37), .ref (X 38), .int z9_29, .int z9_30, .int z9_31, .int z9_32, .int z9_33, .int z9_34, .int z9_35, .int z9_36])), ((X 21), .inr (9, [.ref (X 22), .ref (X 23), .ref (X 24), .ref (X 25), .ref (X 26), .ref (X 27), .int z9_37])), ((X 22), .inl (ty 0, 300, .inl z9_38)), ((X 23), .inl (ty 0, 300, .inl z9_39)), ((X 24), .inl (ty 0, 300, .inl z9_40)), ((X 25), .inl (ty 0, 300, .inl z9_41)), ((X 26), .inl (ty 0, 300, .inl z9_42)), ((X 27), .inl (ty 0, 300, .inl z9_43)), ((X 28), .inr (9, [.ref (X 29), .ref (X 30), .ref (X 31), .ref (X 32), .ref (X 33), .ref (X 34), .int z9_44])), ((X 29), .inl (ty 0, 300, .inl z9_45)), ((X 30), .inl (ty 0, 300, .inl z9_46)), ((X 31), .inl (ty 0, 300, .inl z9_47)), ((X 32), .inl (ty 0, 300, .inl z9_48)), ((X 33), .inl (ty 0, 300, .inl z9_49)), ((X 34), .inl (ty 0, 300, .inl z9_50)), ((X 35), .inl (ty 0, 300, .inl z9_51)), ((X 36), .inl (ty 0, 6, .inl z9_52)), ((X 37), .inl (ty 0, 6, .inl z9_53)), ((X 38), .inl (ty 0, 26, .inl z9_54)), ((X 41), .inr (3, [.ref (X 42)])), ((X 42), .inl (ty 1, 6, .inr (.inl z9_55))), ((X 43), .inr (3, [.ref (X 44)])), ((X 44), .inl (ty 1, 6, .inr (.inl z9_56))), ((X 45), .inr (2, [.ref (X 46), .ref (X 47), .int z9_57, .int z9_58])), ((X 46), .inl (ty 0, 64, .inl z9_59)), ((X 47), .inl (ty 1, 192, .inr (.inl z9_60))), ((X 39), .inr (7, [.ref (X 8), .ref (X 40)])), ((X 40), .inl (ty 1, 2304, .inr (.inl (fun _ => 0)))), (g0, .inl (ty 6, z9_61, .inr (.inr (.inr (.inr z9_62))))), (e0, .inl (ty 0, 6, .inl z9_63)), (t0, .inl (ty 0, 6, .inl tf))]
def LG (p : Program) (l : Launch) (e : Env) (s : State) (m : MethodId) (below : List Frame) (meth : Method) (c : Code) (b : Nat) (D : va_G) (ty : Nat → ClassId) (A : Nat → Prop) (X : Nat → Nat) (g0 e0 t0 n many : Nat) (pp : pT) (rf gf : Nat → Option Nat) (pl tp tq tf : Nat → Int32) (pc cs ss nb : Nat) (kq : Prop) (k : Nat) : Prop := ∀ (ne : Nat) (x : Nat → Nat) (ea es ef : Nat → Int32) (a5 a6 : Int32) (hn kn on cu pu gw b_1 b_2 b_3 b_p : Int32) (su po : Nat → Int64) (hds kr kv kb oa ob : Nat → Int32) (an ch cg fb mh ml ih lb ic cn : Int32) (c1 c2 c3 c4 c5 c6 : Nat → Int32) (wn : Int32) (w1 w2 w3 w4 w5 w6 ac obi sc br : Nat → Int32) (ai ao : Nat → Int64) (nn kp : Int32) (se : Nat → Int32) (co : Nat → Int64), (exA ne x ea) → (exF ne es) → (∀ i : Nat, narrow .char (.int (es i)) = .int (es i)) → (ne ≤ nb) → (∀ j, j < ne → ef j = nI (x j)) → (sm a5) → (sm a6) → (dis a5 a6) → (ws6 ai (bt a5)) → (ws6 ao (bt a6)) → ((lkS pp rf gf many n kn on cu ic kp fb cn wn ch cg su po kr kv oa ob c1 c2 c3 c4 c5 c6 w1 w2 w3 obi sc)) → (kq → kp = 0) → ∀ (H : Heap) (locs : List Loc) (ls : Array Slot), va_P D vwCl ((wB ty X g0 e0 (nI n) (nI many) 1 (nI ne) pl rf tp tq ea es hn kn on cu pu gw b_1 b_2 b_3 b_p su po hds kr kv kb oa ob an ch cg fb mh ml ih lb ic cn c1 c2 c3 c4 c5 c6 wn w1 w2 w3 w4 w5 w6 ac obi sc br ai ao nn kp se co (nI many).toNatClampNeg gf ef t0 tf) ++ (pw ty pp)) H → va_D A ((wB ty X g0 e0 (nI n) (nI many) 1 (nI ne) pl rf tp tq ea es hn kn on cu pu gw b_1 b_2 b_3 b_p su po hds kr kv kb oa ob an ch cg fb mh ml ih lb ic cn c1 c2 c3 c4 c5 c6 wn w1 w2 w3 w4 w5 w6 ac obi sc br ai ao nn kp se co (nI many).toNatClampNeg gf ef t0 tf) ++ (pw ty pp)) → va_S A s.heap H locs → lv_has ls 21 [(0, .ref b), (1, .ref (X 0)), (2, .int (nI n)), (3, .int 1), (4, .int (nI many)), (5, .ref g0), (6, .ref e0), (7, .ref t0), (8, .int (nI ne)), (9, .int 0), (10, .int 0), (11, .int a5), (12, .int a6), (13, .int (nI k))] → W p l e room_1 s m #[Value.ref b] below meth c H locs cs ss (lw_Z below #[Value.ref b] s) (F0 m pc ls [])
def LK (p : Program) (l : Launch) (e : Env) (s : State) (m : MethodId) (below : List Frame) (meth : Method) (c : Code) (b : Nat) (D : va_G) (ty : Nat → ClassId) (A : Nat → Prop) (X : Nat → Nat) (g0 e0 t0 n many : Nat) (pp : pT) (rf gf : Nat → Option Nat) (pl tp tq tf : Nat → Int32) (k : Nat) : Prop := LG p l e s m below meth c b D ty A X g0 e0 t0 n many pp rf gf pl tp tq tf 196 (1000 + 4000 * k) (20000 + 24000 * k) (cnt k) (k % 3 = 2) k
def LT (p : Program) (l : Launch) (e : Env) (s : State) (m : MethodId) (below : List Frame) (meth : Method) (c : Code) (b : Nat) (D : va_G) (ty : Nat → ClassId) (A : Nat → Prop) (X : Nat → Nat) (g0 e0 t0 n many : Nat) (pp : pT) (rf gf : Nat → Option Nat) (pl tp tq tf : Nat → Int32) (k : Nat) : Prop := LG p l e s m below meth c b D ty A X g0 e0 t0 n many pp rf gf pl tp tq tf 606 (1010 + 4000 * k) (20100 + 24000 * k) (cnt (k + 1)) (¬ k % 3 = 0) k
set_option maxHeartbeats 8000000 in
set_option maxRecDepth 100000 in
theorem lk_tail {p : Program} {l : Launch} {e : Env} {s : State} {m : MethodId} {below : List Frame} {meth : Method} {c : Code} {b : Nat} {D : va_G} {ty : Nat → ClassId} {A : Nat → Prop} {X : Nat → Nat} {g0 e0 t0 n many : Nat} {pp : pT} {rf gf : Nat → Option Nat} {pl tp tq tf : Nat → Int32} (hl9 : l.stackTraces = false) {td mi L : Nat} {xs : Nat → Int32} (C0 : lw_At p s m meth c b L xs) (hL : L ≤ 260) (hAe : (fun q => s.heap.size ≤ q) = A) (hK : va_K D vwCl (wq_ty ty) s) (hE : wq_E A td mi s s.heap) (hpr : prOK pp n rf gf many) (hok : pOK pp) (hru : ∀ (i a : Nat), rf i = some a → a ∈ pRA pp) (hrr : ∀ i : Int32, 0 ≤ i.toInt → i.toInt < (nI many).toInt → ∃ a, gf i.toNatClampNeg = some a ∧ a ∈ pZA pp) (hn3 : 3 ≤ n) (hn6 : n ≤ 6) (hpl : ∀ p, p < n → pl p = 0) (ht : tp 0 = 0) (hq : tq 0 = 0) (htf : ∀ j, j < 6 → tf j = 102) {k : Nat} (hk : k < 9) (KK : LK p l e s m below meth c b D ty A X g0 e0 t0 n many pp rf gf pl tp tq tf (k + 1)) : LT p l e s m below meth c b D ty A X g0 e0 t0 n many pp rf gf pl tp tq tf k := by
  obtain ⟨hx, hb, hr, hml, hown, hts, hX, hbl, hlocks, hgv⟩ := id C0
  have hA : ∀ q : Nat, s.heap.size ≤ q → A q := fun q h => by rw [← hAe]; exact h
  have hbA : ¬ A b := by rw [← hAe]; exact Nat.not_le.mpr hbl
  intro ne x ea es ef a5 a6 hn kn on cu pu gw b_1 b_2 b_3 b_p su po hds kr kv kb oa ob an ch cg fb mh ml ih lb ic cn c1 c2 c3 c4 c5 c6 wn w1 w2 w3 w4 w5 w6 ac obi sc br ai ao nn kp se co hxa hxf hch hnb hef h5 h6 hds5 hwi hwo hst hkp H locs ls hP hD hS hl
  obtain ⟨hc1, hc3⟩ := cnt_mono k hk
  have hne3 : ne ≤ 3 := Nat.le_trans hnb hc3
  have K680 : ∀ (ls : Array Slot), lv_has ls 21 [(0, .ref b), (1, .ref (X 0)), (2, .int (nI n)), (3, .int 1), (4, .int (nI many)), (5, .ref g0), (6, .ref e0), (7, .ref t0), (8, .int (nI ne)), (9, .int 0), (10, .int 0), (11, .int a5), (12, .int a6), (13, .int (nI k)), (18, .int (nI ne))] → W p l e room_1 s m #[Value.ref b] below meth c H locs (1010 + 4000 * k) (20100 + 24000 * k) (lw_Z below #[Value.ref b] s) (F0 m 680 ls []) := by
    intro ls hl
    refine lv_iload_n hx hb dL_law_680 rfl (lv_at hl 3 rfl) ?_
    refine lv_if_eq (tgt := 718) hx hb dL_law_681 (by decide) (fun c0 => ((absurd c0 (by decide) : False)).elim) (fun _ => ?_)
    refine lv_iload hx hb dL_law_684 (lv_at hl 13 rfl) ?_
    refine lv_iconst (v := 3) hx hb dL_law_686 (by decide) ?_
    refine lv_irem hx hb dL_law_687 (by decide) ?_
    refine lv_topi (nm_r (e' := nI (k % 3)) (irem3 k (by omega)) ?_)
    refine lv_iconst (v := 2) hx hb dL_law_688 (by decide) ?_
    by_cases hk3 : k % 3 = 2
    · obtain rfl := hkp (by omega)
      rcases hst with ⟨rfl, rfl, -⟩ | ⟨rfl, rfl, S, Po, k9, q, c0, w0, rfl, rfl, rfl, rfl, rfl, hg, hpo, hc⟩
      · refine lv_icmp_ne (tgt := 714) hx hb dL_law_689 (by decide) (fun c0 => (c0 (by rw [hk3]; rfl)).elim) (fun _ => ?_)
        refine lv_aload_n hx hb dL_law_692 rfl (lv_at hl 1 rfl) ?_
        refine lv_aload hx hb dL_law_693 (lv_at hl 5 rfl) ?_
        refine lv_iload hx hb dL_law_695 (lv_at hl 4 rfl) ?_
        refine lv_iload_n hx hb dL_law_697 rfl (lv_at hl 2 rfl) ?_
        refine lv_aload hx hb dL_law_698 (lv_at hl 6 rfl) ?_
        refine lv_iload hx hb dL_law_700 (lv_at hl 9 rfl) ?_
        refine lv_iload hx hb dL_law_702 (lv_at hl 10 rfl) ?_
        refine lv_iload hx hb dL_law_704 (lv_at hl 11 rfl) ?_
        refine lv_iload hx hb dL_law_706 (lv_at hl 12 rfl) ?_
        have hw9 : okW (stW pp rf gf many n) (m_k_L_isWalked pp (nI n) (nI many) 1 (nI ne) pl rf tp tq ea es hn kn on 0 pu gw b_1 b_2 b_3 b_p su po hds kr kv kb oa ob an ch cg fb mh ml ih lb 0 cn c1 c2 c3 c4 c5 c6 wn w1 w2 w3 w4 w5 w6 ac obi sc br ai ao nn 0 se co gf ef (nI many) (nI n) 0 0 a5 a6) := lw_walk0 hpr hn6 hpl ht hq hxf h5 h6 hwi hwo ea hn kn on pu gw b_1 b_2 b_3 b_p su po hds kr kv kb oa ob an ch cg fb mh ml ih lb cn c1 c2 c3 c4 c5 c6 wn w1 w2 w3 w4 w5 w6 ac obi sc br nn se co ef
        obtain ⟨TT, hTT⟩ : ∃ TT, TT = m_k_L_isWalked pp (nI n) (nI many) 1 (nI ne) pl rf tp tq ea es hn kn on 0 pu gw b_1 b_2 b_3 b_p su po hds kr kv kb oa ob an ch cg fb mh ml ih lb 0 cn c1 c2 c3 c4 c5 c6 wn w1 w2 w3 w4 w5 w6 ac obi sc br ai ao nn 0 se co gf ef (nI many) (nI n) 0 0 a5 a6 := ⟨_, rfl⟩
        rw [← hTT] at hw9
        obtain ⟨t0_, t1_, tS⟩ := hw9
        refine wq_xiPW (ws := (wB ty X g0 e0 (nI n) (nI many) 1 (nI ne) pl rf tp tq ea es hn kn on 0 pu gw b_1 b_2 b_3 b_p su po hds kr kv kb oa ob an ch cg fb mh ml ih lb 0 cn c1 c2 c3 c4 c5 c6 wn w1 w2 w3 w4 w5 w6 ac obi sc br ai ao nn 0 se co (nI many).toNatClampNeg gf ef t0 tf)) (pl := (pw ty pp)) (wc := (wW_k_L_isWalked ty X g0 e0 (nI n) (nI many) 1 (nI ne) pl rf tp tq ea es hn kn on 0 pu gw b_1 b_2 b_3 b_p su po hds kr kv kb oa ob an ch cg fb mh ml ih lb 0 cn c1 c2 c3 c4 c5 c6 wn w1 w2 w3 w4 w5 w6 ac obi sc br ai ao nn 0 se co (nI many).toNatClampNeg gf ef)) (vx_runS (As := [.ref (X 0), .ref g0, .int (nI many), .int (nI n), .ref e0, .int 0, .int 0, .int a5, .int a6]) (rest := []) ⟨hx, hb, hml, hown, hts⟩ (k_L_isWalked l hl9 D ty td mi H.size pp X (nI n) (nI many) 1 (nI ne) pl rf tp tq ea es hn kn on 0 pu gw b_1 b_2 b_3 b_p su po hds kr kv kb oa ob an ch cg fb mh ml ih lb 0 cn c1 c2 c3 c4 c5 c6 wn w1 w2 w3 w4 w5 w6 ac obi sc br ai ao nn 0 se co g0 gf e0 ef (nI many) (nI n) 0 0 a5 a6 hok hru hrr hch (by rw [kI_ti (by omega)]; omega) (by rw [kI_ti (by omega)]; omega) (by rw [kI_ti (by omega)]; omega) (hsh_n n (by omega)) TT hTT (fun h9 => absurd (t0_.symm.trans h9) (by decide))) (va_cwS 9 hts gw_isWalked rfl rfl rfl (by decide +kernel) ⟨(Nat.le_of_ble_eq_true rfl), (Nat.le_of_ble_eq_true rfl)⟩) (wm_preSP hP hD hK hE hS hA [true, true, true, true, true, true, true, true, true, true, true, true, true, true, true, true, true, true, true, true, true, true, true, true, true, true, true, true, true, true, true, true, true, true, true, true, true, true, true, true, true, true, true, true, true, true, false, false, true, true] rfl) rfl rfl hl.1 rfl (lv_room (Nat.le_of_ble_eq_true rfl)) dL_law_708 ⟨(by show 1010 + 4000 * k + 3852 ≤ 600258; omega), (by show 20100 + 24000 * k + 23170 ≤ 7292074; omega)⟩) hS hA hP hD [true, true, true, true, true, true, true, true, true, true, true, true, true, true, true, true, true, true, true, true, true, true, true, true, true, true, true, true, true, true, true, true, true, true, true, true, true, true, true, true, true, true, true, true, true, true, false, false, true, true] rfl (by rfl) (fun _ _ h => h.2.2.2) (fun _ _ h => by rcases h with ⟨h9, -⟩ | ⟨h9, -⟩ | ⟨h9, -⟩ | ⟨h9, -⟩ <;> exact absurd (h9.symm.trans t0_) (by decide)) (fun _ H locs q9 ce hw _ _ _ _ _ _ => by rcases hw with ⟨h9, -⟩ | ⟨h9, -⟩ | ⟨h9, -⟩ | ⟨h9, -⟩ <;> exact absurd (h9.symm.trans t0_) (by decide)) (fun rr H locs hw hP hD hS => ?_)
        obtain rfl : rr = 1 := hw.2.1.trans t1_
        obtain ⟨S1, Po1, su1, po1, hds1, kr1, kv1, kb1, oa1, ob1, cg1, mh1, ml1, ih1, lb1, an1, ch1, c01, c11, c21, c31, c41, c51, c61, w01, w11, w21, w31, w41, w51, w61, ac1, obi1, sc1, br1, c1, sf1, cf1, pu1, gw1, hn1, k1, q1, b_11, b_21, b_31, b_p1, hr9, hg9, hpo9, hc9⟩ := tS
        subst hr9
        have hP : va_P D vwCl ((wB ty X g0 e0 (nI n) (nI many) 1 (nI ne) pl rf tp tq ea es hn1 (nI k1) (nI (rk (oO S1 Po1) 6)) 1 pu1 gw1 b_11 b_21 b_31 b_p1 su1 po1 hds1 kr1 kv1 kb1 oa1 ob1 an1 ch1 cg1 0 mh1 ml1 ih1 lb1 1 (nI c01) c11 c21 c31 c41 c51 c61 (nI w01) w11 w21 w31 w41 w51 w61 ac1 obi1 sc1 br1 ai ao (nI c1) 1 sf1 cf1 (nI many).toNatClampNeg gf ef t0 tf) ++ (pw ty pp)) H := hP
        have hD : va_D A ((wB ty X g0 e0 (nI n) (nI many) 1 (nI ne) pl rf tp tq ea es hn1 (nI k1) (nI (rk (oO S1 Po1) 6)) 1 pu1 gw1 b_11 b_21 b_31 b_p1 su1 po1 hds1 kr1 kv1 kb1 oa1 ob1 an1 ch1 cg1 0 mh1 ml1 ih1 lb1 1 (nI c01) c11 c21 c31 c41 c51 c61 (nI w01) w11 w21 w31 w41 w51 w61 ac1 obi1 sc1 br1 ai ao (nI c1) 1 sf1 cf1 (nI many).toNatClampNeg gf ef t0 tf) ++ (pw ty pp)) := hD
        refine W.widen (k := 4862 + 4000 * k) (n := 43270 + 24000 * k) (by omega) (by omega) ?_
        refine lv_if_eq (tgt := 718) hx hb dL_law_711 (by decide) (fun c0 => ((absurd c0 (by decide) : False)).elim) (fun _ => ?_)
        refine lv_iconst (v := 1) hx hb dL_law_714 (by decide) ?_
        refine lv_goto (tgt := 719) hx hb dL_law_715 (by decide) ?_
        refine lv_istore_n (lv' := [(3, .int 1), (0, .ref b), (1, .ref (X 0)), (2, .int (nI n)), (4, .int (nI many)), (5, .ref g0), (6, .ref e0), (7, .ref t0), (8, .int (nI ne)), (9, .int 0), (10, .int 0), (11, .int a5), (12, .int a6), (13, .int (nI k)), (18, .int (nI ne))]) hx hb dL_law_719 rfl hl (by decide) rfl (fun ls hl => ?_)
        refine lv_iinc (v := nI (k + 1)) (lv' := [(13, .int (nI (k + 1))), (3, .int 1), (0, .ref b), (1, .ref (X 0)), (2, .int (nI n)), (4, .int (nI many)), (5, .ref g0), (6, .ref e0), (7, .ref t0), (8, .int (nI ne)), (9, .int 0), (10, .int 0), (11, .int a5), (12, .int a6), (18, .int (nI ne))]) hx hb dL_law_720 hl (k := 13) rfl (kI_s k) (by decide) rfl (fun ls hl => ?_)
        refine lv_goto (tgt := 196) hx hb dL_law_723 (by decide) ?_
        have hl : lv_has ls 21 [(0, .ref b), (1, .ref (X 0)), (2, .int (nI n)), (3, .int 1), (4, .int (nI many)), (5, .ref g0), (6, .ref e0), (7, .ref t0), (8, .int (nI ne)), (9, .int 0), (10, .int 0), (11, .int a5), (12, .int a6), (13, .int (nI (k + 1)))] := lv_sub hl [2, 3, 4, 1, 5, 6, 7, 8, 9, 10, 11, 12, 13, 0] rfl
        refine W.widen (k := 1000 + 4000 * (k + 1)) (n := 20000 + 24000 * (k + 1)) (by omega) (by omega) ?_
        exact KK ne x ea es ef a5 a6 hn1 (nI k1) (nI (rk (oO S1 Po1) 6)) 1 pu1 gw1 b_11 b_21 b_31 b_p1 su1 po1 hds1 kr1 kv1 kb1 oa1 ob1 an1 ch1 cg1 0 mh1 ml1 ih1 lb1 1 (nI c01) c11 c21 c31 c41 c51 c61 (nI w01) w11 w21 w31 w41 w51 w61 ac1 obi1 sc1 br1 ai ao (nI c1) 1 sf1 cf1 hxa hxf hch hnb hef h5 h6 hds5 hwi hwo (Or.inr ⟨rfl, rfl, S1, Po1, k1, q1, c01, w01, rfl, rfl, rfl, rfl, rfl, hg9, hpo9, hc9⟩) (fun h9 => by omega) H locs ls hP hD hS hl
      · refine lv_icmp_ne (tgt := 714) hx hb dL_law_689 (by decide) (fun c0 => (c0 (by rw [hk3]; rfl)).elim) (fun _ => ?_)
        refine lv_aload_n hx hb dL_law_692 rfl (lv_at hl 1 rfl) ?_
        refine lv_aload hx hb dL_law_693 (lv_at hl 5 rfl) ?_
        refine lv_iload hx hb dL_law_695 (lv_at hl 4 rfl) ?_
        refine lv_iload_n hx hb dL_law_697 rfl (lv_at hl 2 rfl) ?_
        refine lv_aload hx hb dL_law_698 (lv_at hl 6 rfl) ?_
        refine lv_iload hx hb dL_law_700 (lv_at hl 9 rfl) ?_
        refine lv_iload hx hb dL_law_702 (lv_at hl 10 rfl) ?_
        refine lv_iload hx hb dL_law_704 (lv_at hl 11 rfl) ?_
        refine lv_iload hx hb dL_law_706 (lv_at hl 12 rfl) ?_
        have hw9 : okW (stW pp rf gf many n) (m_k_L_isWalked pp (nI n) (nI many) 1 (nI ne) pl rf tp tq ea es hn (nI k9) (nI (rk (oO S Po) 6)) 1 pu gw b_1 b_2 b_3 b_p su po hds kr kv kb oa ob an ch cg 0 mh ml ih lb 1 (nI c0) c1 c2 c3 c4 c5 c6 (nI w0) w1 w2 w3 w4 w5 w6 ac obi sc br ai ao nn 0 se co gf ef (nI many) (nI n) 0 0 a5 a6) := lw_walk1 hpr hn6 hpl hg hpo hc h5 h6 hwi hwo ne tp tq es ea hn pu gw b_1 b_2 b_3 b_p hds kb an mh ml ih lb w4 w5 w6 ac br nn se co ef
        obtain ⟨TT, hTT⟩ : ∃ TT, TT = m_k_L_isWalked pp (nI n) (nI many) 1 (nI ne) pl rf tp tq ea es hn (nI k9) (nI (rk (oO S Po) 6)) 1 pu gw b_1 b_2 b_3 b_p su po hds kr kv kb oa ob an ch cg 0 mh ml ih lb 1 (nI c0) c1 c2 c3 c4 c5 c6 (nI w0) w1 w2 w3 w4 w5 w6 ac obi sc br ai ao nn 0 se co gf ef (nI many) (nI n) 0 0 a5 a6 := ⟨_, rfl⟩
        rw [← hTT] at hw9
        obtain ⟨t0_, t1_, tS⟩ := hw9
        refine wq_xiPW (ws := (wB ty X g0 e0 (nI n) (nI many) 1 (nI ne) pl rf tp tq ea es hn (nI k9) (nI (rk (oO S Po) 6)) 1 pu gw b_1 b_2 b_3 b_p su po hds kr kv kb oa ob an ch cg 0 mh ml ih lb 1 (nI c0) c1 c2 c3 c4 c5 c6 (nI w0) w1 w2 w3 w4 w5 w6 ac obi sc br ai ao nn 0 se co (nI many).toNatClampNeg gf ef t0 tf)) (pl := (pw ty pp)) (wc := (wW_k_L_isWalked ty X g0 e0 (nI n) (nI many) 1 (nI ne) pl rf tp tq ea es hn (nI k9) (nI (rk (oO S Po) 6)) 1 pu gw b_1 b_2 b_3 b_p su po hds kr kv kb oa ob an ch cg 0 mh ml ih lb 1 (nI c0) c1 c2 c3 c4 c5 c6 (nI w0) w1 w2 w3 w4 w5 w6 ac obi sc br ai ao nn 0 se co (nI many).toNatClampNeg gf ef)) (vx_runS (As := [.ref (X 0), .ref g0, .int (nI many), .int (nI n), .ref e0, .int 0, .int 0, .int a5, .int a6]) (rest := []) ⟨hx, hb, hml, hown, hts⟩ (k_L_isWalked l hl9 D ty td mi H.size pp X (nI n) (nI many) 1 (nI ne) pl rf tp tq ea es hn (nI k9) (nI (rk (oO S Po) 6)) 1 pu gw b_1 b_2 b_3 b_p su po hds kr kv kb oa ob an ch cg 0 mh ml ih lb 1 (nI c0) c1 c2 c3 c4 c5 c6 (nI w0) w1 w2 w3 w4 w5 w6 ac obi sc br ai ao nn 0 se co g0 gf e0 ef (nI many) (nI n) 0 0 a5 a6 hok hru hrr hch (by rw [kI_ti (by omega)]; omega) (by rw [kI_ti (by omega)]; omega) (by rw [kI_ti (by omega)]; omega) (hsh_n n (by omega)) TT hTT (fun h9 => absurd (t0_.symm.trans h9) (by decide))) (va_cwS 9 hts gw_isWalked rfl rfl rfl (by decide +kernel) ⟨(Nat.le_of_ble_eq_true rfl), (Nat.le_of_ble_eq_true rfl)⟩) (wm_preSP hP hD hK hE hS hA [true, true, true, true, true, true, true, true, true, true, true, true, true, true, true, true, true, true, true, true, true, true, true, true, true, true, true, true, true, true, true, true, true, true, true, true, true, true, true, true, true, true, true, true, true, true, false, false, true, true] rfl) rfl rfl hl.1 rfl (lv_room (Nat.le_of_ble_eq_true rfl)) dL_law_708 ⟨(by show 1010 + 4000 * k + 3852 ≤ 600258; omega), (by show 20100 + 24000 * k + 23170 ≤ 7292074; omega)⟩) hS hA hP hD [true, true, true, true, true, true, true, true, true, true, true, true, true, true, true, true, true, true, true, true, true, true, true, true, true, true, true, true, true, true, true, true, true, true, true, true, true, true, true, true, true, true, true, true, true, true, false, false, true, true] rfl (by rfl) (fun _ _ h => h.2.2.2) (fun _ _ h => by rcases h with ⟨h9, -⟩ | ⟨h9, -⟩ | ⟨h9, -⟩ | ⟨h9, -⟩ <;> exact absurd (h9.symm.trans t0_) (by decide)) (fun _ H locs q9 ce hw _ _ _ _ _ _ => by rcases hw with ⟨h9, -⟩ | ⟨h9, -⟩ | ⟨h9, -⟩ | ⟨h9, -⟩ <;> exact absurd (h9.symm.trans t0_) (by decide)) (fun rr H locs hw hP hD hS => ?_)
        obtain rfl : rr = 1 := hw.2.1.trans t1_
        obtain ⟨S1, Po1, su1, po1, hds1, kr1, kv1, kb1, oa1, ob1, cg1, mh1, ml1, ih1, lb1, an1, ch1, c01, c11, c21, c31, c41, c51, c61, w01, w11, w21, w31, w41, w51, w61, ac1, obi1, sc1, br1, c1, sf1, cf1, pu1, gw1, hn1, k1, q1, b_11, b_21, b_31, b_p1, hr9, hg9, hpo9, hc9⟩ := tS
        subst hr9
        have hP : va_P D vwCl ((wB ty X g0 e0 (nI n) (nI many) 1 (nI ne) pl rf tp tq ea es hn1 (nI k1) (nI (rk (oO S1 Po1) 6)) 1 pu1 gw1 b_11 b_21 b_31 b_p1 su1 po1 hds1 kr1 kv1 kb1 oa1 ob1 an1 ch1 cg1 0 mh1 ml1 ih1 lb1 1 (nI c01) c11 c21 c31 c41 c51 c61 (nI w01) w11 w21 w31 w41 w51 w61 ac1 obi1 sc1 br1 ai ao (nI c1) 1 sf1 cf1 (nI many).toNatClampNeg gf ef t0 tf) ++ (pw ty pp)) H := hP
        have hD : va_D A ((wB ty X g0 e0 (nI n) (nI many) 1 (nI ne) pl rf tp tq ea es hn1 (nI k1) (nI (rk (oO S1 Po1) 6)) 1 pu1 gw1 b_11 b_21 b_31 b_p1 su1 po1 hds1 kr1 kv1 kb1 oa1 ob1 an1 ch1 cg1 0 mh1 ml1 ih1 lb1 1 (nI c01) c11 c21 c31 c41 c51 c61 (nI w01) w11 w21 w31 w41 w51 w61 ac1 obi1 sc1 br1 ai ao (nI c1) 1 sf1 cf1 (nI many).toNatClampNeg gf ef t0 tf) ++ (pw ty pp)) := hD
        refine W.widen (k := 4862 + 4000 * k) (n := 43270 + 24000 * k) (by omega) (by omega) ?_
        refine lv_if_eq (tgt := 718) hx hb dL_law_711 (by decide) (fun c0 => ((absurd c0 (by decide) : False)).elim) (fun _ => ?_)
        refine lv_iconst (v := 1) hx hb dL_law_714 (by decide) ?_
        refine lv_goto (tgt := 719) hx hb dL_law_715 (by decide) ?_
        refine lv_istore_n (lv' := [(3, .int 1), (0, .ref b), (1, .ref (X 0)), (2, .int (nI n)), (4, .int (nI many)), (5, .ref g0), (6, .ref e0), (7, .ref t0), (8, .int (nI ne)), (9, .int 0), (10, .int 0), (11, .int a5), (12, .int a6), (13, .int (nI k)), (18, .int (nI ne))]) hx hb dL_law_719 rfl hl (by decide) rfl (fun ls hl => ?_)
        refine lv_iinc (v := nI (k + 1)) (lv' := [(13, .int (nI (k + 1))), (3, .int 1), (0, .ref b), (1, .ref (X 0)), (2, .int (nI n)), (4, .int (nI many)), (5, .ref g0), (6, .ref e0), (7, .ref t0), (8, .int (nI ne)), (9, .int 0), (10, .int 0), (11, .int a5), (12, .int a6), (18, .int (nI ne))]) hx hb dL_law_720 hl (k := 13) rfl (kI_s k) (by decide) rfl (fun ls hl => ?_)
        refine lv_goto (tgt := 196) hx hb dL_law_723 (by decide) ?_
        have hl : lv_has ls 21 [(0, .ref b), (1, .ref (X 0)), (2, .int (nI n)), (3, .int 1), (4, .int (nI many)), (5, .ref g0), (6, .ref e0), (7, .ref t0), (8, .int (nI ne)), (9, .int 0), (10, .int 0), (11, .int a5), (12, .int a6), (13, .int (nI (k + 1)))] := lv_sub hl [2, 3, 4, 1, 5, 6, 7, 8, 9, 10, 11, 12, 13, 0] rfl
        refine W.widen (k := 1000 + 4000 * (k + 1)) (n := 20000 + 24000 * (k + 1)) (by omega) (by omega) ?_
        exact KK ne x ea es ef a5 a6 hn1 (nI k1) (nI (rk (oO S1 Po1) 6)) 1 pu1 gw1 b_11 b_21 b_31 b_p1 su1 po1 hds1 kr1 kv1 kb1 oa1 ob1 an1 ch1 cg1 0 mh1 ml1 ih1 lb1 1 (nI c01) c11 c21 c31 c41 c51 c61 (nI w01) w11 w21 w31 w41 w51 w61 ac1 obi1 sc1 br1 ai ao (nI c1) 1 sf1 cf1 hxa hxf hch hnb hef h5 h6 hds5 hwi hwo (Or.inr ⟨rfl, rfl, S1, Po1, k1, q1, c01, w01, rfl, rfl, rfl, rfl, rfl, hg9, hpo9, hc9⟩) (fun h9 => by omega) H locs ls hP hD hS hl
    · refine lv_icmp_ne (tgt := 714) hx hb dL_law_689 (by decide) (fun _ => ?_) (fun c0 => (hk3 ((kI_eq (a := k % 3) (b := 2) (by omega) (by omega)).mp c0)).elim)
      refine lv_iconst (v := 1) hx hb dL_law_714 (by decide) ?_
      refine lv_goto (tgt := 719) hx hb dL_law_715 (by decide) ?_
      refine lv_istore_n (lv' := [(3, .int 1), (0, .ref b), (1, .ref (X 0)), (2, .int (nI n)), (4, .int (nI many)), (5, .ref g0), (6, .ref e0), (7, .ref t0), (8, .int (nI ne)), (9, .int 0), (10, .int 0), (11, .int a5), (12, .int a6), (13, .int (nI k)), (18, .int (nI ne))]) hx hb dL_law_719 rfl hl (by decide) rfl (fun ls hl => ?_)
      refine lv_iinc (v := nI (k + 1)) (lv' := [(13, .int (nI (k + 1))), (3, .int 1), (0, .ref b), (1, .ref (X 0)), (2, .int (nI n)), (4, .int (nI many)), (5, .ref g0), (6, .ref e0), (7, .ref t0), (8, .int (nI ne)), (9, .int 0), (10, .int 0), (11, .int a5), (12, .int a6), (18, .int (nI ne))]) hx hb dL_law_720 hl (k := 13) rfl (kI_s k) (by decide) rfl (fun ls hl => ?_)
      refine lv_goto (tgt := 196) hx hb dL_law_723 (by decide) ?_
      have hl : lv_has ls 21 [(0, .ref b), (1, .ref (X 0)), (2, .int (nI n)), (3, .int 1), (4, .int (nI many)), (5, .ref g0), (6, .ref e0), (7, .ref t0), (8, .int (nI ne)), (9, .int 0), (10, .int 0), (11, .int a5), (12, .int a6), (13, .int (nI (k + 1)))] := lv_sub hl [2, 3, 4, 1, 5, 6, 7, 8, 9, 10, 11, 12, 13, 0] rfl
      refine W.widen (k := 1000 + 4000 * (k + 1)) (n := 20000 + 24000 * (k + 1)) (by omega) (by omega) ?_
      exact KK ne x ea es ef a5 a6 hn kn on cu pu gw b_1 b_2 b_3 b_p su po hds kr kv kb oa ob an ch cg fb mh ml ih lb ic cn c1 c2 c3 c4 c5 c6 wn w1 w2 w3 w4 w5 w6 ac obi sc br ai ao nn kp se co hxa hxf hch hnb hef h5 h6 hds5 hwi hwo hst (fun h9 => hkp (by omega)) H locs ls hP hD hS hl
  have L1 : ∀ (d j : Nat), j + d = ne → ∀ (ls : Array Slot), lv_has ls 21 [(0, .ref b), (1, .ref (X 0)), (2, .int (nI n)), (3, .int 1), (4, .int (nI many)), (5, .ref g0), (6, .ref e0), (7, .ref t0), (8, .int (nI ne)), (9, .int 0), (10, .int 0), (11, .int a5), (12, .int a6), (13, .int (nI k)), (18, .int (nI j))] → W p l e room_1 s m #[Value.ref b] below meth c H locs (1010 + 4000 * k) (20100 + 24000 * k) (lw_Z below #[Value.ref b] s) (F0 m 615 ls []) := by
    intro d
    induction d with
    | zero =>
      intro j hjd ls hl
      refine lv_iload hx hb dL_law_615 (lv_at hl 14 rfl) ?_
      refine lv_iload hx hb dL_law_617 (lv_at hl 8 rfl) ?_
      have hjn : ne = j := by omega
      subst hjn
      refine lv_icmp_ge (tgt := 680) hx hb dL_law_619 (by decide) (fun _ => ?_) (fun c0 => (c0 ((kI_le (a := ne) (b := ne) (by omega) (by omega)).mpr (Nat.le_refl _))).elim)
      exact K680 ls (lv_sub hl [0, 1, 2, 3, 4, 5, 6, 7, 8, 9, 10, 11, 12, 13, 14] rfl)
    | succ d IH =>
      intro j hjd ls hl
      refine lv_iload hx hb dL_law_615 (lv_at hl 14 rfl) ?_
      refine lv_iload hx hb dL_law_617 (lv_at hl 8 rfl) ?_
      refine lv_icmp_ge (tgt := 680) hx hb dL_law_619 (by decide) (fun c0 => (nle (a := ne) (b := j) (by omega) (by omega) c0).elim) (fun _ => ?_)
      refine lv_iload hx hb dL_law_622 (lv_at hl 9 rfl) ?_
      refine lv_aload hx hb dL_law_624 (lv_at hl 7 rfl) ?_
      refine lv_iload hx hb dL_law_626 (lv_at hl 14 rfl) ?_
      refine va_iald (D := D) hx hb hK hP 50 0 rfl rfl (wi_in (by rw [kI_ti (by omega)]; omega) (by rw [kI_ti (by omega)]; omega)) dL_law_628 ?_
      refine lv_topi (nm_r (e' := 102) (by rw [kI_nat (show j < 2147483648 by omega)]; exact (htf j (by omega))) ?_)
      refine lv_bipush (v := 116) hx hb dL_law_629 (by decide) ?_
      refine lv_icmp_ne (tgt := 644) hx hb dL_law_631 (by decide) (fun _ => ?_) (fun c0 => ((absurd c0 (by decide) : False)).elim)
      refine lv_iconst (v := 0) hx hb dL_law_644 (by decide) ?_
      refine lv_ior hx hb dL_law_645 ?_
      refine lv_topi (nm_r (e' := 0) (by decide) ?_)
      refine lv_istore (lv' := [(9, .int 0), (0, .ref b), (1, .ref (X 0)), (2, .int (nI n)), (3, .int 1), (4, .int (nI many)), (5, .ref g0), (6, .ref e0), (7, .ref t0), (8, .int (nI ne)), (10, .int 0), (11, .int a5), (12, .int a6), (13, .int (nI k)), (18, .int (nI j))]) hx hb dL_law_646 hl (by decide) rfl (fun ls hl => ?_)
      refine lv_iload hx hb dL_law_648 (lv_at hl 10 rfl) ?_
      refine lv_aload hx hb dL_law_650 (lv_at hl 8 rfl) ?_
      refine lv_iload hx hb dL_law_652 (lv_at hl 14 rfl) ?_
      refine va_iald (D := D) hx hb hK hP 50 0 rfl rfl (wi_in (by rw [kI_ti (by omega)]; omega) (by rw [kI_ti (by omega)]; omega)) dL_law_654 ?_
      refine lv_topi (nm_r (e' := 102) (by rw [kI_nat (show j < 2147483648 by omega)]; exact (htf j (by omega))) ?_)
      refine lv_bipush (v := 117) hx hb dL_law_655 (by decide) ?_
      refine lv_icmp_ne (tgt := 670) hx hb dL_law_657 (by decide) (fun _ => ?_) (fun c0 => ((absurd c0 (by decide) : False)).elim)
      refine lv_iconst (v := 0) hx hb dL_law_670 (by decide) ?_
      refine lv_ior hx hb dL_law_671 ?_
      refine lv_topi (nm_r (e' := 0) (by decide) ?_)
      refine lv_istore (lv' := [(10, .int 0), (9, .int 0), (0, .ref b), (1, .ref (X 0)), (2, .int (nI n)), (3, .int 1), (4, .int (nI many)), (5, .ref g0), (6, .ref e0), (7, .ref t0), (8, .int (nI ne)), (11, .int a5), (12, .int a6), (13, .int (nI k)), (18, .int (nI j))]) hx hb dL_law_672 hl (by decide) rfl (fun ls hl => ?_)
      refine lv_iinc (v := nI (j + 1)) (lv' := [(18, .int (nI (j + 1))), (10, .int 0), (9, .int 0), (0, .ref b), (1, .ref (X 0)), (2, .int (nI n)), (3, .int 1), (4, .int (nI many)), (5, .ref g0), (6, .ref e0), (7, .ref t0), (8, .int (nI ne)), (11, .int a5), (12, .int a6), (13, .int (nI k))]) hx hb dL_law_674 hl (k := 14) rfl (kI_s j) (by decide) rfl (fun ls hl => ?_)
      refine lv_goto (tgt := 615) hx hb dL_law_677 (by decide) ?_
      have hl : lv_has ls 21 [(0, .ref b), (1, .ref (X 0)), (2, .int (nI n)), (3, .int 1), (4, .int (nI many)), (5, .ref g0), (6, .ref e0), (7, .ref t0), (8, .int (nI ne)), (9, .int 0), (10, .int 0), (11, .int a5), (12, .int a6), (13, .int (nI k)), (18, .int (nI (j + 1)))] := lv_sub hl [3, 4, 5, 6, 7, 8, 9, 10, 11, 2, 1, 12, 13, 14, 0] rfl
      exact IH (j + 1) (by omega) ls hl
  refine lv_iconst (v := 0) hx hb dL_law_606 (by decide) ?_
  refine lv_istore (lv' := [(9, .int 0), (0, .ref b), (1, .ref (X 0)), (2, .int (nI n)), (3, .int 1), (4, .int (nI many)), (5, .ref g0), (6, .ref e0), (7, .ref t0), (8, .int (nI ne)), (10, .int 0), (11, .int a5), (12, .int a6), (13, .int (nI k))]) hx hb dL_law_607 hl (by decide) rfl (fun ls hl => ?_)
  refine lv_iconst (v := 0) hx hb dL_law_609 (by decide) ?_
  refine lv_istore (lv' := [(10, .int 0), (9, .int 0), (0, .ref b), (1, .ref (X 0)), (2, .int (nI n)), (3, .int 1), (4, .int (nI many)), (5, .ref g0), (6, .ref e0), (7, .ref t0), (8, .int (nI ne)), (11, .int a5), (12, .int a6), (13, .int (nI k))]) hx hb dL_law_610 hl (by decide) rfl (fun ls hl => ?_)
  refine lv_iconst (v := 0) hx hb dL_law_612 (by decide) ?_
  refine lv_istore (lv' := [(18, .int 0), (10, .int 0), (9, .int 0), (0, .ref b), (1, .ref (X 0)), (2, .int (nI n)), (3, .int 1), (4, .int (nI many)), (5, .ref g0), (6, .ref e0), (7, .ref t0), (8, .int (nI ne)), (11, .int a5), (12, .int a6), (13, .int (nI k))]) hx hb dL_law_613 hl (by decide) rfl (fun ls hl => ?_)
  have hl : lv_has ls 21 [(0, .ref b), (1, .ref (X 0)), (2, .int (nI n)), (3, .int 1), (4, .int (nI many)), (5, .ref g0), (6, .ref e0), (7, .ref t0), (8, .int (nI ne)), (9, .int 0), (10, .int 0), (11, .int a5), (12, .int a6), (13, .int (nI k)), (18, .int 0)] := lv_sub hl [3, 4, 5, 6, 7, 8, 9, 10, 11, 2, 1, 12, 13, 14, 0] rfl
  exact L1 ne 0 (Nat.zero_add _) ls hl
