/-! the law, 3: addRule -/
theorem dL_addRule_0 : decode cL_addRule 0 = .ok (.bipush 11, 2) := by decide +kernel
theorem dL_addRule_2 : decode cL_addRule 2 = .ok (.newarray .int, 2) := by decide +kernel
theorem dL_addRule_4 : decode cL_addRule 4 = .ok (.astore 5, 2) := by decide +kernel
theorem dL_addRule_6 : decode cL_addRule 6 = .ok (.aload_n 1, 1) := by decide +kernel
theorem dL_addRule_7 : decode cL_addRule 7 = .ok (.iload_n 2, 1) := by decide +kernel
theorem dL_addRule_8 : decode cL_addRule 8 = .ok (.bipush 7, 2) := by decide +kernel
theorem dL_addRule_10 : decode cL_addRule 10 = .ok (.invokestatic 159, 3) := by decide +kernel
theorem dL_addRule_13 : decode cL_addRule 13 = .ok (.istore 6, 2) := by decide +kernel
theorem dL_addRule_15 : decode cL_addRule 15 = .ok (.aload 5, 2) := by decide +kernel
theorem dL_addRule_17 : decode cL_addRule 17 = .ok (.iconst 0, 1) := by decide +kernel
theorem dL_addRule_18 : decode cL_addRule 18 = .ok (.iload 6, 2) := by decide +kernel
theorem dL_addRule_20 : decode cL_addRule 20 = .ok (.iconst 4, 1) := by decide +kernel
theorem dL_addRule_21 : decode cL_addRule 21 = .ok (.if_icmp .ge 8, 3) := by decide +kernel
theorem dL_addRule_24 : decode cL_addRule 24 = .ok (.bipush 100, 2) := by decide +kernel
theorem dL_addRule_26 : decode cL_addRule 26 = .ok (.goto 17, 3) := by decide +kernel
theorem dL_addRule_29 : decode cL_addRule 29 = .ok (.iload 6, 2) := by decide +kernel
theorem dL_addRule_31 : decode cL_addRule 31 = .ok (.bipush 6, 2) := by decide +kernel
theorem dL_addRule_33 : decode cL_addRule 33 = .ok (.if_icmp .ge 8, 3) := by decide +kernel
theorem dL_addRule_36 : decode cL_addRule 36 = .ok (.bipush 99, 2) := by decide +kernel
theorem dL_addRule_38 : decode cL_addRule 38 = .ok (.goto 5, 3) := by decide +kernel
theorem dL_addRule_41 : decode cL_addRule 41 = .ok (.bipush 119, 2) := by decide +kernel
theorem dL_addRule_43 : decode cL_addRule 43 = .ok (.iastore, 1) := by decide +kernel
theorem dL_addRule_44 : decode cL_addRule 44 = .ok (.aload 5, 2) := by decide +kernel
theorem dL_addRule_46 : decode cL_addRule 46 = .ok (.iconst 2, 1) := by decide +kernel
theorem dL_addRule_47 : decode cL_addRule 47 = .ok (.aload 5, 2) := by decide +kernel
theorem dL_addRule_49 : decode cL_addRule 49 = .ok (.iconst 0, 1) := by decide +kernel
theorem dL_addRule_50 : decode cL_addRule 50 = .ok (.iaload, 1) := by decide +kernel
theorem dL_addRule_51 : decode cL_addRule 51 = .ok (.bipush 99, 2) := by decide +kernel
theorem dL_addRule_53 : decode cL_addRule 53 = .ok (.if_icmp .ne 14, 3) := by decide +kernel
theorem dL_addRule_56 : decode cL_addRule 56 = .ok (.aload_n 1, 1) := by decide +kernel
theorem dL_addRule_57 : decode cL_addRule 57 = .ok (.iload_n 2, 1) := by decide +kernel
theorem dL_addRule_58 : decode cL_addRule 58 = .ok (.iconst 1, 1) := by decide +kernel
theorem dL_addRule_59 : decode cL_addRule 59 = .ok (.iadd, 1) := by decide +kernel
theorem dL_addRule_60 : decode cL_addRule 60 = .ok (.iconst 2, 1) := by decide +kernel
theorem dL_addRule_61 : decode cL_addRule 61 = .ok (.invokestatic 159, 3) := by decide +kernel
theorem dL_addRule_64 : decode cL_addRule 64 = .ok (.goto 14, 3) := by decide +kernel
theorem dL_addRule_67 : decode cL_addRule 67 = .ok (.aload_n 1, 1) := by decide +kernel
theorem dL_addRule_68 : decode cL_addRule 68 = .ok (.iload_n 2, 1) := by decide +kernel
theorem dL_addRule_69 : decode cL_addRule 69 = .ok (.iconst 1, 1) := by decide +kernel
theorem dL_addRule_70 : decode cL_addRule 70 = .ok (.iadd, 1) := by decide +kernel
theorem dL_addRule_71 : decode cL_addRule 71 = .ok (.bipush 9, 2) := by decide +kernel
theorem dL_addRule_73 : decode cL_addRule 73 = .ok (.invokestatic 159, 3) := by decide +kernel
theorem dL_addRule_76 : decode cL_addRule 76 = .ok (.iconst 4, 1) := by decide +kernel
theorem dL_addRule_77 : decode cL_addRule 77 = .ok (.isub, 1) := by decide +kernel
theorem dL_addRule_78 : decode cL_addRule 78 = .ok (.iastore, 1) := by decide +kernel
theorem dL_addRule_79 : decode cL_addRule 79 = .ok (.aload 5, 2) := by decide +kernel
theorem dL_addRule_81 : decode cL_addRule 81 = .ok (.iconst 3, 1) := by decide +kernel
theorem dL_addRule_82 : decode cL_addRule 82 = .ok (.aload 5, 2) := by decide +kernel
theorem dL_addRule_84 : decode cL_addRule 84 = .ok (.iconst 0, 1) := by decide +kernel
theorem dL_addRule_85 : decode cL_addRule 85 = .ok (.iaload, 1) := by decide +kernel
theorem dL_addRule_86 : decode cL_addRule 86 = .ok (.bipush 99, 2) := by decide +kernel
theorem dL_addRule_88 : decode cL_addRule 88 = .ok (.if_icmp .ne 19, 3) := by decide +kernel
theorem dL_addRule_91 : decode cL_addRule 91 = .ok (.aload 5, 2) := by decide +kernel
theorem dL_addRule_93 : decode cL_addRule 93 = .ok (.iconst 2, 1) := by decide +kernel
theorem dL_addRule_94 : decode cL_addRule 94 = .ok (.iaload, 1) := by decide +kernel
theorem dL_addRule_95 : decode cL_addRule 95 = .ok (.aload_n 1, 1) := by decide +kernel
theorem dL_addRule_96 : decode cL_addRule 96 = .ok (.iload_n 2, 1) := by decide +kernel
theorem dL_addRule_97 : decode cL_addRule 97 = .ok (.iconst 2, 1) := by decide +kernel
theorem dL_addRule_98 : decode cL_addRule 98 = .ok (.iadd, 1) := by decide +kernel
theorem dL_addRule_99 : decode cL_addRule 99 = .ok (.iconst 3, 1) := by decide +kernel
theorem dL_addRule_100 : decode cL_addRule 100 = .ok (.invokestatic 159, 3) := by decide +kernel
theorem dL_addRule_103 : decode cL_addRule 103 = .ok (.iadd, 1) := by decide +kernel
theorem dL_addRule_104 : decode cL_addRule 104 = .ok (.goto 13, 3) := by decide +kernel
theorem dL_addRule_107 : decode cL_addRule 107 = .ok (.iconst 1, 1) := by decide +kernel
theorem dL_addRule_108 : decode cL_addRule 108 = .ok (.aload_n 1, 1) := by decide +kernel
theorem dL_addRule_109 : decode cL_addRule 109 = .ok (.iload_n 2, 1) := by decide +kernel
theorem dL_addRule_110 : decode cL_addRule 110 = .ok (.iconst 2, 1) := by decide +kernel
theorem dL_addRule_111 : decode cL_addRule 111 = .ok (.iadd, 1) := by decide +kernel
theorem dL_addRule_112 : decode cL_addRule 112 = .ok (.iconst 3, 1) := by decide +kernel
theorem dL_addRule_113 : decode cL_addRule 113 = .ok (.invokestatic 159, 3) := by decide +kernel
theorem dL_addRule_116 : decode cL_addRule 116 = .ok (.iadd, 1) := by decide +kernel
theorem dL_addRule_117 : decode cL_addRule 117 = .ok (.iastore, 1) := by decide +kernel
theorem dL_addRule_118 : decode cL_addRule 118 = .ok (.aload 5, 2) := by decide +kernel
theorem dL_addRule_120 : decode cL_addRule 120 = .ok (.iconst 0, 1) := by decide +kernel
theorem dL_addRule_121 : decode cL_addRule 121 = .ok (.iaload, 1) := by decide +kernel
theorem dL_addRule_122 : decode cL_addRule 122 = .ok (.bipush 100, 2) := by decide +kernel
theorem dL_addRule_124 : decode cL_addRule 124 = .ok (.if_icmp .ne 16, 3) := by decide +kernel
theorem dL_addRule_127 : decode cL_addRule 127 = .ok (.aload_n 0, 1) := by decide +kernel
theorem dL_addRule_128 : decode cL_addRule 128 = .ok (.iconst 1, 1) := by decide +kernel
theorem dL_addRule_129 : decode cL_addRule 129 = .ok (.iconst 0, 1) := by decide +kernel
theorem dL_addRule_130 : decode cL_addRule 130 = .ok (.iconst 0, 1) := by decide +kernel
theorem dL_addRule_131 : decode cL_addRule 131 = .ok (.iconst 0, 1) := by decide +kernel
theorem dL_addRule_132 : decode cL_addRule 132 = .ok (.iconst 0, 1) := by decide +kernel
theorem dL_addRule_133 : decode cL_addRule 133 = .ok (.iconst 0, 1) := by decide +kernel
theorem dL_addRule_134 : decode cL_addRule 134 = .ok (.invokestatic 132, 3) := by decide +kernel
theorem dL_addRule_137 : decode cL_addRule 137 = .ok (.goto 47, 3) := by decide +kernel
theorem dL_addRule_140 : decode cL_addRule 140 = .ok (.aload 5, 2) := by decide +kernel
theorem dL_addRule_142 : decode cL_addRule 142 = .ok (.iconst 0, 1) := by decide +kernel
theorem dL_addRule_143 : decode cL_addRule 143 = .ok (.iaload, 1) := by decide +kernel
theorem dL_addRule_144 : decode cL_addRule 144 = .ok (.bipush 99, 2) := by decide +kernel
theorem dL_addRule_146 : decode cL_addRule 146 = .ok (.if_icmp .ne 22, 3) := by decide +kernel
theorem dL_addRule_149 : decode cL_addRule 149 = .ok (.aload_n 0, 1) := by decide +kernel
theorem dL_addRule_150 : decode cL_addRule 150 = .ok (.iconst 2, 1) := by decide +kernel
theorem dL_addRule_151 : decode cL_addRule 151 = .ok (.iconst 0, 1) := by decide +kernel
theorem dL_addRule_152 : decode cL_addRule 152 = .ok (.aload 5, 2) := by decide +kernel
theorem dL_addRule_154 : decode cL_addRule 154 = .ok (.iconst 2, 1) := by decide +kernel
theorem dL_addRule_155 : decode cL_addRule 155 = .ok (.iaload, 1) := by decide +kernel
theorem dL_addRule_156 : decode cL_addRule 156 = .ok (.aload 5, 2) := by decide +kernel
theorem dL_addRule_158 : decode cL_addRule 158 = .ok (.iconst 3, 1) := by decide +kernel
theorem dL_addRule_159 : decode cL_addRule 159 = .ok (.iaload, 1) := by decide +kernel
theorem dL_addRule_160 : decode cL_addRule 160 = .ok (.iconst (-1), 1) := by decide +kernel
theorem dL_addRule_161 : decode cL_addRule 161 = .ok (.iconst 0, 1) := by decide +kernel
theorem dL_addRule_162 : decode cL_addRule 162 = .ok (.invokestatic 132, 3) := by decide +kernel
theorem dL_addRule_165 : decode cL_addRule 165 = .ok (.goto 19, 3) := by decide +kernel
theorem dL_addRule_168 : decode cL_addRule 168 = .ok (.aload_n 0, 1) := by decide +kernel
theorem dL_addRule_169 : decode cL_addRule 169 = .ok (.iconst 3, 1) := by decide +kernel
theorem dL_addRule_170 : decode cL_addRule 170 = .ok (.iconst 0, 1) := by decide +kernel
theorem dL_addRule_171 : decode cL_addRule 171 = .ok (.aload 5, 2) := by decide +kernel
theorem dL_addRule_173 : decode cL_addRule 173 = .ok (.iconst 2, 1) := by decide +kernel
theorem dL_addRule_174 : decode cL_addRule 174 = .ok (.iaload, 1) := by decide +kernel
theorem dL_addRule_175 : decode cL_addRule 175 = .ok (.aload 5, 2) := by decide +kernel
theorem dL_addRule_177 : decode cL_addRule 177 = .ok (.iconst 3, 1) := by decide +kernel
theorem dL_addRule_178 : decode cL_addRule 178 = .ok (.iaload, 1) := by decide +kernel
theorem dL_addRule_179 : decode cL_addRule 179 = .ok (.iconst 0, 1) := by decide +kernel
theorem dL_addRule_180 : decode cL_addRule 180 = .ok (.iconst 0, 1) := by decide +kernel
theorem dL_addRule_181 : decode cL_addRule 181 = .ok (.invokestatic 132, 3) := by decide +kernel
theorem dL_addRule_184 : decode cL_addRule 184 = .ok (.istore 7, 2) := by decide +kernel
theorem dL_addRule_186 : decode cL_addRule 186 = .ok (.iload 7, 2) := by decide +kernel
theorem dL_addRule_188 : decode cL_addRule 188 = .ok (.iload 4, 2) := by decide +kernel
theorem dL_addRule_190 : decode cL_addRule 190 = .ok (.if_icmp .ne 7, 3) := by decide +kernel
theorem dL_addRule_193 : decode cL_addRule 193 = .ok (.iconst 1, 1) := by decide +kernel
theorem dL_addRule_194 : decode cL_addRule 194 = .ok (.goto 4, 3) := by decide +kernel
theorem dL_addRule_197 : decode cL_addRule 197 = .ok (.iconst 0, 1) := by decide +kernel
theorem dL_addRule_198 : decode cL_addRule 198 = .ok (.istore 8, 2) := by decide +kernel
theorem dL_addRule_200 : decode cL_addRule 200 = .ok (.aload 5, 2) := by decide +kernel
theorem dL_addRule_202 : decode cL_addRule 202 = .ok (.iconst 0, 1) := by decide +kernel
theorem dL_addRule_203 : decode cL_addRule 203 = .ok (.iaload, 1) := by decide +kernel
theorem dL_addRule_204 : decode cL_addRule 204 = .ok (.bipush 119, 2) := by decide +kernel
theorem dL_addRule_206 : decode cL_addRule 206 = .ok (.if_icmp .ne 7, 3) := by decide +kernel
theorem dL_addRule_209 : decode cL_addRule 209 = .ok (.iconst 0, 1) := by decide +kernel
theorem dL_addRule_210 : decode cL_addRule 210 = .ok (.goto 29, 3) := by decide +kernel
theorem dL_addRule_213 : decode cL_addRule 213 = .ok (.aload_n 1, 1) := by decide +kernel
theorem dL_addRule_214 : decode cL_addRule 214 = .ok (.iload_n 2, 1) := by decide +kernel
theorem dL_addRule_215 : decode cL_addRule 215 = .ok (.iconst 3, 1) := by decide +kernel
theorem dL_addRule_216 : decode cL_addRule 216 = .ok (.iadd, 1) := by decide +kernel
theorem dL_addRule_217 : decode cL_addRule 217 = .ok (.bipush 8, 2) := by decide +kernel
theorem dL_addRule_219 : decode cL_addRule 219 = .ok (.invokestatic 159, 3) := by decide +kernel
theorem dL_addRule_222 : decode cL_addRule 222 = .ok (.ifCond .ne 7, 3) := by decide +kernel
theorem dL_addRule_225 : decode cL_addRule 225 = .ok (.iconst 0, 1) := by decide +kernel
theorem dL_addRule_226 : decode cL_addRule 226 = .ok (.goto 13, 3) := by decide +kernel
theorem dL_addRule_229 : decode cL_addRule 229 = .ok (.iconst 1, 1) := by decide +kernel
theorem dL_addRule_230 : decode cL_addRule 230 = .ok (.aload_n 1, 1) := by decide +kernel
theorem dL_addRule_231 : decode cL_addRule 231 = .ok (.iload_n 2, 1) := by decide +kernel
theorem dL_addRule_232 : decode cL_addRule 232 = .ok (.iconst 4, 1) := by decide +kernel
theorem dL_addRule_233 : decode cL_addRule 233 = .ok (.iadd, 1) := by decide +kernel
theorem dL_addRule_234 : decode cL_addRule 234 = .ok (.iconst 2, 1) := by decide +kernel
theorem dL_addRule_235 : decode cL_addRule 235 = .ok (.invokestatic 159, 3) := by decide +kernel
theorem dL_addRule_238 : decode cL_addRule 238 = .ok (.iadd, 1) := by decide +kernel
theorem dL_addRule_239 : decode cL_addRule 239 = .ok (.istore 9, 2) := by decide +kernel
theorem dL_addRule_241 : decode cL_addRule 241 = .ok (.iconst 0, 1) := by decide +kernel
theorem dL_addRule_242 : decode cL_addRule 242 = .ok (.istore 10, 2) := by decide +kernel
theorem dL_addRule_244 : decode cL_addRule 244 = .ok (.iload 10, 2) := by decide +kernel
theorem dL_addRule_246 : decode cL_addRule 246 = .ok (.iload 9, 2) := by decide +kernel
theorem dL_addRule_248 : decode cL_addRule 248 = .ok (.if_icmp .ge 65, 3) := by decide +kernel
theorem dL_addRule_251 : decode cL_addRule 251 = .ok (.aload_n 1, 1) := by decide +kernel
theorem dL_addRule_252 : decode cL_addRule 252 = .ok (.iload_n 2, 1) := by decide +kernel
theorem dL_addRule_253 : decode cL_addRule 253 = .ok (.iconst 5, 1) := by decide +kernel
theorem dL_addRule_254 : decode cL_addRule 254 = .ok (.iadd, 1) := by decide +kernel
theorem dL_addRule_255 : decode cL_addRule 255 = .ok (.iload 10, 2) := by decide +kernel
theorem dL_addRule_257 : decode cL_addRule 257 = .ok (.iadd, 1) := by decide +kernel
theorem dL_addRule_258 : decode cL_addRule 258 = .ok (.iload_n 3, 1) := by decide +kernel
theorem dL_addRule_259 : decode cL_addRule 259 = .ok (.invokestatic 159, 3) := by decide +kernel
theorem dL_addRule_262 : decode cL_addRule 262 = .ok (.istore 11, 2) := by decide +kernel
theorem dL_addRule_264 : decode cL_addRule 264 = .ok (.iload 8, 2) := by decide +kernel
theorem dL_addRule_266 : decode cL_addRule 266 = .ok (.ifCond .eq 27, 3) := by decide +kernel
theorem dL_addRule_269 : decode cL_addRule 269 = .ok (.aload_n 0, 1) := by decide +kernel
theorem dL_addRule_270 : decode cL_addRule 270 = .ok (.iload 4, 2) := by decide +kernel
theorem dL_addRule_272 : decode cL_addRule 272 = .ok (.iconst 2, 1) := by decide +kernel
theorem dL_addRule_273 : decode cL_addRule 273 = .ok (.iload 11, 2) := by decide +kernel
theorem dL_addRule_275 : decode cL_addRule 275 = .ok (.bipush 9, 2) := by decide +kernel
theorem dL_addRule_277 : decode cL_addRule 277 = .ok (.bipush (-9), 2) := by decide +kernel
theorem dL_addRule_279 : decode cL_addRule 279 = .ok (.invokestatic 163, 3) := by decide +kernel
theorem dL_addRule_282 : decode cL_addRule 282 = .ok (.iload 10, 2) := by decide +kernel
theorem dL_addRule_284 : decode cL_addRule 284 = .ok (.iconst 1, 1) := by decide +kernel
theorem dL_addRule_285 : decode cL_addRule 285 = .ok (.iadd, 1) := by decide +kernel
theorem dL_addRule_286 : decode cL_addRule 286 = .ok (.if_icmp .ne 7, 3) := by decide +kernel
theorem dL_addRule_289 : decode cL_addRule 289 = .ok (.iconst 1, 1) := by decide +kernel
theorem dL_addRule_290 : decode cL_addRule 290 = .ok (.goto 4, 3) := by decide +kernel
theorem dL_addRule_293 : decode cL_addRule 293 = .ok (.iconst 0, 1) := by decide +kernel
theorem dL_addRule_294 : decode cL_addRule 294 = .ok (.istore 8, 2) := by decide +kernel
theorem dL_addRule_296 : decode cL_addRule 296 = .ok (.aload 5, 2) := by decide +kernel
theorem dL_addRule_298 : decode cL_addRule 298 = .ok (.iconst 1, 1) := by decide +kernel
theorem dL_addRule_299 : decode cL_addRule 299 = .ok (.dup2, 1) := by decide +kernel
theorem dL_addRule_300 : decode cL_addRule 300 = .ok (.iaload, 1) := by decide +kernel
theorem dL_addRule_301 : decode cL_addRule 301 = .ok (.iconst 1, 1) := by decide +kernel
theorem dL_addRule_302 : decode cL_addRule 302 = .ok (.iload 11, 2) := by decide +kernel
theorem dL_addRule_304 : decode cL_addRule 304 = .ok (.ishl, 1) := by decide +kernel
theorem dL_addRule_305 : decode cL_addRule 305 = .ok (.ior, 1) := by decide +kernel
theorem dL_addRule_306 : decode cL_addRule 306 = .ok (.iastore, 1) := by decide +kernel
theorem dL_addRule_307 : decode cL_addRule 307 = .ok (.iinc 10 1, 3) := by decide +kernel
theorem dL_addRule_310 : decode cL_addRule 310 = .ok (.goto (-66), 3) := by decide +kernel
theorem dL_addRule_313 : decode cL_addRule 313 = .ok (.iconst 0, 1) := by decide +kernel
theorem dL_addRule_314 : decode cL_addRule 314 = .ok (.istore 10, 2) := by decide +kernel
theorem dL_addRule_316 : decode cL_addRule 316 = .ok (.iload 10, 2) := by decide +kernel
theorem dL_addRule_318 : decode cL_addRule 318 = .ok (.aload_n 1, 1) := by decide +kernel
theorem dL_addRule_319 : decode cL_addRule 319 = .ok (.iload_n 2, 1) := by decide +kernel
theorem dL_addRule_320 : decode cL_addRule 320 = .ok (.bipush 7, 2) := by decide +kernel
theorem dL_addRule_322 : decode cL_addRule 322 = .ok (.iadd, 1) := by decide +kernel
theorem dL_addRule_323 : decode cL_addRule 323 = .ok (.iconst 4, 1) := by decide +kernel
theorem dL_addRule_324 : decode cL_addRule 324 = .ok (.invokestatic 159, 3) := by decide +kernel
theorem dL_addRule_327 : decode cL_addRule 327 = .ok (.if_icmp .ge 273, 3) := by decide +kernel
theorem dL_addRule_330 : decode cL_addRule 330 = .ok (.aload_n 1, 1) := by decide +kernel
theorem dL_addRule_331 : decode cL_addRule 331 = .ok (.iload_n 2, 1) := by decide +kernel
theorem dL_addRule_332 : decode cL_addRule 332 = .ok (.bipush 8, 2) := by decide +kernel
theorem dL_addRule_334 : decode cL_addRule 334 = .ok (.iadd, 1) := by decide +kernel
theorem dL_addRule_335 : decode cL_addRule 335 = .ok (.iconst 3, 1) := by decide +kernel
theorem dL_addRule_336 : decode cL_addRule 336 = .ok (.iload 10, 2) := by decide +kernel
theorem dL_addRule_338 : decode cL_addRule 338 = .ok (.imul, 1) := by decide +kernel
theorem dL_addRule_339 : decode cL_addRule 339 = .ok (.iadd, 1) := by decide +kernel
theorem dL_addRule_340 : decode cL_addRule 340 = .ok (.iload_n 3, 1) := by decide +kernel
theorem dL_addRule_341 : decode cL_addRule 341 = .ok (.invokestatic 159, 3) := by decide +kernel
theorem dL_addRule_344 : decode cL_addRule 344 = .ok (.istore 11, 2) := by decide +kernel
theorem dL_addRule_346 : decode cL_addRule 346 = .ok (.aload_n 1, 1) := by decide +kernel
theorem dL_addRule_347 : decode cL_addRule 347 = .ok (.iload_n 2, 1) := by decide +kernel
theorem dL_addRule_348 : decode cL_addRule 348 = .ok (.bipush 9, 2) := by decide +kernel
theorem dL_addRule_350 : decode cL_addRule 350 = .ok (.iadd, 1) := by decide +kernel
theorem dL_addRule_351 : decode cL_addRule 351 = .ok (.iconst 3, 1) := by decide +kernel
theorem dL_addRule_352 : decode cL_addRule 352 = .ok (.iload 10, 2) := by decide +kernel
theorem dL_addRule_354 : decode cL_addRule 354 = .ok (.imul, 1) := by decide +kernel
theorem dL_addRule_355 : decode cL_addRule 355 = .ok (.iadd, 1) := by decide +kernel
theorem dL_addRule_356 : decode cL_addRule 356 = .ok (.bipush 6, 2) := by decide +kernel
theorem dL_addRule_358 : decode cL_addRule 358 = .ok (.invokestatic 159, 3) := by decide +kernel
theorem dL_addRule_361 : decode cL_addRule 361 = .ok (.istore 12, 2) := by decide +kernel
theorem dL_addRule_363 : decode cL_addRule 363 = .ok (.iload 12, 2) := by decide +kernel
theorem dL_addRule_365 : decode cL_addRule 365 = .ok (.iconst 5, 1) := by decide +kernel
theorem dL_addRule_366 : decode cL_addRule 366 = .ok (.if_icmp .ge 89, 3) := by decide +kernel
theorem dL_addRule_369 : decode cL_addRule 369 = .ok (.iload 8, 2) := by decide +kernel
theorem dL_addRule_371 : decode cL_addRule 371 = .ok (.ifCond .eq 36, 3) := by decide +kernel
theorem dL_addRule_374 : decode cL_addRule 374 = .ok (.aload_n 0, 1) := by decide +kernel
theorem dL_addRule_375 : decode cL_addRule 375 = .ok (.iload 4, 2) := by decide +kernel
theorem dL_addRule_377 : decode cL_addRule 377 = .ok (.iload 12, 2) := by decide +kernel
theorem dL_addRule_379 : decode cL_addRule 379 = .ok (.iconst 3, 1) := by decide +kernel
theorem dL_addRule_380 : decode cL_addRule 380 = .ok (.if_icmp .ge 7, 3) := by decide +kernel
theorem dL_addRule_383 : decode cL_addRule 383 = .ok (.iconst 1, 1) := by decide +kernel
theorem dL_addRule_384 : decode cL_addRule 384 = .ok (.goto 4, 3) := by decide +kernel
theorem dL_addRule_387 : decode cL_addRule 387 = .ok (.iconst 0, 1) := by decide +kernel
theorem dL_addRule_388 : decode cL_addRule 388 = .ok (.iload 11, 2) := by decide +kernel
theorem dL_addRule_390 : decode cL_addRule 390 = .ok (.bipush 77, 2) := by decide +kernel
theorem dL_addRule_392 : decode cL_addRule 392 = .ok (.iconst 0, 1) := by decide +kernel
theorem dL_addRule_393 : decode cL_addRule 393 = .ok (.invokestatic 163, 3) := by decide +kernel
theorem dL_addRule_396 : decode cL_addRule 396 = .ok (.iload 10, 2) := by decide +kernel
theorem dL_addRule_398 : decode cL_addRule 398 = .ok (.iconst 1, 1) := by decide +kernel
theorem dL_addRule_399 : decode cL_addRule 399 = .ok (.iadd, 1) := by decide +kernel
theorem dL_addRule_400 : decode cL_addRule 400 = .ok (.if_icmp .ne 7, 3) := by decide +kernel
theorem dL_addRule_403 : decode cL_addRule 403 = .ok (.iconst 1, 1) := by decide +kernel
theorem dL_addRule_404 : decode cL_addRule 404 = .ok (.goto 4, 3) := by decide +kernel
theorem dL_addRule_407 : decode cL_addRule 407 = .ok (.iconst 0, 1) := by decide +kernel
theorem dL_addRule_408 : decode cL_addRule 408 = .ok (.istore 8, 2) := by decide +kernel
theorem dL_addRule_410 : decode cL_addRule 410 = .ok (.aload 5, 2) := by decide +kernel
theorem dL_addRule_412 : decode cL_addRule 412 = .ok (.iconst 4, 1) := by decide +kernel
theorem dL_addRule_413 : decode cL_addRule 413 = .ok (.dup2, 1) := by decide +kernel
theorem dL_addRule_414 : decode cL_addRule 414 = .ok (.iaload, 1) := by decide +kernel
theorem dL_addRule_415 : decode cL_addRule 415 = .ok (.iload 12, 2) := by decide +kernel
theorem dL_addRule_417 : decode cL_addRule 417 = .ok (.iconst 3, 1) := by decide +kernel
theorem dL_addRule_418 : decode cL_addRule 418 = .ok (.if_icmp .ge 10, 3) := by decide +kernel
theorem dL_addRule_421 : decode cL_addRule 421 = .ok (.iconst 1, 1) := by decide +kernel
theorem dL_addRule_422 : decode cL_addRule 422 = .ok (.iload 11, 2) := by decide +kernel
theorem dL_addRule_424 : decode cL_addRule 424 = .ok (.ishl, 1) := by decide +kernel
theorem dL_addRule_425 : decode cL_addRule 425 = .ok (.goto 4, 3) := by decide +kernel
theorem dL_addRule_428 : decode cL_addRule 428 = .ok (.iconst 0, 1) := by decide +kernel
theorem dL_addRule_429 : decode cL_addRule 429 = .ok (.ior, 1) := by decide +kernel
theorem dL_addRule_430 : decode cL_addRule 430 = .ok (.iastore, 1) := by decide +kernel
theorem dL_addRule_431 : decode cL_addRule 431 = .ok (.aload 5, 2) := by decide +kernel
theorem dL_addRule_433 : decode cL_addRule 433 = .ok (.iconst 5, 1) := by decide +kernel
theorem dL_addRule_434 : decode cL_addRule 434 = .ok (.dup2, 1) := by decide +kernel
theorem dL_addRule_435 : decode cL_addRule 435 = .ok (.iaload, 1) := by decide +kernel
theorem dL_addRule_436 : decode cL_addRule 436 = .ok (.iload 12, 2) := by decide +kernel
theorem dL_addRule_438 : decode cL_addRule 438 = .ok (.iconst 3, 1) := by decide +kernel
theorem dL_addRule_439 : decode cL_addRule 439 = .ok (.if_icmp .ge 7, 3) := by decide +kernel
theorem dL_addRule_442 : decode cL_addRule 442 = .ok (.iconst 0, 1) := by decide +kernel
theorem dL_addRule_443 : decode cL_addRule 443 = .ok (.goto 7, 3) := by decide +kernel
theorem dL_addRule_446 : decode cL_addRule 446 = .ok (.iconst 1, 1) := by decide +kernel
theorem dL_addRule_447 : decode cL_addRule 447 = .ok (.iload 11, 2) := by decide +kernel
theorem dL_addRule_449 : decode cL_addRule 449 = .ok (.ishl, 1) := by decide +kernel
theorem dL_addRule_450 : decode cL_addRule 450 = .ok (.ior, 1) := by decide +kernel
theorem dL_addRule_451 : decode cL_addRule 451 = .ok (.iastore, 1) := by decide +kernel
theorem dL_addRule_452 : decode cL_addRule 452 = .ok (.goto 142, 3) := by decide +kernel
theorem dL_addRule_455 : decode cL_addRule 455 = .ok (.aload_n 1, 1) := by decide +kernel
theorem dL_addRule_456 : decode cL_addRule 456 = .ok (.iload_n 2, 1) := by decide +kernel
theorem dL_addRule_457 : decode cL_addRule 457 = .ok (.bipush 10, 2) := by decide +kernel
theorem dL_addRule_459 : decode cL_addRule 459 = .ok (.iadd, 1) := by decide +kernel
theorem dL_addRule_460 : decode cL_addRule 460 = .ok (.iconst 3, 1) := by decide +kernel
theorem dL_addRule_461 : decode cL_addRule 461 = .ok (.iload 10, 2) := by decide +kernel
theorem dL_addRule_463 : decode cL_addRule 463 = .ok (.imul, 1) := by decide +kernel
theorem dL_addRule_464 : decode cL_addRule 464 = .ok (.iadd, 1) := by decide +kernel
theorem dL_addRule_465 : decode cL_addRule 465 = .ok (.iconst 2, 1) := by decide +kernel
theorem dL_addRule_466 : decode cL_addRule 466 = .ok (.invokestatic 159, 3) := by decide +kernel
theorem dL_addRule_469 : decode cL_addRule 469 = .ok (.ifCond .ne 7, 3) := by decide +kernel
theorem dL_addRule_472 : decode cL_addRule 472 = .ok (.iconst 1, 1) := by decide +kernel
theorem dL_addRule_473 : decode cL_addRule 473 = .ok (.goto 4, 3) := by decide +kernel
theorem dL_addRule_476 : decode cL_addRule 476 = .ok (.iconst 0, 1) := by decide +kernel
theorem dL_addRule_477 : decode cL_addRule 477 = .ok (.istore 13, 2) := by decide +kernel
theorem dL_addRule_479 : decode cL_addRule 479 = .ok (.iload 8, 2) := by decide +kernel
theorem dL_addRule_481 : decode cL_addRule 481 = .ok (.ifCond .eq 47, 3) := by decide +kernel
theorem dL_addRule_484 : decode cL_addRule 484 = .ok (.aload_n 0, 1) := by decide +kernel
theorem dL_addRule_485 : decode cL_addRule 485 = .ok (.bipush 7, 2) := by decide +kernel
theorem dL_addRule_487 : decode cL_addRule 487 = .ok (.iload 4, 2) := by decide +kernel
theorem dL_addRule_489 : decode cL_addRule 489 = .ok (.iload 13, 2) := by decide +kernel
theorem dL_addRule_491 : decode cL_addRule 491 = .ok (.ifCond .eq 8, 3) := by decide +kernel
theorem dL_addRule_494 : decode cL_addRule 494 = .ok (.bipush 103, 2) := by decide +kernel
theorem dL_addRule_496 : decode cL_addRule 496 = .ok (.goto 5, 3) := by decide +kernel
theorem dL_addRule_499 : decode cL_addRule 499 = .ok (.bipush 108, 2) := by decide +kernel
theorem dL_addRule_501 : decode cL_addRule 501 = .ok (.iload 11, 2) := by decide +kernel
theorem dL_addRule_503 : decode cL_addRule 503 = .ok (.iload 13, 2) := by decide +kernel
theorem dL_addRule_505 : decode cL_addRule 505 = .ok (.ifCond .eq 7, 3) := by decide +kernel
theorem dL_addRule_508 : decode cL_addRule 508 = .ok (.iconst 1, 1) := by decide +kernel
theorem dL_addRule_509 : decode cL_addRule 509 = .ok (.goto 4, 3) := by decide +kernel
theorem dL_addRule_512 : decode cL_addRule 512 = .ok (.iconst 0, 1) := by decide +kernel
theorem dL_addRule_513 : decode cL_addRule 513 = .ok (.iconst 0, 1) := by decide +kernel
theorem dL_addRule_514 : decode cL_addRule 514 = .ok (.invokestatic 132, 3) := by decide +kernel
theorem dL_addRule_517 : decode cL_addRule 517 = .ok (.iload 10, 2) := by decide +kernel
theorem dL_addRule_519 : decode cL_addRule 519 = .ok (.iconst 1, 1) := by decide +kernel
theorem dL_addRule_520 : decode cL_addRule 520 = .ok (.iadd, 1) := by decide +kernel
theorem dL_addRule_521 : decode cL_addRule 521 = .ok (.if_icmp .ne 7, 3) := by decide +kernel
theorem dL_addRule_524 : decode cL_addRule 524 = .ok (.iconst 1, 1) := by decide +kernel
theorem dL_addRule_525 : decode cL_addRule 525 = .ok (.goto 4, 3) := by decide +kernel
theorem dL_addRule_528 : decode cL_addRule 528 = .ok (.iconst 0, 1) := by decide +kernel
theorem dL_addRule_529 : decode cL_addRule 529 = .ok (.istore 8, 2) := by decide +kernel
theorem dL_addRule_531 : decode cL_addRule 531 = .ok (.aload 5, 2) := by decide +kernel
theorem dL_addRule_533 : decode cL_addRule 533 = .ok (.bipush 8, 2) := by decide +kernel
theorem dL_addRule_535 : decode cL_addRule 535 = .ok (.dup2, 1) := by decide +kernel
theorem dL_addRule_536 : decode cL_addRule 536 = .ok (.iaload, 1) := by decide +kernel
theorem dL_addRule_537 : decode cL_addRule 537 = .ok (.iload 13, 2) := by decide +kernel
theorem dL_addRule_539 : decode cL_addRule 539 = .ok (.ifCond .eq 10, 3) := by decide +kernel
theorem dL_addRule_542 : decode cL_addRule 542 = .ok (.iconst 1, 1) := by decide +kernel
theorem dL_addRule_543 : decode cL_addRule 543 = .ok (.iload 11, 2) := by decide +kernel
theorem dL_addRule_545 : decode cL_addRule 545 = .ok (.ishl, 1) := by decide +kernel
theorem dL_addRule_546 : decode cL_addRule 546 = .ok (.goto 4, 3) := by decide +kernel
theorem dL_addRule_549 : decode cL_addRule 549 = .ok (.iconst 0, 1) := by decide +kernel
theorem dL_addRule_550 : decode cL_addRule 550 = .ok (.ior, 1) := by decide +kernel
theorem dL_addRule_551 : decode cL_addRule 551 = .ok (.iastore, 1) := by decide +kernel
theorem dL_addRule_552 : decode cL_addRule 552 = .ok (.aload 5, 2) := by decide +kernel
theorem dL_addRule_554 : decode cL_addRule 554 = .ok (.bipush 6, 2) := by decide +kernel
theorem dL_addRule_556 : decode cL_addRule 556 = .ok (.dup2, 1) := by decide +kernel
theorem dL_addRule_557 : decode cL_addRule 557 = .ok (.iaload, 1) := by decide +kernel
theorem dL_addRule_558 : decode cL_addRule 558 = .ok (.iload 13, 2) := by decide +kernel
theorem dL_addRule_560 : decode cL_addRule 560 = .ok (.ifCond .eq 10, 3) := by decide +kernel
theorem dL_addRule_563 : decode cL_addRule 563 = .ok (.iconst 1, 1) := by decide +kernel
theorem dL_addRule_564 : decode cL_addRule 564 = .ok (.iload 11, 2) := by decide +kernel
theorem dL_addRule_566 : decode cL_addRule 566 = .ok (.ishl, 1) := by decide +kernel
theorem dL_addRule_567 : decode cL_addRule 567 = .ok (.goto 4, 3) := by decide +kernel
theorem dL_addRule_570 : decode cL_addRule 570 = .ok (.iconst 0, 1) := by decide +kernel
theorem dL_addRule_571 : decode cL_addRule 571 = .ok (.ior, 1) := by decide +kernel
theorem dL_addRule_572 : decode cL_addRule 572 = .ok (.iastore, 1) := by decide +kernel
theorem dL_addRule_573 : decode cL_addRule 573 = .ok (.aload 5, 2) := by decide +kernel
theorem dL_addRule_575 : decode cL_addRule 575 = .ok (.bipush 9, 2) := by decide +kernel
theorem dL_addRule_577 : decode cL_addRule 577 = .ok (.dup2, 1) := by decide +kernel
theorem dL_addRule_578 : decode cL_addRule 578 = .ok (.iaload, 1) := by decide +kernel
theorem dL_addRule_579 : decode cL_addRule 579 = .ok (.iload 13, 2) := by decide +kernel
theorem dL_addRule_581 : decode cL_addRule 581 = .ok (.ifCond .eq 7, 3) := by decide +kernel
theorem dL_addRule_584 : decode cL_addRule 584 = .ok (.iconst 0, 1) := by decide +kernel
theorem dL_addRule_585 : decode cL_addRule 585 = .ok (.goto 7, 3) := by decide +kernel
theorem dL_addRule_588 : decode cL_addRule 588 = .ok (.iconst 1, 1) := by decide +kernel
theorem dL_addRule_589 : decode cL_addRule 589 = .ok (.iload 11, 2) := by decide +kernel
theorem dL_addRule_591 : decode cL_addRule 591 = .ok (.ishl, 1) := by decide +kernel
theorem dL_addRule_592 : decode cL_addRule 592 = .ok (.ior, 1) := by decide +kernel
theorem dL_addRule_593 : decode cL_addRule 593 = .ok (.iastore, 1) := by decide +kernel
theorem dL_addRule_594 : decode cL_addRule 594 = .ok (.iinc 10 1, 3) := by decide +kernel
theorem dL_addRule_597 : decode cL_addRule 597 = .ok (.goto (-281), 3) := by decide +kernel
theorem dL_addRule_600 : decode cL_addRule 600 = .ok (.aload 5, 2) := by decide +kernel
theorem dL_addRule_602 : decode cL_addRule 602 = .ok (.bipush 10, 2) := by decide +kernel
theorem dL_addRule_604 : decode cL_addRule 604 = .ok (.iload 8, 2) := by decide +kernel
theorem dL_addRule_606 : decode cL_addRule 606 = .ok (.invokestatic 100, 3) := by decide +kernel
theorem dL_addRule_609 : decode cL_addRule 609 = .ok (.iastore, 1) := by decide +kernel
theorem dL_addRule_610 : decode cL_addRule 610 = .ok (.aload 5, 2) := by decide +kernel
theorem dL_addRule_612 : decode cL_addRule 612 = .ok (.areturn, 1) := by decide +kernel
